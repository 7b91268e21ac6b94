-- 06.check7.lean.txt
section
set_option maxRecDepth 1000000 in
theorem c_m255 : n_meth 255 = true := by decide +kernel
set_option maxRecDepth 1000000 in
theorem c_m256 : n_meth 256 = true := by decide +kernel
set_option maxRecDepth 1000000 in
theorem c_m257 : n_meth 257 = true := by decide +kernel
set_option maxRecDepth 1000000 in
theorem c_m258 : n_meth 258 = true := by decide +kernel
set_option maxRecDepth 1000000 in
theorem c_m259 : n_meth 259 = true := by decide +kernel
set_option maxRecDepth 1000000 in
theorem c_m260 : n_meth 260 = true := by decide +kernel
set_option maxRecDepth 1000000 in
theorem c_m261 : n_meth 261 = true := by decide +kernel
set_option maxRecDepth 1000000 in
theorem c_m262 : n_meth 262 = true := by decide +kernel
set_option maxRecDepth 1000000 in
theorem c_m263 : n_meth 263 = true := by decide +kernel
set_option maxRecDepth 1000000 in
theorem c_m264 : n_meth 264 = true := by decide +kernel
set_option maxRecDepth 1000000 in
theorem c_m265 : n_meth 265 = true := by decide +kernel
set_option maxRecDepth 1000000 in
theorem c_m266 : n_meth 266 = true := by decide +kernel
set_option maxRecDepth 1000000 in
theorem c_m267 : n_meth 267 = true := by decide +kernel
set_option maxRecDepth 1000000 in
theorem c_m268 : n_meth 268 = true := by decide +kernel
set_option maxRecDepth 1000000 in
theorem c_m269 : n_meth 269 = true := by decide +kernel
set_option maxRecDepth 1000000 in
theorem c_m270 : n_meth 270 = true := by decide +kernel
set_option maxRecDepth 1000000 in
theorem c_m271 : n_meth 271 = true := by decide +kernel
set_option maxRecDepth 1000000 in
theorem c_m272 : n_meth 272 = true := by decide +kernel
set_option maxRecDepth 1000000 in
theorem c_m273 : n_meth 273 = true := by decide +kernel
set_option maxRecDepth 1000000 in
theorem c_m274 : n_meth 274 = true := by decide +kernel
set_option maxRecDepth 1000000 in
theorem c_m275 : n_meth 275 = true := by decide +kernel
set_option maxRecDepth 1000000 in
theorem c_m276 : n_meth 276 = true := by decide +kernel
set_option maxRecDepth 1000000 in
theorem c_m277 : n_meth 277 = true := by decide +kernel
set_option maxRecDepth 1000000 in
theorem c_m278 : n_meth 278 = true := by decide +kernel
set_option maxRecDepth 1000000 in
theorem c_m279 : n_meth 279 = true := by decide +kernel
set_option maxRecDepth 1000000 in
theorem c_m280 : n_meth 280 = true := by decide +kernel
set_option maxRecDepth 1000000 in
theorem c_m281 : n_meth 281 = true := by decide +kernel
set_option maxRecDepth 1000000 in
theorem c_m282 : n_meth 282 = true := by decide +kernel
set_option maxRecDepth 1000000 in
theorem c_m283 : n_meth 283 = true := by decide +kernel
set_option maxRecDepth 1000000 in
theorem c_m284 : n_meth 284 = true := by decide +kernel
set_option maxRecDepth 1000000 in
theorem c_m285 : n_meth 285 = true := by decide +kernel
set_option maxRecDepth 1000000 in
theorem c_m286 : n_meth 286 = true := by decide +kernel
set_option maxRecDepth 1000000 in
theorem c_m287 : n_meth 287 = true := by decide +kernel
set_option maxRecDepth 1000000 in
theorem c_m288 : n_meth 288 = true := by decide +kernel
set_option maxRecDepth 1000000 in
theorem c_m289 : n_meth 289 = true := by decide +kernel
set_option maxRecDepth 1000000 in
theorem c_m290 : n_meth 290 = true := by decide +kernel
set_option maxRecDepth 1000000 in
theorem c_m291 : n_meth 291 = true := by decide +kernel
set_option maxRecDepth 1000000 in
theorem c_m292 : n_meth 292 = true := by decide +kernel
set_option maxRecDepth 1000000 in
theorem c_m293 : n_meth 293 = true := by decide +kernel
set_option maxRecDepth 1000000 in
theorem c_m294 : n_meth 294 = true := by decide +kernel
set_option maxRecDepth 1000000 in
theorem c_m295 : n_meth 295 = true := by decide +kernel
set_option maxRecDepth 1000000 in
theorem c_m296 : n_meth 296 = true := by decide +kernel
set_option maxRecDepth 1000000 in
theorem c_m297 : n_meth 297 = true := by decide +kernel
set_option maxRecDepth 1000000 in
theorem c_m298 : n_meth 298 = true := by decide +kernel
set_option maxRecDepth 1000000 in
theorem c_m299 : n_meth 299 = true := by decide +kernel
set_option maxRecDepth 1000000 in
theorem c_m300 : n_meth 300 = true := by decide +kernel
set_option maxRecDepth 1000000 in
theorem c_m301 : n_meth 301 = true := by decide +kernel
set_option maxRecDepth 1000000 in
theorem c_m302 : n_meth 302 = true := by decide +kernel
theorem c_p7 : (List.range' 255 48).all (fun k => !(c_plain k) || n_M k) = true := by decide +kernel
end
-- 06.check9.lean.txt
section
set_option maxRecDepth 1000000 in
theorem c_m303 : n_meth 303 = true := by decide +kernel
theorem n_all (k : Nat) (hk : k < 304) : n_meth k = true := by
  rcases Nat.lt_or_ge k 152 with h | h
  · rcases Nat.lt_or_ge k 76 with h | h
    · rcases Nat.lt_or_ge k 38 with h | h
      · rcases Nat.lt_or_ge k 19 with h | h
        · rcases Nat.lt_or_ge k 9 with h | h
          · rcases Nat.lt_or_ge k 4 with h | h
            · rcases Nat.lt_or_ge k 2 with h | h
              · rcases Nat.lt_or_ge k 1 with h | h
                · have e : k = 0 := by omega
                  subst e
                  exact c_m0
                · have e : k = 1 := by omega
                  subst e
                  exact c_m1
              · rcases Nat.lt_or_ge k 3 with h | h
                · have e : k = 2 := by omega
                  subst e
                  exact c_m2
                · have e : k = 3 := by omega
                  subst e
                  exact c_m3
            · rcases Nat.lt_or_ge k 6 with h | h
              · rcases Nat.lt_or_ge k 5 with h | h
                · have e : k = 4 := by omega
                  subst e
                  exact c_m4
                · have e : k = 5 := by omega
                  subst e
                  exact c_m5
              · rcases Nat.lt_or_ge k 7 with h | h
                · have e : k = 6 := by omega
                  subst e
                  exact c_m6
                · rcases Nat.lt_or_ge k 8 with h | h
                  · have e : k = 7 := by omega
                    subst e
                    exact c_m7
                  · have e : k = 8 := by omega
                    subst e
                    exact c_m8
          · rcases Nat.lt_or_ge k 14 with h | h
            · rcases Nat.lt_or_ge k 11 with h | h
              · rcases Nat.lt_or_ge k 10 with h | h
                · have e : k = 9 := by omega
                  subst e
                  exact c_m9
                · have e : k = 10 := by omega
                  subst e
                  exact c_m10
              · rcases Nat.lt_or_ge k 12 with h | h
                · have e : k = 11 := by omega
                  subst e
                  exact c_m11
                · rcases Nat.lt_or_ge k 13 with h | h
                  · have e : k = 12 := by omega
                    subst e
                    exact c_m12
                  · have e : k = 13 := by omega
                    subst e
                    exact c_m13
            · rcases Nat.lt_or_ge k 16 with h | h
              · rcases Nat.lt_or_ge k 15 with h | h
                · have e : k = 14 := by omega
                  subst e
                  exact c_m14
                · have e : k = 15 := by omega
                  subst e
                  exact c_m15
              · rcases Nat.lt_or_ge k 17 with h | h
                · have e : k = 16 := by omega
                  subst e
                  exact c_m16
                · rcases Nat.lt_or_ge k 18 with h | h
                  · have e : k = 17 := by omega
                    subst e
                    exact c_m17
                  · have e : k = 18 := by omega
                    subst e
                    exact c_m18
        · rcases Nat.lt_or_ge k 28 with h | h
          · rcases Nat.lt_or_ge k 23 with h | h
            · rcases Nat.lt_or_ge k 21 with h | h
              · rcases Nat.lt_or_ge k 20 with h | h
                · have e : k = 19 := by omega
                  subst e
                  exact c_m19
                · have e : k = 20 := by omega
                  subst e
                  exact c_m20
              · rcases Nat.lt_or_ge k 22 with h | h
                · have e : k = 21 := by omega
                  subst e
                  exact c_m21
                · have e : k = 22 := by omega
                  subst e
                  exact c_m22
            · rcases Nat.lt_or_ge k 25 with h | h
              · rcases Nat.lt_or_ge k 24 with h | h
                · have e : k = 23 := by omega
                  subst e
                  exact c_m23
                · have e : k = 24 := by omega
                  subst e
                  exact c_m24
              · rcases Nat.lt_or_ge k 26 with h | h
                · have e : k = 25 := by omega
                  subst e
                  exact c_m25
                · rcases Nat.lt_or_ge k 27 with h | h
                  · have e : k = 26 := by omega
                    subst e
                    exact c_m26
                  · have e : k = 27 := by omega
                    subst e
                    exact c_m27
          · rcases Nat.lt_or_ge k 33 with h | h
            · rcases Nat.lt_or_ge k 30 with h | h
              · rcases Nat.lt_or_ge k 29 with h | h
                · have e : k = 28 := by omega
                  subst e
                  exact c_m28
                · have e : k = 29 := by omega
                  subst e
                  exact c_m29
              · rcases Nat.lt_or_ge k 31 with h | h
                · have e : k = 30 := by omega
                  subst e
                  exact c_m30
                · rcases Nat.lt_or_ge k 32 with h | h
                  · have e : k = 31 := by omega
                    subst e
                    exact c_m31
                  · have e : k = 32 := by omega
                    subst e
                    exact c_m32
            · rcases Nat.lt_or_ge k 35 with h | h
              · rcases Nat.lt_or_ge k 34 with h | h
                · have e : k = 33 := by omega
                  subst e
                  exact c_m33
                · have e : k = 34 := by omega
                  subst e
                  exact c_m34
              · rcases Nat.lt_or_ge k 36 with h | h
                · have e : k = 35 := by omega
                  subst e
                  exact c_m35
                · rcases Nat.lt_or_ge k 37 with h | h
                  · have e : k = 36 := by omega
                    subst e
                    exact c_m36
                  · have e : k = 37 := by omega
                    subst e
                    exact c_m37
      · rcases Nat.lt_or_ge k 57 with h | h
        · rcases Nat.lt_or_ge k 47 with h | h
          · rcases Nat.lt_or_ge k 42 with h | h
            · rcases Nat.lt_or_ge k 40 with h | h
              · rcases Nat.lt_or_ge k 39 with h | h
                · have e : k = 38 := by omega
                  subst e
                  exact c_m38
                · have e : k = 39 := by omega
                  subst e
                  exact c_m39
              · rcases Nat.lt_or_ge k 41 with h | h
                · have e : k = 40 := by omega
                  subst e
                  exact c_m40
                · have e : k = 41 := by omega
                  subst e
                  exact c_m41
            · rcases Nat.lt_or_ge k 44 with h | h
              · rcases Nat.lt_or_ge k 43 with h | h
                · have e : k = 42 := by omega
                  subst e
                  exact c_m42
                · have e : k = 43 := by omega
                  subst e
                  exact c_m43
              · rcases Nat.lt_or_ge k 45 with h | h
                · have e : k = 44 := by omega
                  subst e
                  exact c_m44
                · rcases Nat.lt_or_ge k 46 with h | h
                  · have e : k = 45 := by omega
                    subst e
                    exact c_m45
                  · have e : k = 46 := by omega
                    subst e
                    exact c_m46
          · rcases Nat.lt_or_ge k 52 with h | h
            · rcases Nat.lt_or_ge k 49 with h | h
              · rcases Nat.lt_or_ge k 48 with h | h
                · have e : k = 47 := by omega
                  subst e
                  exact c_m47
                · have e : k = 48 := by omega
                  subst e
                  exact c_m48
              · rcases Nat.lt_or_ge k 50 with h | h
                · have e : k = 49 := by omega
                  subst e
                  exact c_m49
                · rcases Nat.lt_or_ge k 51 with h | h
                  · have e : k = 50 := by omega
                    subst e
                    exact c_m50
                  · have e : k = 51 := by omega
                    subst e
                    exact c_m51
            · rcases Nat.lt_or_ge k 54 with h | h
              · rcases Nat.lt_or_ge k 53 with h | h
                · have e : k = 52 := by omega
                  subst e
                  exact c_m52
                · have e : k = 53 := by omega
                  subst e
                  exact c_m53
              · rcases Nat.lt_or_ge k 55 with h | h
                · have e : k = 54 := by omega
                  subst e
                  exact c_m54
                · rcases Nat.lt_or_ge k 56 with h | h
                  · have e : k = 55 := by omega
                    subst e
                    exact c_m55
                  · have e : k = 56 := by omega
                    subst e
                    exact c_m56
        · rcases Nat.lt_or_ge k 66 with h | h
          · rcases Nat.lt_or_ge k 61 with h | h
            · rcases Nat.lt_or_ge k 59 with h | h
              · rcases Nat.lt_or_ge k 58 with h | h
                · have e : k = 57 := by omega
                  subst e
                  exact c_m57
                · have e : k = 58 := by omega
                  subst e
                  exact c_m58
              · rcases Nat.lt_or_ge k 60 with h | h
                · have e : k = 59 := by omega
                  subst e
                  exact c_m59
                · have e : k = 60 := by omega
                  subst e
                  exact c_m60
            · rcases Nat.lt_or_ge k 63 with h | h
              · rcases Nat.lt_or_ge k 62 with h | h
                · have e : k = 61 := by omega
                  subst e
                  exact c_m61
                · have e : k = 62 := by omega
                  subst e
                  exact c_m62
              · rcases Nat.lt_or_ge k 64 with h | h
                · have e : k = 63 := by omega
                  subst e
                  exact c_m63
                · rcases Nat.lt_or_ge k 65 with h | h
                  · have e : k = 64 := by omega
                    subst e
                    exact c_m64
                  · have e : k = 65 := by omega
                    subst e
                    exact c_m65
          · rcases Nat.lt_or_ge k 71 with h | h
            · rcases Nat.lt_or_ge k 68 with h | h
              · rcases Nat.lt_or_ge k 67 with h | h
                · have e : k = 66 := by omega
                  subst e
                  exact c_m66
                · have e : k = 67 := by omega
                  subst e
                  exact c_m67
              · rcases Nat.lt_or_ge k 69 with h | h
                · have e : k = 68 := by omega
                  subst e
                  exact c_m68
                · rcases Nat.lt_or_ge k 70 with h | h
                  · have e : k = 69 := by omega
                    subst e
                    exact c_m69
                  · have e : k = 70 := by omega
                    subst e
                    exact c_m70
            · rcases Nat.lt_or_ge k 73 with h | h
              · rcases Nat.lt_or_ge k 72 with h | h
                · have e : k = 71 := by omega
                  subst e
                  exact c_m71
                · have e : k = 72 := by omega
                  subst e
                  exact c_m72
              · rcases Nat.lt_or_ge k 74 with h | h
                · have e : k = 73 := by omega
                  subst e
                  exact c_m73
                · rcases Nat.lt_or_ge k 75 with h | h
                  · have e : k = 74 := by omega
                    subst e
                    exact c_m74
                  · have e : k = 75 := by omega
                    subst e
                    exact c_m75
    · rcases Nat.lt_or_ge k 114 with h | h
      · rcases Nat.lt_or_ge k 95 with h | h
        · rcases Nat.lt_or_ge k 85 with h | h
          · rcases Nat.lt_or_ge k 80 with h | h
            · rcases Nat.lt_or_ge k 78 with h | h
              · rcases Nat.lt_or_ge k 77 with h | h
                · have e : k = 76 := by omega
                  subst e
                  exact c_m76
                · have e : k = 77 := by omega
                  subst e
                  exact c_m77
              · rcases Nat.lt_or_ge k 79 with h | h
                · have e : k = 78 := by omega
                  subst e
                  exact c_m78
                · have e : k = 79 := by omega
                  subst e
                  exact c_m79
            · rcases Nat.lt_or_ge k 82 with h | h
              · rcases Nat.lt_or_ge k 81 with h | h
                · have e : k = 80 := by omega
                  subst e
                  exact c_m80
                · have e : k = 81 := by omega
                  subst e
                  exact c_m81
              · rcases Nat.lt_or_ge k 83 with h | h
                · have e : k = 82 := by omega
                  subst e
                  exact c_m82
                · rcases Nat.lt_or_ge k 84 with h | h
                  · have e : k = 83 := by omega
                    subst e
                    exact c_m83
                  · have e : k = 84 := by omega
                    subst e
                    exact c_m84
          · rcases Nat.lt_or_ge k 90 with h | h
            · rcases Nat.lt_or_ge k 87 with h | h
              · rcases Nat.lt_or_ge k 86 with h | h
                · have e : k = 85 := by omega
                  subst e
                  exact c_m85
                · have e : k = 86 := by omega
                  subst e
                  exact c_m86
              · rcases Nat.lt_or_ge k 88 with h | h
                · have e : k = 87 := by omega
                  subst e
                  exact c_m87
                · rcases Nat.lt_or_ge k 89 with h | h
                  · have e : k = 88 := by omega
                    subst e
                    exact c_m88
                  · have e : k = 89 := by omega
                    subst e
                    exact c_m89
            · rcases Nat.lt_or_ge k 92 with h | h
              · rcases Nat.lt_or_ge k 91 with h | h
                · have e : k = 90 := by omega
                  subst e
                  exact c_m90
                · have e : k = 91 := by omega
                  subst e
                  exact c_m91
              · rcases Nat.lt_or_ge k 93 with h | h
                · have e : k = 92 := by omega
                  subst e
                  exact c_m92
                · rcases Nat.lt_or_ge k 94 with h | h
                  · have e : k = 93 := by omega
                    subst e
                    exact c_m93
                  · have e : k = 94 := by omega
                    subst e
                    exact c_m94
        · rcases Nat.lt_or_ge k 104 with h | h
          · rcases Nat.lt_or_ge k 99 with h | h
            · rcases Nat.lt_or_ge k 97 with h | h
              · rcases Nat.lt_or_ge k 96 with h | h
                · have e : k = 95 := by omega
                  subst e
                  exact c_m95
                · have e : k = 96 := by omega
                  subst e
                  exact c_m96
              · rcases Nat.lt_or_ge k 98 with h | h
                · have e : k = 97 := by omega
                  subst e
                  exact c_m97
                · have e : k = 98 := by omega
                  subst e
                  exact c_m98
            · rcases Nat.lt_or_ge k 101 with h | h
              · rcases Nat.lt_or_ge k 100 with h | h
                · have e : k = 99 := by omega
                  subst e
                  exact c_m99
                · have e : k = 100 := by omega
                  subst e
                  exact c_m100
              · rcases Nat.lt_or_ge k 102 with h | h
                · have e : k = 101 := by omega
                  subst e
                  exact c_m101
                · rcases Nat.lt_or_ge k 103 with h | h
                  · have e : k = 102 := by omega
                    subst e
                    exact c_m102
                  · have e : k = 103 := by omega
                    subst e
                    exact c_m103
          · rcases Nat.lt_or_ge k 109 with h | h
            · rcases Nat.lt_or_ge k 106 with h | h
              · rcases Nat.lt_or_ge k 105 with h | h
                · have e : k = 104 := by omega
                  subst e
                  exact c_m104
                · have e : k = 105 := by omega
                  subst e
                  exact c_m105
              · rcases Nat.lt_or_ge k 107 with h | h
                · have e : k = 106 := by omega
                  subst e
                  exact c_m106
                · rcases Nat.lt_or_ge k 108 with h | h
                  · have e : k = 107 := by omega
                    subst e
                    exact c_m107
                  · have e : k = 108 := by omega
                    subst e
                    exact c_m108
            · rcases Nat.lt_or_ge k 111 with h | h
              · rcases Nat.lt_or_ge k 110 with h | h
                · have e : k = 109 := by omega
                  subst e
                  exact c_m109
                · have e : k = 110 := by omega
                  subst e
                  exact c_m110
              · rcases Nat.lt_or_ge k 112 with h | h
                · have e : k = 111 := by omega
                  subst e
                  exact c_m111
                · rcases Nat.lt_or_ge k 113 with h | h
                  · have e : k = 112 := by omega
                    subst e
                    exact c_m112
                  · have e : k = 113 := by omega
                    subst e
                    exact c_m113
      · rcases Nat.lt_or_ge k 133 with h | h
        · rcases Nat.lt_or_ge k 123 with h | h
          · rcases Nat.lt_or_ge k 118 with h | h
            · rcases Nat.lt_or_ge k 116 with h | h
              · rcases Nat.lt_or_ge k 115 with h | h
                · have e : k = 114 := by omega
                  subst e
                  exact c_m114
                · have e : k = 115 := by omega
                  subst e
                  exact c_m115
              · rcases Nat.lt_or_ge k 117 with h | h
                · have e : k = 116 := by omega
                  subst e
                  exact c_m116
                · have e : k = 117 := by omega
                  subst e
                  exact c_m117
            · rcases Nat.lt_or_ge k 120 with h | h
              · rcases Nat.lt_or_ge k 119 with h | h
                · have e : k = 118 := by omega
                  subst e
                  exact c_m118
                · have e : k = 119 := by omega
                  subst e
                  exact c_m119
              · rcases Nat.lt_or_ge k 121 with h | h
                · have e : k = 120 := by omega
                  subst e
                  exact c_m120
                · rcases Nat.lt_or_ge k 122 with h | h
                  · have e : k = 121 := by omega
                    subst e
                    exact c_m121
                  · have e : k = 122 := by omega
                    subst e
                    exact c_m122
          · rcases Nat.lt_or_ge k 128 with h | h
            · rcases Nat.lt_or_ge k 125 with h | h
              · rcases Nat.lt_or_ge k 124 with h | h
                · have e : k = 123 := by omega
                  subst e
                  exact c_m123
                · have e : k = 124 := by omega
                  subst e
                  exact c_m124
              · rcases Nat.lt_or_ge k 126 with h | h
                · have e : k = 125 := by omega
                  subst e
                  exact c_m125
                · rcases Nat.lt_or_ge k 127 with h | h
                  · have e : k = 126 := by omega
                    subst e
                    exact c_m126
                  · have e : k = 127 := by omega
                    subst e
                    exact c_m127
            · rcases Nat.lt_or_ge k 130 with h | h
              · rcases Nat.lt_or_ge k 129 with h | h
                · have e : k = 128 := by omega
                  subst e
                  exact c_m128
                · have e : k = 129 := by omega
                  subst e
                  exact c_m129
              · rcases Nat.lt_or_ge k 131 with h | h
                · have e : k = 130 := by omega
                  subst e
                  exact c_m130
                · rcases Nat.lt_or_ge k 132 with h | h
                  · have e : k = 131 := by omega
                    subst e
                    exact c_m131
                  · have e : k = 132 := by omega
                    subst e
                    exact c_m132
        · rcases Nat.lt_or_ge k 142 with h | h
          · rcases Nat.lt_or_ge k 137 with h | h
            · rcases Nat.lt_or_ge k 135 with h | h
              · rcases Nat.lt_or_ge k 134 with h | h
                · have e : k = 133 := by omega
                  subst e
                  exact c_m133
                · have e : k = 134 := by omega
                  subst e
                  exact c_m134
              · rcases Nat.lt_or_ge k 136 with h | h
                · have e : k = 135 := by omega
                  subst e
                  exact c_m135
                · have e : k = 136 := by omega
                  subst e
                  exact c_m136
            · rcases Nat.lt_or_ge k 139 with h | h
              · rcases Nat.lt_or_ge k 138 with h | h
                · have e : k = 137 := by omega
                  subst e
                  exact c_m137
                · have e : k = 138 := by omega
                  subst e
                  exact c_m138
              · rcases Nat.lt_or_ge k 140 with h | h
                · have e : k = 139 := by omega
                  subst e
                  exact c_m139
                · rcases Nat.lt_or_ge k 141 with h | h
                  · have e : k = 140 := by omega
                    subst e
                    exact c_m140
                  · have e : k = 141 := by omega
                    subst e
                    exact c_m141
          · rcases Nat.lt_or_ge k 147 with h | h
            · rcases Nat.lt_or_ge k 144 with h | h
              · rcases Nat.lt_or_ge k 143 with h | h
                · have e : k = 142 := by omega
                  subst e
                  exact c_m142
                · have e : k = 143 := by omega
                  subst e
                  exact c_m143
              · rcases Nat.lt_or_ge k 145 with h | h
                · have e : k = 144 := by omega
                  subst e
                  exact c_m144
                · rcases Nat.lt_or_ge k 146 with h | h
                  · have e : k = 145 := by omega
                    subst e
                    exact c_m145
                  · have e : k = 146 := by omega
                    subst e
                    exact c_m146
            · rcases Nat.lt_or_ge k 149 with h | h
              · rcases Nat.lt_or_ge k 148 with h | h
                · have e : k = 147 := by omega
                  subst e
                  exact c_m147
                · have e : k = 148 := by omega
                  subst e
                  exact c_m148
              · rcases Nat.lt_or_ge k 150 with h | h
                · have e : k = 149 := by omega
                  subst e
                  exact c_m149
                · rcases Nat.lt_or_ge k 151 with h | h
                  · have e : k = 150 := by omega
                    subst e
                    exact c_m150
                  · have e : k = 151 := by omega
                    subst e
                    exact c_m151
  · rcases Nat.lt_or_ge k 228 with h | h
    · rcases Nat.lt_or_ge k 190 with h | h
      · rcases Nat.lt_or_ge k 171 with h | h
        · rcases Nat.lt_or_ge k 161 with h | h
          · rcases Nat.lt_or_ge k 156 with h | h
            · rcases Nat.lt_or_ge k 154 with h | h
              · rcases Nat.lt_or_ge k 153 with h | h
                · have e : k = 152 := by omega
                  subst e
                  exact c_m152
                · have e : k = 153 := by omega
                  subst e
                  exact c_m153
              · rcases Nat.lt_or_ge k 155 with h | h
                · have e : k = 154 := by omega
                  subst e
                  exact c_m154
                · have e : k = 155 := by omega
                  subst e
                  exact c_m155
            · rcases Nat.lt_or_ge k 158 with h | h
              · rcases Nat.lt_or_ge k 157 with h | h
                · have e : k = 156 := by omega
                  subst e
                  exact c_m156
                · have e : k = 157 := by omega
                  subst e
                  exact c_m157
              · rcases Nat.lt_or_ge k 159 with h | h
                · have e : k = 158 := by omega
                  subst e
                  exact c_m158
                · rcases Nat.lt_or_ge k 160 with h | h
                  · have e : k = 159 := by omega
                    subst e
                    exact c_m159
                  · have e : k = 160 := by omega
                    subst e
                    exact c_m160
          · rcases Nat.lt_or_ge k 166 with h | h
            · rcases Nat.lt_or_ge k 163 with h | h
              · rcases Nat.lt_or_ge k 162 with h | h
                · have e : k = 161 := by omega
                  subst e
                  exact c_m161
                · have e : k = 162 := by omega
                  subst e
                  exact c_m162
              · rcases Nat.lt_or_ge k 164 with h | h
                · have e : k = 163 := by omega
                  subst e
                  exact c_m163
                · rcases Nat.lt_or_ge k 165 with h | h
                  · have e : k = 164 := by omega
                    subst e
                    exact c_m164
                  · have e : k = 165 := by omega
                    subst e
                    exact c_m165
            · rcases Nat.lt_or_ge k 168 with h | h
              · rcases Nat.lt_or_ge k 167 with h | h
                · have e : k = 166 := by omega
                  subst e
                  exact c_m166
                · have e : k = 167 := by omega
                  subst e
                  exact c_m167
              · rcases Nat.lt_or_ge k 169 with h | h
                · have e : k = 168 := by omega
                  subst e
                  exact c_m168
                · rcases Nat.lt_or_ge k 170 with h | h
                  · have e : k = 169 := by omega
                    subst e
                    exact c_m169
                  · have e : k = 170 := by omega
                    subst e
                    exact c_m170
        · rcases Nat.lt_or_ge k 180 with h | h
          · rcases Nat.lt_or_ge k 175 with h | h
            · rcases Nat.lt_or_ge k 173 with h | h
              · rcases Nat.lt_or_ge k 172 with h | h
                · have e : k = 171 := by omega
                  subst e
                  exact c_m171
                · have e : k = 172 := by omega
                  subst e
                  exact c_m172
              · rcases Nat.lt_or_ge k 174 with h | h
                · have e : k = 173 := by omega
                  subst e
                  exact c_m173
                · have e : k = 174 := by omega
                  subst e
                  exact c_m174
            · rcases Nat.lt_or_ge k 177 with h | h
              · rcases Nat.lt_or_ge k 176 with h | h
                · have e : k = 175 := by omega
                  subst e
                  exact c_m175
                · have e : k = 176 := by omega
                  subst e
                  exact c_m176
              · rcases Nat.lt_or_ge k 178 with h | h
                · have e : k = 177 := by omega
                  subst e
                  exact c_m177
                · rcases Nat.lt_or_ge k 179 with h | h
                  · have e : k = 178 := by omega
                    subst e
                    exact c_m178
                  · have e : k = 179 := by omega
                    subst e
                    exact c_m179
          · rcases Nat.lt_or_ge k 185 with h | h
            · rcases Nat.lt_or_ge k 182 with h | h
              · rcases Nat.lt_or_ge k 181 with h | h
                · have e : k = 180 := by omega
                  subst e
                  exact c_m180
                · have e : k = 181 := by omega
                  subst e
                  exact c_m181
              · rcases Nat.lt_or_ge k 183 with h | h
                · have e : k = 182 := by omega
                  subst e
                  exact c_m182
                · rcases Nat.lt_or_ge k 184 with h | h
                  · have e : k = 183 := by omega
                    subst e
                    exact c_m183
                  · have e : k = 184 := by omega
                    subst e
                    exact c_m184
            · rcases Nat.lt_or_ge k 187 with h | h
              · rcases Nat.lt_or_ge k 186 with h | h
                · have e : k = 185 := by omega
                  subst e
                  exact c_m185
                · have e : k = 186 := by omega
                  subst e
                  exact c_m186
              · rcases Nat.lt_or_ge k 188 with h | h
                · have e : k = 187 := by omega
                  subst e
                  exact c_m187
                · rcases Nat.lt_or_ge k 189 with h | h
                  · have e : k = 188 := by omega
                    subst e
                    exact c_m188
                  · have e : k = 189 := by omega
                    subst e
                    exact c_m189
      · rcases Nat.lt_or_ge k 209 with h | h
        · rcases Nat.lt_or_ge k 199 with h | h
          · rcases Nat.lt_or_ge k 194 with h | h
            · rcases Nat.lt_or_ge k 192 with h | h
              · rcases Nat.lt_or_ge k 191 with h | h
                · have e : k = 190 := by omega
                  subst e
                  exact c_m190
                · have e : k = 191 := by omega
                  subst e
                  exact c_m191
              · rcases Nat.lt_or_ge k 193 with h | h
                · have e : k = 192 := by omega
                  subst e
                  exact c_m192
                · have e : k = 193 := by omega
                  subst e
                  exact c_m193
            · rcases Nat.lt_or_ge k 196 with h | h
              · rcases Nat.lt_or_ge k 195 with h | h
                · have e : k = 194 := by omega
                  subst e
                  exact c_m194
                · have e : k = 195 := by omega
                  subst e
                  exact c_m195
              · rcases Nat.lt_or_ge k 197 with h | h
                · have e : k = 196 := by omega
                  subst e
                  exact c_m196
                · rcases Nat.lt_or_ge k 198 with h | h
                  · have e : k = 197 := by omega
                    subst e
                    exact c_m197
                  · have e : k = 198 := by omega
                    subst e
                    exact c_m198
          · rcases Nat.lt_or_ge k 204 with h | h
            · rcases Nat.lt_or_ge k 201 with h | h
              · rcases Nat.lt_or_ge k 200 with h | h
                · have e : k = 199 := by omega
                  subst e
                  exact c_m199
                · have e : k = 200 := by omega
                  subst e
                  exact c_m200
              · rcases Nat.lt_or_ge k 202 with h | h
                · have e : k = 201 := by omega
                  subst e
                  exact c_m201
                · rcases Nat.lt_or_ge k 203 with h | h
                  · have e : k = 202 := by omega
                    subst e
                    exact c_m202
                  · have e : k = 203 := by omega
                    subst e
                    exact c_m203
            · rcases Nat.lt_or_ge k 206 with h | h
              · rcases Nat.lt_or_ge k 205 with h | h
                · have e : k = 204 := by omega
                  subst e
                  exact c_m204
                · have e : k = 205 := by omega
                  subst e
                  exact c_m205
              · rcases Nat.lt_or_ge k 207 with h | h
                · have e : k = 206 := by omega
                  subst e
                  exact c_m206
                · rcases Nat.lt_or_ge k 208 with h | h
                  · have e : k = 207 := by omega
                    subst e
                    exact c_m207
                  · have e : k = 208 := by omega
                    subst e
                    exact c_m208
        · rcases Nat.lt_or_ge k 218 with h | h
          · rcases Nat.lt_or_ge k 213 with h | h
            · rcases Nat.lt_or_ge k 211 with h | h
              · rcases Nat.lt_or_ge k 210 with h | h
                · have e : k = 209 := by omega
                  subst e
                  exact c_m209
                · have e : k = 210 := by omega
                  subst e
                  exact c_m210
              · rcases Nat.lt_or_ge k 212 with h | h
                · have e : k = 211 := by omega
                  subst e
                  exact c_m211
                · have e : k = 212 := by omega
                  subst e
                  exact c_m212
            · rcases Nat.lt_or_ge k 215 with h | h
              · rcases Nat.lt_or_ge k 214 with h | h
                · have e : k = 213 := by omega
                  subst e
                  exact c_m213
                · have e : k = 214 := by omega
                  subst e
                  exact c_m214
              · rcases Nat.lt_or_ge k 216 with h | h
                · have e : k = 215 := by omega
                  subst e
                  exact c_m215
                · rcases Nat.lt_or_ge k 217 with h | h
                  · have e : k = 216 := by omega
                    subst e
                    exact c_m216
                  · have e : k = 217 := by omega
                    subst e
                    exact c_m217
          · rcases Nat.lt_or_ge k 223 with h | h
            · rcases Nat.lt_or_ge k 220 with h | h
              · rcases Nat.lt_or_ge k 219 with h | h
                · have e : k = 218 := by omega
                  subst e
                  exact c_m218
                · have e : k = 219 := by omega
                  subst e
                  exact c_m219
              · rcases Nat.lt_or_ge k 221 with h | h
                · have e : k = 220 := by omega
                  subst e
                  exact c_m220
                · rcases Nat.lt_or_ge k 222 with h | h
                  · have e : k = 221 := by omega
                    subst e
                    exact c_m221
                  · have e : k = 222 := by omega
                    subst e
                    exact c_m222
            · rcases Nat.lt_or_ge k 225 with h | h
              · rcases Nat.lt_or_ge k 224 with h | h
                · have e : k = 223 := by omega
                  subst e
                  exact c_m223
                · have e : k = 224 := by omega
                  subst e
                  exact c_m224
              · rcases Nat.lt_or_ge k 226 with h | h
                · have e : k = 225 := by omega
                  subst e
                  exact c_m225
                · rcases Nat.lt_or_ge k 227 with h | h
                  · have e : k = 226 := by omega
                    subst e
                    exact c_m226
                  · have e : k = 227 := by omega
                    subst e
                    exact c_m227
    · rcases Nat.lt_or_ge k 266 with h | h
      · rcases Nat.lt_or_ge k 247 with h | h
        · rcases Nat.lt_or_ge k 237 with h | h
          · rcases Nat.lt_or_ge k 232 with h | h
            · rcases Nat.lt_or_ge k 230 with h | h
              · rcases Nat.lt_or_ge k 229 with h | h
                · have e : k = 228 := by omega
                  subst e
                  exact c_m228
                · have e : k = 229 := by omega
                  subst e
                  exact c_m229
              · rcases Nat.lt_or_ge k 231 with h | h
                · have e : k = 230 := by omega
                  subst e
                  exact c_m230
                · have e : k = 231 := by omega
                  subst e
                  exact c_m231
            · rcases Nat.lt_or_ge k 234 with h | h
              · rcases Nat.lt_or_ge k 233 with h | h
                · have e : k = 232 := by omega
                  subst e
                  exact c_m232
                · have e : k = 233 := by omega
                  subst e
                  exact c_m233
              · rcases Nat.lt_or_ge k 235 with h | h
                · have e : k = 234 := by omega
                  subst e
                  exact c_m234
                · rcases Nat.lt_or_ge k 236 with h | h
                  · have e : k = 235 := by omega
                    subst e
                    exact c_m235
                  · have e : k = 236 := by omega
                    subst e
                    exact c_m236
          · rcases Nat.lt_or_ge k 242 with h | h
            · rcases Nat.lt_or_ge k 239 with h | h
              · rcases Nat.lt_or_ge k 238 with h | h
                · have e : k = 237 := by omega
                  subst e
                  exact c_m237
                · have e : k = 238 := by omega
                  subst e
                  exact c_m238
              · rcases Nat.lt_or_ge k 240 with h | h
                · have e : k = 239 := by omega
                  subst e
                  exact c_m239
                · rcases Nat.lt_or_ge k 241 with h | h
                  · have e : k = 240 := by omega
                    subst e
                    exact c_m240
                  · have e : k = 241 := by omega
                    subst e
                    exact c_m241
            · rcases Nat.lt_or_ge k 244 with h | h
              · rcases Nat.lt_or_ge k 243 with h | h
                · have e : k = 242 := by omega
                  subst e
                  exact c_m242
                · have e : k = 243 := by omega
                  subst e
                  exact c_m243
              · rcases Nat.lt_or_ge k 245 with h | h
                · have e : k = 244 := by omega
                  subst e
                  exact c_m244
                · rcases Nat.lt_or_ge k 246 with h | h
                  · have e : k = 245 := by omega
                    subst e
                    exact c_m245
                  · have e : k = 246 := by omega
                    subst e
                    exact c_m246
        · rcases Nat.lt_or_ge k 256 with h | h
          · rcases Nat.lt_or_ge k 251 with h | h
            · rcases Nat.lt_or_ge k 249 with h | h
              · rcases Nat.lt_or_ge k 248 with h | h
                · have e : k = 247 := by omega
                  subst e
                  exact c_m247
                · have e : k = 248 := by omega
                  subst e
                  exact c_m248
              · rcases Nat.lt_or_ge k 250 with h | h
                · have e : k = 249 := by omega
                  subst e
                  exact c_m249
                · have e : k = 250 := by omega
                  subst e
                  exact c_m250
            · rcases Nat.lt_or_ge k 253 with h | h
              · rcases Nat.lt_or_ge k 252 with h | h
                · have e : k = 251 := by omega
                  subst e
                  exact c_m251
                · have e : k = 252 := by omega
                  subst e
                  exact c_m252
              · rcases Nat.lt_or_ge k 254 with h | h
                · have e : k = 253 := by omega
                  subst e
                  exact c_m253
                · rcases Nat.lt_or_ge k 255 with h | h
                  · have e : k = 254 := by omega
                    subst e
                    exact c_m254
                  · have e : k = 255 := by omega
                    subst e
                    exact c_m255
          · rcases Nat.lt_or_ge k 261 with h | h
            · rcases Nat.lt_or_ge k 258 with h | h
              · rcases Nat.lt_or_ge k 257 with h | h
                · have e : k = 256 := by omega
                  subst e
                  exact c_m256
                · have e : k = 257 := by omega
                  subst e
                  exact c_m257
              · rcases Nat.lt_or_ge k 259 with h | h
                · have e : k = 258 := by omega
                  subst e
                  exact c_m258
                · rcases Nat.lt_or_ge k 260 with h | h
                  · have e : k = 259 := by omega
                    subst e
                    exact c_m259
                  · have e : k = 260 := by omega
                    subst e
                    exact c_m260
            · rcases Nat.lt_or_ge k 263 with h | h
              · rcases Nat.lt_or_ge k 262 with h | h
                · have e : k = 261 := by omega
                  subst e
                  exact c_m261
                · have e : k = 262 := by omega
                  subst e
                  exact c_m262
              · rcases Nat.lt_or_ge k 264 with h | h
                · have e : k = 263 := by omega
                  subst e
                  exact c_m263
                · rcases Nat.lt_or_ge k 265 with h | h
                  · have e : k = 264 := by omega
                    subst e
                    exact c_m264
                  · have e : k = 265 := by omega
                    subst e
                    exact c_m265
      · rcases Nat.lt_or_ge k 285 with h | h
        · rcases Nat.lt_or_ge k 275 with h | h
          · rcases Nat.lt_or_ge k 270 with h | h
            · rcases Nat.lt_or_ge k 268 with h | h
              · rcases Nat.lt_or_ge k 267 with h | h
                · have e : k = 266 := by omega
                  subst e
                  exact c_m266
                · have e : k = 267 := by omega
                  subst e
                  exact c_m267
              · rcases Nat.lt_or_ge k 269 with h | h
                · have e : k = 268 := by omega
                  subst e
                  exact c_m268
                · have e : k = 269 := by omega
                  subst e
                  exact c_m269
            · rcases Nat.lt_or_ge k 272 with h | h
              · rcases Nat.lt_or_ge k 271 with h | h
                · have e : k = 270 := by omega
                  subst e
                  exact c_m270
                · have e : k = 271 := by omega
                  subst e
                  exact c_m271
              · rcases Nat.lt_or_ge k 273 with h | h
                · have e : k = 272 := by omega
                  subst e
                  exact c_m272
                · rcases Nat.lt_or_ge k 274 with h | h
                  · have e : k = 273 := by omega
                    subst e
                    exact c_m273
                  · have e : k = 274 := by omega
                    subst e
                    exact c_m274
          · rcases Nat.lt_or_ge k 280 with h | h
            · rcases Nat.lt_or_ge k 277 with h | h
              · rcases Nat.lt_or_ge k 276 with h | h
                · have e : k = 275 := by omega
                  subst e
                  exact c_m275
                · have e : k = 276 := by omega
                  subst e
                  exact c_m276
              · rcases Nat.lt_or_ge k 278 with h | h
                · have e : k = 277 := by omega
                  subst e
                  exact c_m277
                · rcases Nat.lt_or_ge k 279 with h | h
                  · have e : k = 278 := by omega
                    subst e
                    exact c_m278
                  · have e : k = 279 := by omega
                    subst e
                    exact c_m279
            · rcases Nat.lt_or_ge k 282 with h | h
              · rcases Nat.lt_or_ge k 281 with h | h
                · have e : k = 280 := by omega
                  subst e
                  exact c_m280
                · have e : k = 281 := by omega
                  subst e
                  exact c_m281
              · rcases Nat.lt_or_ge k 283 with h | h
                · have e : k = 282 := by omega
                  subst e
                  exact c_m282
                · rcases Nat.lt_or_ge k 284 with h | h
                  · have e : k = 283 := by omega
                    subst e
                    exact c_m283
                  · have e : k = 284 := by omega
                    subst e
                    exact c_m284
        · rcases Nat.lt_or_ge k 294 with h | h
          · rcases Nat.lt_or_ge k 289 with h | h
            · rcases Nat.lt_or_ge k 287 with h | h
              · rcases Nat.lt_or_ge k 286 with h | h
                · have e : k = 285 := by omega
                  subst e
                  exact c_m285
                · have e : k = 286 := by omega
                  subst e
                  exact c_m286
              · rcases Nat.lt_or_ge k 288 with h | h
                · have e : k = 287 := by omega
                  subst e
                  exact c_m287
                · have e : k = 288 := by omega
                  subst e
                  exact c_m288
            · rcases Nat.lt_or_ge k 291 with h | h
              · rcases Nat.lt_or_ge k 290 with h | h
                · have e : k = 289 := by omega
                  subst e
                  exact c_m289
                · have e : k = 290 := by omega
                  subst e
                  exact c_m290
              · rcases Nat.lt_or_ge k 292 with h | h
                · have e : k = 291 := by omega
                  subst e
                  exact c_m291
                · rcases Nat.lt_or_ge k 293 with h | h
                  · have e : k = 292 := by omega
                    subst e
                    exact c_m292
                  · have e : k = 293 := by omega
                    subst e
                    exact c_m293
          · rcases Nat.lt_or_ge k 299 with h | h
            · rcases Nat.lt_or_ge k 296 with h | h
              · rcases Nat.lt_or_ge k 295 with h | h
                · have e : k = 294 := by omega
                  subst e
                  exact c_m294
                · have e : k = 295 := by omega
                  subst e
                  exact c_m295
              · rcases Nat.lt_or_ge k 297 with h | h
                · have e : k = 296 := by omega
                  subst e
                  exact c_m296
                · rcases Nat.lt_or_ge k 298 with h | h
                  · have e : k = 297 := by omega
                    subst e
                    exact c_m297
                  · have e : k = 298 := by omega
                    subst e
                    exact c_m298
            · rcases Nat.lt_or_ge k 301 with h | h
              · rcases Nat.lt_or_ge k 300 with h | h
                · have e : k = 299 := by omega
                  subst e
                  exact c_m299
                · have e : k = 300 := by omega
                  subst e
                  exact c_m300
              · rcases Nat.lt_or_ge k 302 with h | h
                · have e : k = 301 := by omega
                  subst e
                  exact c_m301
                · rcases Nat.lt_or_ge k 303 with h | h
                  · have e : k = 302 := by omega
                    subst e
                    exact c_m302
                  · have e : k = 303 := by omega
                    subst e
                    exact c_m303
theorem n_pl (k : Nat) (hk : k < 303) : (!(c_plain k) || n_M k) = true := by
  by_cases h2 : k < 51
  · exact List.all_eq_true.mp c_p2 k (List.mem_range'.mpr ⟨k - 0, by omega, by omega⟩)
  by_cases h3 : k < 102
  · exact List.all_eq_true.mp c_p3 k (List.mem_range'.mpr ⟨k - 51, by omega, by omega⟩)
  by_cases h4 : k < 153
  · exact List.all_eq_true.mp c_p4 k (List.mem_range'.mpr ⟨k - 102, by omega, by omega⟩)
  by_cases h5 : k < 204
  · exact List.all_eq_true.mp c_p5 k (List.mem_range'.mpr ⟨k - 153, by omega, by omega⟩)
  by_cases h6 : k < 255
  · exact List.all_eq_true.mp c_p6 k (List.mem_range'.mpr ⟨k - 204, by omega, by omega⟩)
  by_cases h7 : k < 303
  · exact List.all_eq_true.mp c_p7 k (List.mem_range'.mpr ⟨k - 255, by omega, by omega⟩)
  omega
theorem c_rows (k : Nat) (hk : k < 304) (pc : Nat) (hp : pc < mN k) : c_row k pc = true := n_methS hk (n_all k hk) pc hp
theorem c_all (k : Nat) (hk : k < 303) : c_meth k = true := by
  unfold c_meth
  rw [Bool.and_eq_true, Bool.or_eq_true]
  refine ⟨?_, List.all_eq_true.mpr (fun pc hp => c_rows k (by omega) pc (List.mem_range.mp hp))⟩
  have h := n_pl k hk
  rw [Bool.or_eq_true] at h
  exact h.imp id (n_MS (by omega))
end
-- 07.dom.lean.txt
section
/-! Forms: names with numbers before them, and a number; bounds. -/
noncomputable abbrev pI : Type := Int × Int
noncomputable abbrev sT : Type := List (Nat × Int)
noncomputable abbrev sF : Type := sT × Int
noncomputable def s_le (a b : Int) : Bool := match b - a with
  | .ofNat _ => true
  | .negSucc _ => false
theorem s_le_iff {a b : Int} : s_le a b = true ↔ a ≤ b := by
  unfold s_le
  cases h : b - a with
  | ofNat n => exact ⟨fun _ => (by have e : b - a = (n : Int) := h; omega), fun _ => rfl⟩
  | negSucc n => exact ⟨fun h2 => (by cases h2), fun h2 => (by have e : b - a = -((n : Int) + 1) := by rw [h]; exact Int.negSucc_eq n
                                                               omega)⟩
theorem s_le_not {a b : Int} : s_le a b = false ↔ b < a := by
  rw [← Bool.not_eq_true, s_le_iff]
  omega
noncomputable def s_ie (a b : Int) : Bool := match a, b with
  | .ofNat x, .ofNat y => Nat.beq x y
  | .negSucc x, .negSucc y => Nat.beq x y
  | _, _ => false
theorem s_ie_iff {a b : Int} : s_ie a b = true ↔ a = b := by
  rcases a with x | x <;> rcases b with y | y
  · simp only [s_ie]
    exact ⟨fun h => by rw [Nat.eq_of_beq_eq_true h], fun h => by cases h; exact Nat.beq_refl x⟩
  · exact ⟨fun h => (by cases h), fun h => (by cases h)⟩
  · exact ⟨fun h => (by cases h), fun h => (by cases h)⟩
  · simp only [s_ie]
    exact ⟨fun h => by rw [Nat.eq_of_beq_eq_true h], fun h => by cases h; exact Nat.beq_refl x⟩
noncomputable def s_max (a b : Int) : Int := bif s_le a b then b else a
noncomputable def s_min (a b : Int) : Int := bif s_le a b then a else b
theorem s_max_l (a b : Int) : a ≤ s_max a b := by
  unfold s_max
  cases h : s_le a b with
  | true => exact s_le_iff.mp h
  | false => exact Int.le_refl _
theorem s_max_r (a b : Int) : b ≤ s_max a b := by
  unfold s_max
  cases h : s_le a b with
  | true => exact Int.le_refl _
  | false => have := s_le_not.mp h; show b ≤ a; omega
theorem s_max_le {a b c : Int} (h1 : a ≤ c) (h2 : b ≤ c) : s_max a b ≤ c := by
  unfold s_max
  cases s_le a b with
  | true => exact h2
  | false => exact h1
theorem s_min_l (a b : Int) : s_min a b ≤ a := by
  unfold s_min
  cases h : s_le a b with
  | true => exact Int.le_refl _
  | false => have := s_le_not.mp h; show b ≤ a; omega
theorem s_min_r (a b : Int) : s_min a b ≤ b := by
  unfold s_min
  cases h : s_le a b with
  | true => exact s_le_iff.mp h
  | false => exact Int.le_refl _
theorem s_le_min {a b c : Int} (h1 : c ≤ a) (h2 : c ≤ b) : c ≤ s_min a b := by
  unfold s_min
  cases s_le a b with
  | true => exact h1
  | false => exact h2
/-- what a sum of names comes to -/
noncomputable def s_ev (rs : List Int) : sT → Option Int
  | [] => some 0
  | (k, c) :: t => match rs[k]? with
    | none => none
    | some v => match s_ev rs t with
      | none => none
      | some w => some (c * v + w)
noncomputable def s_val (rs : List Int) (f : sF) : Option Int := match s_ev rs f.1 with
  | none => none
  | some v => some (v + f.2)
theorem s_ev_cons {rs : List Int} {k : Nat} {c : Int} {t : sT} {w : Int} : s_ev rs ((k, c) :: t) = some w ↔ ∃ v u, rs[k]? = some v ∧ s_ev rs t = some u ∧ w = c * v + u := by
  simp only [s_ev]
  constructor
  · intro h
    split at h
    · cases h
    · rename_i v hv
      split at h
      · cases h
      · rename_i u hu
        cases h
        exact ⟨v, u, hv, hu, rfl⟩
  · rintro ⟨v, u, hv, hu, rfl⟩
    rw [hv, hu]
theorem s_val_iff {rs : List Int} {f : sF} {w : Int} : s_val rs f = some w ↔ ∃ v, s_ev rs f.1 = some v ∧ w = v + f.2 := by
  unfold s_val
  constructor
  · intro h
    split at h
    · cases h
    · rename_i v hv
      cases h
      exact ⟨v, hv, rfl⟩
  · rintro ⟨v, hv, rfl⟩
    rw [hv]
theorem s_ev_mono {rs : List Int} (x : List Int) : ∀ {t : sT} {v : Int}, s_ev rs t = some v → s_ev (rs ++ x) t = some v
  | [], _, h => h
  | (k, c) :: t, v, h => by
    obtain ⟨a, u, h1, h2, rfl⟩ := s_ev_cons.mp h
    refine s_ev_cons.mpr ⟨a, u, ?_, s_ev_mono x h2, rfl⟩
    rw [List.getElem?_append_left (List.getElem?_eq_some_iff.mp h1).1]
    exact h1
theorem s_val_mono {rs : List Int} (x : List Int) {f : sF} {v : Int} (h : s_val rs f = some v) : s_val (rs ++ x) f = some v := by
  obtain ⟨a, h1, rfl⟩ := s_val_iff.mp h
  exact s_val_iff.mpr ⟨a, s_ev_mono x h1, rfl⟩
noncomputable def s_add1 (k : Nat) (c : Int) : sT → sT
  | [] => [(k, c)]
  | (j, d) :: t => bif Nat.blt k j then (k, c) :: (j, d) :: t else bif Nat.beq k j then (bif s_ie (c + d) 0 then t else (j, c + d) :: t) else (j, d) :: s_add1 k c t
theorem s_add1S {rs : List Int} {k : Nat} {c v : Int} (hv : rs[k]? = some v) : ∀ {t : sT} {w : Int}, s_ev rs t = some w → s_ev rs (s_add1 k c t) = some (c * v + w)
  | [], w, h => by
    cases h
    exact s_ev_cons.mpr ⟨v, 0, hv, rfl, rfl⟩
  | (j, d) :: t, w, h => by
    unfold s_add1
    cases h1 : Nat.blt k j with
    | true => exact s_ev_cons.mpr ⟨v, w, hv, h, rfl⟩
    | false =>
      obtain ⟨a, u, g1, g2, rfl⟩ := s_ev_cons.mp h
      cases h2 : Nat.beq k j with
      | true =>
        have e := Nat.eq_of_beq_eq_true h2
        subst e
        have ea : a = v := by rw [hv] at g1; exact (Option.some.inj g1).symm
        subst ea
        cases h3 : s_ie (c + d) 0 with
        | true =>
          have e3 := s_ie_iff.mp h3
          simp only [cond_true, cond_false]
          rw [g2]
          congr 1
          have : c * a + (d * a + u) = (c + d) * a + u := by rw [Int.add_mul]; omega
          rw [this, e3]
          omega
        | false =>
          simp only [cond_true, cond_false]
          exact s_ev_cons.mpr ⟨a, u, hv, g2, by rw [Int.add_mul]; omega⟩
      | false =>
        simp only [cond_false]
        exact s_ev_cons.mpr ⟨a, _, g1, s_add1S hv g2, by omega⟩
noncomputable def s_addT : sT → sT → sT
  | [], u => u
  | (k, c) :: t, u => s_add1 k c (s_addT t u)
theorem s_addTS {rs : List Int} : ∀ {t u : sT} {v w : Int}, s_ev rs t = some v → s_ev rs u = some w → s_ev rs (s_addT t u) = some (v + w)
  | [], u, v, w, h1, h2 => by
    cases h1
    rw [Int.zero_add]
    exact h2
  | (k, c) :: t, u, v, w, h1, h2 => by
    obtain ⟨a, b, g1, g2, rfl⟩ := s_ev_cons.mp h1
    have := s_add1S (c := c) g1 (s_addTS g2 h2)
    rw [Int.add_assoc]
    exact this
noncomputable def s_mulT (c : Int) : sT → sT
  | [] => []
  | (k, d) :: t => (k, c * d) :: s_mulT c t
theorem s_mulTS {rs : List Int} {c : Int} : ∀ {t : sT} {v : Int}, s_ev rs t = some v → s_ev rs (s_mulT c t) = some (c * v)
  | [], v, h => by
    cases h
    rw [Int.mul_zero]
    rfl
  | (k, d) :: t, v, h => by
    obtain ⟨a, b, g1, g2, rfl⟩ := s_ev_cons.mp h
    exact s_ev_cons.mpr ⟨a, _, g1, s_mulTS g2, by rw [Int.mul_add, Int.mul_assoc]⟩
noncomputable def s_add (f g : sF) : sF := (s_addT f.1 g.1, f.2 + g.2)
noncomputable def s_mul (c : Int) (f : sF) : sF := bif s_ie c 0 then ([], 0) else (s_mulT c f.1, c * f.2)
noncomputable def s_sub (f g : sF) : sF := s_add f (s_mul (-1) g)
noncomputable def s_num (z : Int) : sF := ([], z)
noncomputable def s_nm (k : Nat) : sF := ([(k, 1)], 0)
section Forms
variable {rs : List Int} {f g : sF} {v w : Int}
theorem s_numS (z : Int) : s_val rs (s_num z) = some z := s_val_iff.mpr ⟨0, rfl, by show z = 0 + z; omega⟩
theorem s_nmS {k : Nat} (h : rs[k]? = some v) : s_val rs (s_nm k) = some v := s_val_iff.mpr ⟨1 * v + 0, s_ev_cons.mpr ⟨v, 0, h, rfl, rfl⟩, by show v = 1 * v + 0 + 0; omega⟩
theorem s_addS (hf : s_val rs f = some v) (hg : s_val rs g = some w) : s_val rs (s_add f g) = some (v + w) := by
  obtain ⟨a, h1, rfl⟩ := s_val_iff.mp hf
  obtain ⟨b, h2, rfl⟩ := s_val_iff.mp hg
  exact s_val_iff.mpr ⟨_, s_addTS h1 h2, by show _ = a + b + (f.2 + g.2); omega⟩
theorem s_mulS {c : Int} (hf : s_val rs f = some v) : s_val rs (s_mul c f) = some (c * v) := by
  obtain ⟨a, h1, rfl⟩ := s_val_iff.mp hf
  unfold s_mul
  cases h : s_ie c 0 with
  | true =>
    have e := s_ie_iff.mp h
    subst e
    have e2 : (0 : Int) * (a + f.2) = 0 := Int.zero_mul _
    rw [e2]
    exact s_numS 0
  | false => exact s_val_iff.mpr ⟨_, s_mulTS h1, by show _ = c * a + c * f.2; rw [Int.mul_add]⟩
theorem s_subS (hf : s_val rs f = some v) (hg : s_val rs g = some w) : s_val rs (s_sub f g) = some (v - w) := by
  have := s_addS hf (s_mulS (c := -1) hg)
  rw [show v - w = v + -1 * w by omega]
  exact this
end Forms
noncomputable def s_eqT : sT → sT → Bool
  | [], [] => true
  | (k, c) :: t, (j, d) :: u => Nat.beq k j && s_ie c d && s_eqT t u
  | _, _ => false
theorem s_eqT_eq : ∀ {t u : sT}, s_eqT t u = true → t = u
  | [], [], _ => rfl
  | [], _ :: _, h => by cases h
  | _ :: _, [], h => by cases h
  | (k, c) :: t, (j, d) :: u, h => by
    simp only [s_eqT, Bool.and_eq_true] at h
    rw [Nat.eq_of_beq_eq_true h.1.1, s_ie_iff.mp h.1.2, s_eqT_eq h.2]
noncomputable def s_eqF (f g : sF) : Bool := s_eqT f.1 g.1 && s_ie f.2 g.2
theorem s_eqF_eq {f g : sF} (h : s_eqF f g = true) : f = g := by
  simp only [s_eqF, Bool.and_eq_true] at h
  obtain ⟨a, b⟩ := f
  obtain ⟨c, d⟩ := g
  rw [show a = c from s_eqT_eq h.1, show b = d from s_ie_iff.mp h.2]
/-- may cells be made; the names' bounds; sums that are at least so much; forms that aren't 0 -/
noncomputable abbrev sE : Type := Bool × List pI × List (sT × Int) × List sF
noncomputable def q_E (rs : List Int) (E : sE) : Prop := rs.length = E.2.1.length ∧ (∀ (k : Nat) (i : pI), E.2.1[k]? = some i → ∃ v, rs[k]? = some v ∧ i.1 ≤ v ∧ v ≤ i.2) ∧ (∀ q ∈ E.2.2.1, ∃ v, s_ev rs q.1 = some v ∧ q.2 ≤ v) ∧ (∀ f ∈ E.2.2.2, ∃ v, s_val rs f = some v ∧ v ≠ 0)
noncomputable def s_bL (B : List pI) : sT → Option pI
  | [] => some (0, 0)
  | (k, c) :: t => match B[k]? with
    | none => none
    | some (l, h) => match s_bL B t with
      | none => none
      | some (a, b) => bif s_le 0 c then some (c * l + a, c * h + b) else some (c * h + a, c * l + b)
theorem s_bLS {rs : List Int} {B : List pI} (hB : ∀ (k : Nat) (i : pI), B[k]? = some i → ∃ v, rs[k]? = some v ∧ i.1 ≤ v ∧ v ≤ i.2) : ∀ {t : sT} {i : pI} {v : Int}, s_bL B t = some i → s_ev rs t = some v → i.1 ≤ v ∧ v ≤ i.2
  | [], i, v, h1, h2 => by
    cases h1
    cases h2
    exact ⟨Int.le_refl _, Int.le_refl _⟩
  | (k, c) :: t, i, v, h1, h2 => by
    obtain ⟨a, u, g1, g2, rfl⟩ := s_ev_cons.mp h2
    unfold s_bL at h1
    split at h1
    · cases h1
    · rename_i l h hk
      split at h1
      · cases h1
      · rename_i x y hxy
        have g3 := s_bLS hB hxy g2
        obtain ⟨a', e1, e2, e3⟩ := hB k _ hk
        have ea : a' = a := by rw [g1] at e1; exact (Option.some.inj e1).symm
        subst ea
        have g31 : x ≤ u := g3.1
        have g32 : u ≤ y := g3.2
        have e2 : l ≤ a' := e2
        have e3 : a' ≤ h := e3
        cases hc : s_le 0 c with
        | true =>
          rw [hc] at h1
          cases h1
          have hc := s_le_iff.mp hc
          have m1 := Int.mul_le_mul_of_nonneg_left e2 hc
          have m2 := Int.mul_le_mul_of_nonneg_left e3 hc
          exact ⟨by show c * l + x ≤ _; omega, by show _ ≤ c * h + y; omega⟩
        | false =>
          rw [hc] at h1
          cases h1
          have hc := s_le_not.mp hc
          have m1 := Int.mul_le_mul_of_nonpos_left (a := c) (by omega) e2
          have m2 := Int.mul_le_mul_of_nonpos_left (a := c) (by omega) e3
          exact ⟨by show c * h + x ≤ _; omega, by show _ ≤ c * l + y; omega⟩
noncomputable def s_has (k : Nat) : sT → Bool
  | [] => false
  | q :: r => Nat.beq q.1 k || s_has k r
noncomputable def s_shr : sT → sT → Bool
  | [], _ => false
  | q :: r, u => s_has q.1 u || s_shr r u
/-- the least of a sum, by the bounds and by one of what is known -/
noncomputable def s_low (B : List pI) (t : sT) : List (sT × Int) → Int → Int
  | [], l => l
  | q :: r, l => bif s_shr q.1 t then (match s_bL B (s_addT t (s_mulT (-1) q.1)) with
    | none => s_low B t r l
    | some i => s_low B t r (s_max l (i.1 + q.2))) else s_low B t r l
theorem s_lowS {rs : List Int} {B : List pI} {t : sT} {v : Int} (hB : ∀ (k : Nat) (i : pI), B[k]? = some i → ∃ v, rs[k]? = some v ∧ i.1 ≤ v ∧ v ≤ i.2) (ht : s_ev rs t = some v) : ∀ {G : List (sT × Int)} {l : Int}, (∀ q ∈ G, ∃ v, s_ev rs q.1 = some v ∧ q.2 ≤ v) → l ≤ v → s_low B t G l ≤ v
  | [], l, _, h => h
  | q :: r, l, hG, h => by
    have hr := fun x (hx : x ∈ r) => hG x (List.mem_cons_of_mem _ hx)
    unfold s_low
    cases s_shr q.1 t with
    | false => exact s_lowS hB ht hr h
    | true =>
      obtain ⟨w, h1, h2⟩ := hG q List.mem_cons_self
      simp only [cond_true]
      split
      · exact s_lowS hB ht hr h
      · rename_i i hi
        have g := (s_bLS hB hi (s_addTS ht (s_mulTS (c := -1) h1))).1
        exact s_lowS hB ht hr (s_max_le h (by omega))
/-- the bounds of a form -/
noncomputable def s_bnd (E : sE) (f : sF) : Option pI := match s_bL E.2.1 f.1 with
  | none => none
  | some (l, h) => match f.1 with
    | [] => some (l + f.2, h + f.2)
    | t => some (s_low E.2.1 t E.2.2.1 l + f.2, f.2 - s_low E.2.1 (s_mulT (-1) t) E.2.2.1 (-h))
theorem s_bndS {rs : List Int} {E : sE} {f : sF} {i : pI} {v : Int} (hE : q_E rs E) (h : s_bnd E f = some i) (hf : s_val rs f = some v) : i.1 ≤ v ∧ v ≤ i.2 := by
  obtain ⟨a, h1, rfl⟩ := s_val_iff.mp hf
  unfold s_bnd at h
  split at h
  · cases h
  · rename_i l u hb
    have g := s_bLS hE.2.1 hb h1
    have g1 : l ≤ a := g.1
    have g2 : a ≤ u := g.2
    split at h
    · cases h
      exact ⟨by show l + f.2 ≤ _; omega, by show _ ≤ u + f.2; omega⟩
    · cases h
      have k1 := s_lowS hE.2.1 h1 hE.2.2.1 g1
      have k2 := s_lowS hE.2.1 (s_mulTS (c := -1) h1) hE.2.2.1 (show -u ≤ -1 * a by omega)
      exact ⟨by show _ + f.2 ≤ _; omega, by show _ ≤ f.2 - _; omega⟩
/-- is it at least z -/
noncomputable def s_gez (E : sE) (f : sF) (z : Int) : Bool := match s_bnd E f with
  | none => false
  | some i => s_le z i.1
theorem s_gezS {rs : List Int} {E : sE} {f : sF} {z v : Int} (hE : q_E rs E) (h : s_gez E f z = true) (hf : s_val rs f = some v) : z ≤ v := by
  unfold s_gez at h
  split at h
  · cases h
  · rename_i i hi
    have := (s_bndS hE hi hf).1
    have := s_le_iff.mp h
    omega
/-- the same, with two of what is known -/
noncomputable def s_geL (E : sE) (f : sF) (z : Int) : List (sT × Int) → Bool
  | [] => false
  | q :: r => (s_shr q.1 f.1 && s_gez E (s_addT f.1 (s_mulT (-1) q.1), f.2) (z - q.2)) || s_geL E f z r
theorem s_geLS {rs : List Int} {E : sE} {f : sF} {z v : Int} (hE : q_E rs E) (hf : s_val rs f = some v) : ∀ {G : List (sT × Int)}, (∀ q ∈ G, ∃ v, s_ev rs q.1 = some v ∧ q.2 ≤ v) → s_geL E f z G = true → z ≤ v
  | [], _, h => by cases h
  | q :: r, hG, h => by
    simp only [s_geL, Bool.or_eq_true, Bool.and_eq_true] at h
    rcases h with h | h
    · obtain ⟨w, h1, h2⟩ := hG q List.mem_cons_self
      obtain ⟨a, g1, rfl⟩ := s_val_iff.mp hf
      have := s_gezS hE h.2 (s_val_iff.mpr ⟨_, s_addTS g1 (s_mulTS (c := -1) h1), rfl⟩)
      omega
    · exact s_geLS hE hf (fun x hx => hG x (List.mem_cons_of_mem _ hx)) h
noncomputable def s_ge2 (E : sE) (f : sF) (z : Int) : Bool := s_gez E f z || s_geL E f z E.2.2.1
theorem s_ge2S {rs : List Int} {E : sE} {f : sF} {z v : Int} (hE : q_E rs E) (h : s_ge2 E f z = true) (hf : s_val rs f = some v) : z ≤ v := by
  simp only [s_ge2, Bool.or_eq_true] at h
  rcases h with h | h
  · exact s_gezS hE h hf
  · exact s_geLS hE hf hE.2.2.1 h
end
-- 08.env.lean.txt
section
/-! What is assumed behind a test; new names. -/
noncomputable def s_nar (U c : Int) (i0 i : pI) : pI := bif s_le 1 c then (s_max i.1 (i0.2 - U / c), i.2) else bif s_le c (-1) then (i.1, s_min i.2 (i0.1 + U / (-c))) else i
noncomputable def s_as (B0 : List pI) (U : Int) : sT → List pI → List pI
  | [], B => B
  | (k, c) :: t, B => match B0[k]?, B[k]? with
    | some i0, some i => s_as B0 U t (B.set k (s_nar U c i0 i))
    | _, _ => s_as B0 U t B
noncomputable def s_many (t : sT) : Bool := match t with
  | [] => false
  | [_] => false
  | _ => true
/-- d is at least 0 -/
noncomputable def s_ge (E : sE) (d : sF) : sE := bif s_gez E d 0 then E else match s_bL E.2.1 d.1 with
  | none => E
  | some (_, U) => (E.1, s_as E.2.1 (U + d.2) d.1 E.2.1, (bif s_many d.1 then (d.1, -d.2) :: E.2.2.1 else E.2.2.1), E.2.2.2)
theorem s_slack {rs : List Int} {B : List pI} (hB : ∀ (k : Nat) (i : pI), B[k]? = some i → ∃ v, rs[k]? = some v ∧ i.1 ≤ v ∧ v ≤ i.2) : ∀ {t : sT} {i : pI} {a : Int}, s_bL B t = some i → s_ev rs t = some a → ∀ q ∈ t, ∀ (j : pI) (v : Int), B[q.1]? = some j → rs[q.1]? = some v → (0 ≤ q.2 → q.2 * (j.2 - v) ≤ i.2 - a) ∧ (q.2 ≤ 0 → (-q.2) * (v - j.1) ≤ i.2 - a)
  | [], i, a, h1, h2, q, hq, _, _, _, _ => nomatch hq
  | (k, c) :: t, i, a, h1, h2, q, hq, j, v, hj, hv => by
    have hu := s_bLS hB h1 h2
    obtain ⟨b, u, g1, g2, rfl⟩ := s_ev_cons.mp h2
    unfold s_bL at h1
    split at h1
    · cases h1
    · rename_i l h hk
      split at h1
      · cases h1
      · rename_i x y hxy
        have g3 := s_bLS hB hxy g2
        have g32 : u ≤ y := g3.2
        obtain ⟨b', e1, e2, e3⟩ := hB k _ hk
        have eb : b' = b := by rw [g1] at e1; exact (Option.some.inj e1).symm
        subst eb
        have e2 : l ≤ b' := e2
        have e3 : b' ≤ h := e3
        have hi : i.2 = (bif s_le 0 c then c * h + y else c * l + y) := by
          cases hc : s_le 0 c with
          | true => rw [hc] at h1; cases h1; rfl
          | false => rw [hc] at h1; cases h1; rfl
        have hm1 : 0 ≤ c → c * b' ≤ c * h := fun hc => Int.mul_le_mul_of_nonneg_left e3 hc
        have hm2 : c ≤ 0 → c * b' ≤ c * l := fun hc => Int.mul_le_mul_of_nonpos_left hc e2
        rcases List.mem_cons.mp hq with rfl | hq
        · have ej : j = (l, h) := by
            have hj : B[k]? = some j := hj
            rw [hk] at hj
            exact (Option.some.inj hj).symm
          have ev : v = b' := by
            have hv : rs[k]? = some v := hv
            rw [g1] at hv
            exact (Option.some.inj hv).symm
          subst ej
          subst ev
          constructor
          · intro hc
            have hc : 0 ≤ c := hc
            rw [s_le_iff.mpr hc] at hi
            simp only [cond_true] at hi
            show c * (h - v) ≤ _
            rw [Int.mul_sub]
            omega
          · intro hc
            have hc : c ≤ 0 := hc
            show -c * (v - l) ≤ _
            rw [Int.neg_mul, Int.mul_sub]
            cases h0 : s_le 0 c with
            | true =>
              have := s_le_iff.mp h0
              have e0 : c = 0 := by omega
              subst e0
              rw [h0] at hi
              simp only [cond_true] at hi
              simp only [Int.zero_mul] at hi ⊢
              omega
            | false =>
              rw [h0] at hi
              simp only [cond_false] at hi
              omega
        · obtain ⟨k1, k2⟩ := s_slack hB hxy g2 q hq j v hj hv
          have hy : y - u ≤ i.2 - (c * b' + u) := by
            cases h0 : s_le 0 c with
            | true =>
              rw [h0] at hi
              simp only [cond_true] at hi
              have := hm1 (s_le_iff.mp h0)
              omega
            | false =>
              rw [h0] at hi
              simp only [cond_false] at hi
              have := hm2 (by have := s_le_not.mp h0; omega)
              omega
          exact ⟨fun hc => Int.le_trans (k1 hc) hy, fun hc => Int.le_trans (k2 hc) hy⟩
theorem s_narS {U c v : Int} {i0 i : pI} (h1 : i.1 ≤ v) (h2 : v ≤ i.2) (k1 : 0 ≤ c → c * (i0.2 - v) ≤ U) (k2 : c ≤ 0 → (-c) * (v - i0.1) ≤ U) : (s_nar U c i0 i).1 ≤ v ∧ v ≤ (s_nar U c i0 i).2 := by
  unfold s_nar
  cases hc : s_le 1 c with
  | true =>
    have hc := s_le_iff.mp hc
    refine ⟨s_max_le h1 ?_, h2⟩
    have := Int.le_ediv_of_mul_le (a := i0.2 - v) (b := U) (c := c) (by omega) (by rw [Int.mul_comm]; exact k1 (by omega))
    omega
  | false =>
    cases hd : s_le c (-1) with
    | true =>
      have hd := s_le_iff.mp hd
      refine ⟨h1, s_le_min h2 ?_⟩
      have := Int.le_ediv_of_mul_le (a := v - i0.1) (b := U) (c := -c) (by omega) (by rw [Int.mul_comm]; exact k2 (by omega))
      omega
    | false => exact ⟨h1, h2⟩
theorem s_asS {rs : List Int} {B0 : List pI} {U : Int} : ∀ {t : sT} {B : List pI}, (∀ q ∈ t, ∀ (j : pI) (v : Int), B0[q.1]? = some j → rs[q.1]? = some v → (0 ≤ q.2 → q.2 * (j.2 - v) ≤ U) ∧ (q.2 ≤ 0 → (-q.2) * (v - j.1) ≤ U)) → rs.length = B.length → (∀ (k : Nat) (i : pI), B[k]? = some i → ∃ v, rs[k]? = some v ∧ i.1 ≤ v ∧ v ≤ i.2) → rs.length = (s_as B0 U t B).length ∧ ∀ (k : Nat) (i : pI), (s_as B0 U t B)[k]? = some i → ∃ v, rs[k]? = some v ∧ i.1 ≤ v ∧ v ≤ i.2
  | [], B, _, h2, h3 => ⟨h2, h3⟩
  | (k, c) :: t, B, h1, h2, h3 => by
    unfold s_as
    split
    · rename_i i0 i hi0 hi
      refine s_asS (fun q hq => h1 q (List.mem_cons_of_mem _ hq)) (by rw [List.length_set]; exact h2) (fun k2 i2 hk2 => ?_)
      by_cases e : k = k2
      · subst e
        rw [List.getElem?_set_self (List.getElem?_eq_some_iff.mp hi).1] at hk2
        cases hk2
        obtain ⟨v, g1, g2, g3⟩ := h3 k i hi
        obtain ⟨m1, m2⟩ := h1 (k, c) List.mem_cons_self i0 v hi0 g1
        exact ⟨v, g1, s_narS g2 g3 m1 m2⟩
      · rw [List.getElem?_set_ne e] at hk2
        exact h3 k2 i2 hk2
    · exact s_asS (fun q hq => h1 q (List.mem_cons_of_mem _ hq)) h2 h3
section Env
variable {rs : List Int} {E : sE}
theorem s_geS {d : sF} {v : Int} (hE : q_E rs E) (hd : s_val rs d = some v) (h0 : 0 ≤ v) : q_E rs (s_ge E d) ∧ (s_ge E d).1 = E.1 := by
  unfold s_ge
  cases s_gez E d 0 with
  | true => exact ⟨hE, rfl⟩
  | false =>
  simp only [cond_false]
  split
  · exact ⟨hE, rfl⟩
  · rename_i l U hb
    obtain ⟨a, g1, g2⟩ := s_val_iff.mp hd
    have hs := s_slack hE.2.1 hb g1
    obtain ⟨z1, z2⟩ := s_asS (rs := rs) (U := U + d.2) (t := d.1) (B0 := E.2.1) (B := E.2.1) (fun q hq j w hj hw => by
      obtain ⟨m1, m2⟩ := hs q hq j w hj hw
      refine ⟨fun hc => Int.le_trans (m1 hc) ?_, fun hc => Int.le_trans (m2 hc) ?_⟩
      · show U - a ≤ U + d.2; omega
      · show U - a ≤ U + d.2; omega) hE.1 hE.2.1
    refine ⟨⟨z1, z2, ?_, hE.2.2.2⟩, rfl⟩
    intro q hq
    cases hm : s_many d.1 with
    | true =>
      have hq : q ∈ (bif s_many d.1 then (d.1, -d.2) :: E.2.2.1 else E.2.2.1) := hq
      rw [hm] at hq
      rcases List.mem_cons.mp hq with rfl | hq
      · exact ⟨a, g1, by show -d.2 ≤ a; omega⟩
      · exact hE.2.2.1 q hq
    | false =>
      have hq : q ∈ (bif s_many d.1 then (d.1, -d.2) :: E.2.2.1 else E.2.2.1) := hq
      rw [hm] at hq
      exact hE.2.2.1 q hq
noncomputable def s_ne (E : sE) (d : sF) : sE := (E.1, E.2.1, E.2.2.1, d :: E.2.2.2)
theorem s_neS {d : sF} {v : Int} (hE : q_E rs E) (hd : s_val rs d = some v) (h0 : v ≠ 0) : q_E rs (s_ne E d) := ⟨hE.1, hE.2.1, hE.2.2.1, fun f hf => by
  rcases List.mem_cons.mp hf with rfl | hf
  · exact ⟨v, hd, h0⟩
  · exact hE.2.2.2 f hf⟩
noncomputable def s_isNe (d : sF) : List sF → Bool
  | [] => false
  | f :: r => s_eqF f d || s_eqF f (s_mul (-1) d) || s_isNe d r
theorem s_isNeS {d : sF} {v : Int} (hd : s_val rs d = some v) : ∀ {l : List sF}, (∀ f ∈ l, ∃ v, s_val rs f = some v ∧ v ≠ 0) → s_isNe d l = true → v ≠ 0
  | [], _, h => by cases h
  | f :: r, hl, h => by
    simp only [s_isNe, Bool.or_eq_true] at h
    obtain ⟨w, h1, h2⟩ := hl f List.mem_cons_self
    rcases h with (h | h) | h
    · rw [s_eqF_eq h, hd] at h1
      cases h1
      exact h2
    · rw [s_eqF_eq h, s_mulS (c := -1) hd] at h1
      cases h1
      omega
    · exact s_isNeS hd (fun x hx => hl x (List.mem_cons_of_mem _ hx)) h
/-- no name of t has lost all its room -/
noncomputable def s_ok (E : sE) : sT → Bool
  | [] => true
  | q :: r => (match E.2.1[q.1]? with
    | none => true
    | some i => s_le i.1 i.2) && s_ok E r
theorem s_okS (hE : q_E rs E) : ∀ t : sT, s_ok E t = true
  | [] => rfl
  | q :: r => by
    unfold s_ok
    rw [s_okS hE r, Bool.and_true]
    cases h : E.2.1[q.1]? with
    | none => rfl
    | some i =>
      obtain ⟨v, h1, h2, h3⟩ := hE.2.1 _ _ h
      exact s_le_iff.mpr (by omega)
noncomputable def s_two (t : sT) (a b : sE) : List (Bool × sE) := bif s_ok a t then (bif s_ok b t then [(true, a), (false, b)] else [(true, a)]) else bif s_ok b t then [(false, b)] else []
theorem s_twoT {t : sT} {a b : sE} (h : q_E rs a) : (true, a) ∈ s_two t a b := by
  unfold s_two
  rw [s_okS h t]
  cases s_ok b t <;> exact List.mem_cons_self
theorem s_twoF {t : sT} {a b : sE} (h : q_E rs b) : (false, b) ∈ s_two t a b := by
  unfold s_two
  rw [s_okS h t]
  cases s_ok a t
  · exact List.mem_cons_self
  · exact List.mem_cons_of_mem _ List.mem_cons_self
/-- less: the ways that it may come out, with what is known then -/
noncomputable def s_lt (E : sE) (a b : sF) : Option (List (Bool × sE)) := match s_bnd E (s_sub a b) with
  | none => none
  | some (l, h) => bif s_le h (-1) then some [(true, E)] else bif s_le 0 l then some [(false, E)] else
    some (s_two (s_sub a b).1 (s_ge E (s_sub (s_sub b a) (s_num 1))) (s_ge E (s_sub a b)))
noncomputable def s_eq (E : sE) (a b : sF) : Option (List (Bool × sE)) := match s_bnd E (s_sub a b) with
  | none => none
  | some (l, h) => bif s_le h (-1) || s_le 1 l || s_isNe (s_sub a b) E.2.2.2 then some [(false, E)] else bif s_le 0 l && s_le h 0 then some [(true, E)] else
    some (s_two (s_sub a b).1 (s_ge (s_ge E (s_sub a b)) (s_sub b a)) (bif s_le 0 l then s_ge E (s_sub (s_sub a b) (s_num 1)) else bif s_le h 0 then s_ge E (s_sub (s_sub b a) (s_num 1)) else s_ne E (s_sub a b)))
theorem s_ltS {a b : sF} {x y : Int} {l : List (Bool × sE)} (hE : q_E rs E) (ha : s_val rs a = some x) (hb : s_val rs b = some y) (h : s_lt E a b = some l) : ∃ q ∈ l, (q.1 = true ↔ x < y) ∧ q_E rs q.2 ∧ q.2.1 = E.1 := by
  have hd := s_subS ha hb
  have hd2 := s_subS (s_subS hb ha) (s_numS 1)
  unfold s_lt at h
  split at h
  · cases h
  · rename_i lo hi hbn
    have g := s_bndS hE hbn hd
    have g1 : lo ≤ x - y := g.1
    have g2 : x - y ≤ hi := g.2
    cases h1 : s_le hi (-1) with
    | true =>
      rw [h1] at h
      cases h
      have := s_le_iff.mp h1
      exact ⟨_, List.mem_singleton.mpr rfl, ⟨fun _ => by omega, fun _ => rfl⟩, hE, rfl⟩
    | false =>
      rw [h1] at h
      cases h2 : s_le 0 lo with
      | true =>
        rw [h2] at h
        cases h
        have := s_le_iff.mp h2
        exact ⟨_, List.mem_singleton.mpr rfl, ⟨fun h => (by cases h), fun h => by omega⟩, hE, rfl⟩
      | false =>
        rw [h2] at h
        cases h
        by_cases hxy : x < y
        · obtain ⟨z1, z2⟩ := s_geS hE hd2 (by omega)
          exact ⟨_, s_twoT z1, ⟨fun _ => hxy, fun _ => rfl⟩, z1, z2⟩
        · obtain ⟨z1, z2⟩ := s_geS hE hd (by omega)
          exact ⟨_, s_twoF z1, ⟨fun h => (by cases h), fun h => absurd h hxy⟩, z1, z2⟩
theorem s_eqS {a b : sF} {x y : Int} {l : List (Bool × sE)} (hE : q_E rs E) (ha : s_val rs a = some x) (hb : s_val rs b = some y) (h : s_eq E a b = some l) : ∃ q ∈ l, (q.1 = true ↔ x = y) ∧ q_E rs q.2 ∧ q.2.1 = E.1 := by
  have hd := s_subS ha hb
  have hd' := s_subS hb ha
  unfold s_eq at h
  split at h
  · cases h
  · rename_i lo hi hbn
    have g := s_bndS hE hbn hd
    have g1 : lo ≤ x - y := g.1
    have g2 : x - y ≤ hi := g.2
    cases h1 : s_le hi (-1) || s_le 1 lo || s_isNe (s_sub a b) E.2.2.2 with
    | true =>
      rw [h1] at h
      cases h
      have hne : x ≠ y := by
        simp only [Bool.or_eq_true] at h1
        rcases h1 with (h1 | h1) | h1
        · have := s_le_iff.mp h1; omega
        · have := s_le_iff.mp h1; omega
        · have := s_isNeS hd hE.2.2.2 h1; omega
      exact ⟨_, List.mem_singleton.mpr rfl, ⟨fun h => (by cases h), fun h => absurd h hne⟩, hE, rfl⟩
    | false =>
      rw [h1] at h
      cases h2 : s_le 0 lo && s_le hi 0 with
      | true =>
        rw [h2] at h
        cases h
        simp only [Bool.and_eq_true] at h2
        have i1 := s_le_iff.mp h2.1
        have i2 := s_le_iff.mp h2.2
        exact ⟨_, List.mem_singleton.mpr rfl, ⟨fun _ => by omega, fun _ => rfl⟩, hE, rfl⟩
      | false =>
        rw [h2] at h
        cases h
        by_cases hxy : x = y
        · obtain ⟨z1, z2⟩ := s_geS hE hd (by omega)
          obtain ⟨z3, z4⟩ := s_geS z1 hd' (by omega)
          exact ⟨_, s_twoT z3, ⟨fun _ => hxy, fun _ => rfl⟩, z3, by rw [z4, z2]⟩
        · have key : q_E rs (bif s_le 0 lo then s_ge E (s_sub (s_sub a b) (s_num 1)) else bif s_le hi 0 then s_ge E (s_sub (s_sub b a) (s_num 1)) else s_ne E (s_sub a b)) ∧ (bif s_le 0 lo then s_ge E (s_sub (s_sub a b) (s_num 1)) else bif s_le hi 0 then s_ge E (s_sub (s_sub b a) (s_num 1)) else s_ne E (s_sub a b)).1 = E.1 := by
            cases h3 : s_le 0 lo with
            | true =>
              have := s_le_iff.mp h3
              exact s_geS hE (s_subS hd (s_numS 1)) (by omega)
            | false =>
              cases h4 : s_le hi 0 with
              | true =>
                have := s_le_iff.mp h4
                exact s_geS hE (s_subS hd' (s_numS 1)) (by omega)
              | false => exact ⟨s_neS hE hd (by omega), rfl⟩
          exact ⟨_, s_twoF key.1, ⟨fun h => (by cases h), fun h => absurd h hxy⟩, key.1, key.2⟩
/-- a new name between bounds -/
noncomputable def s_new (E : sE) (i : pI) : sE × sF := ((E.1, E.2.1 ++ [i], E.2.2.1, E.2.2.2), s_nm E.2.1.length)
theorem s_newS {i : pI} {v : Int} (hE : q_E rs E) (h1 : i.1 ≤ v) (h2 : v ≤ i.2) : q_E (rs ++ [v]) (s_new E i).1 ∧ s_val (rs ++ [v]) (s_new E i).2 = some v ∧ (s_new E i).1.1 = E.1 := by
  have hl : rs.length = E.2.1.length := hE.1
  refine ⟨⟨?_, fun k j hk => ?_, fun q hq => ?_, fun f hf => ?_⟩, ?_, rfl⟩
  · show (rs ++ [v]).length = (E.2.1 ++ [i]).length
    rw [List.length_append, List.length_append, hl]
    rfl
  · have hk : (E.2.1 ++ [i])[k]? = some j := hk
    by_cases hlt : k < E.2.1.length
    · rw [List.getElem?_append_left hlt] at hk
      obtain ⟨w, g1, g2⟩ := hE.2.1 k j hk
      exact ⟨w, by rw [List.getElem?_append_left (by omega)]; exact g1, g2⟩
    · have hlt2 := (List.getElem?_eq_some_iff.mp hk).1
      rw [List.length_append, List.length_singleton] at hlt2
      have e : k = E.2.1.length := by omega
      subst e
      rw [List.getElem?_append_right (Nat.le_refl _), Nat.sub_self] at hk
      cases hk
      exact ⟨v, by rw [List.getElem?_append_right (by omega), ← hl, Nat.sub_self]; rfl, h1, h2⟩
  · obtain ⟨w, g1, g2⟩ := hE.2.2.1 q hq
    exact ⟨w, s_ev_mono _ g1, g2⟩
  · obtain ⟨w, g1, g2⟩ := hE.2.2.2 f hf
    exact ⟨w, s_val_mono _ g1, g2⟩
  · refine s_nmS ?_
    rw [List.getElem?_append_right (by omega), ← hl, Nat.sub_self]
    rfl
end Env
end
-- 09.arith.lean.txt
section
/-! The arithmetic: a form where nothing wraps, else a new name between bounds. -/
noncomputable abbrev sX : Type := sE × sF
noncomputable def s_any : pI := (-2147483648, 2147483647)
noncomputable def s_in32 (i : pI) : Bool := s_le (-2147483648) i.1 && s_le i.2 2147483647
/-- the form if nothing wraps, else some int -/
noncomputable def s_fit (E : sE) (f : sF) : sX := match s_bnd E f with
  | none => s_new E s_any
  | some i => bif s_in32 i then (E, f) else s_new E s_any
noncomputable def q_R (rs : List Int) (E : sE) (X : sX) (x : Int32) : Prop := ∃ e, q_E (rs ++ e) X.1 ∧ s_val (rs ++ e) X.2 = some x.toInt ∧ X.1.1 = E.1
theorem q_low (x : Int32) : -2147483648 ≤ x.toInt := x.le_toInt
theorem q_high (x : Int32) : x.toInt ≤ 2147483647 := by have := x.toInt_lt; omega
theorem s_wrap {z : Int} (h1 : -2147483648 ≤ z) (h2 : z ≤ 2147483647) : Int.bmod z 4294967296 = z := by
  rw [Int.bmod_def]
  split <;> omega
noncomputable def s_lit (E : sE) (f : sF) : Option Int := match s_bnd E f with
  | none => none
  | some (l, h) => bif s_ie l h then some l else none
noncomputable def s_nn (i : pI) : Bool := s_le 0 i.1
noncomputable def s_sadd (E : sE) (a b : sF) : sX := s_fit E (s_add a b)
noncomputable def s_ssub (E : sE) (a b : sF) : sX := s_fit E (s_sub a b)
noncomputable def s_sneg (E : sE) (a : sF) : sX := s_fit E (s_mul (-1) a)
noncomputable def s_smul (E : sE) (a b : sF) : sX := match s_lit E a with
  | some c => s_fit E (s_mul c b)
  | none => match s_lit E b with
    | some c => s_fit E (s_mul c a)
    | none => match s_bnd E a, s_bnd E b with
      | some i, some j => bif s_nn i && s_nn j && s_le (i.2 * j.2) 2147483647 then s_new E (i.1 * j.1, i.2 * j.2) else s_new E s_any
      | _, _ => s_new E s_any
noncomputable def s_sdiv (E : sE) (a b : sF) : Option sX := match s_bnd E a, s_bnd E b with
  | some i, some j => bif s_le 1 j.1 then (bif s_nn i then some (s_new E (0, i.2 / j.1)) else some (s_new E (s_min i.1 0, s_max i.2 0)))
    else bif s_le j.2 (-1) || s_isNe b E.2.2.2 then some (s_new E s_any) else none
  | _, _ => none
noncomputable def s_srem (E : sE) (a b : sF) : Option sX := match s_bnd E a, s_bnd E b with
  | some i, some j => bif s_le 1 j.1 then (bif s_nn i then some (s_new E (0, s_min i.2 (j.2 - 1))) else some (s_new E (1 - j.2, j.2 - 1)))
    else bif s_le j.2 (-1) || s_isNe b E.2.2.2 then some (s_new E s_any) else none
  | _, _ => none
/-- both known -/
noncomputable def s_lit2 (op : Int32 → Int32 → Int32) (E : sE) (a b : sF) (d : sX) : sX := match s_lit E a with
  | none => d
  | some x => match s_lit E b with
    | none => d
    | some y => (E, s_num (op (Int32.ofInt x) (Int32.ofInt y)).toInt)
noncomputable def s_andK (E : sE) (a b : sF) (i j : pI) : pI := bif s_le 1 i.1 && s_eqF b (s_mul (-1) a) then (1, i.2) else bif s_nn i then (bif s_nn j then (0, s_min i.2 j.2) else (0, i.2)) else bif s_nn j then (0, j.2) else s_any
/-- what is known of a form beside its name -/
noncomputable def s_ge1 (c : Bool) (E : sE) (d : sF) : sE := bif c then s_ge E d else E
noncomputable def s_sand (E : sE) (a b : sF) : sX := s_lit2 (fun x y => x &&& y) E a b (match s_bnd E a, s_bnd E b with
  | some i, some j => match s_new E (s_andK E a b i j) with
    | (E1, r) => bif s_ie i.1 i.2 || s_ie j.1 j.2 then (E1, r) else (s_ge1 (s_nn j) (s_ge1 (s_nn i) E1 (s_sub a r)) (s_sub b r), r)
  | _, _ => s_new E s_any)
noncomputable def s_ones (z : Int) : Int := 2 ^ (z.toNat.log2 + 1) - 1
noncomputable def s_sor (E : sE) (a b : sF) : sX := s_lit2 (fun x y => x ||| y) E a b (match s_bnd E a, s_bnd E b with
  | some i, some j => bif s_nn i && s_nn j then (match s_new E (s_max i.1 j.1, s_ones (s_max i.2 j.2)) with
    | (E1, r) => bif s_ie i.1 i.2 || s_ie j.1 j.2 then (E1, r) else (s_ge (s_ge E1 (s_sub r a)) (s_sub r b), r)) else s_new E s_any
  | _, _ => s_new E s_any)
noncomputable def s_sxor (E : sE) (a b : sF) : sX := s_lit2 (fun x y => x ^^^ y) E a b (match s_bnd E a, s_bnd E b with
  | some i, some j => bif s_nn i && s_nn j then s_new E (0, s_ones (s_max i.2 j.2)) else s_new E s_any
  | _, _ => s_new E s_any)
noncomputable def s_sh (j : pI) : Bool := s_le 0 j.1 && s_le j.2 31
noncomputable def s_sshl (E : sE) (a b : sF) : sX := s_lit2 (fun x y => x <<< (y &&& 31)) E a b (match s_bnd E a, s_bnd E b with
  | some i, some j => bif s_nn i && s_sh j && s_le (i.2 * 2 ^ j.2.toNat) 2147483647 then s_new E (i.1 * 2 ^ j.1.toNat, i.2 * 2 ^ j.2.toNat) else s_new E s_any
  | _, _ => s_new E s_any)
noncomputable def s_sshr (E : sE) (a b : sF) : sX := s_lit2 (fun x y => x >>> (y &&& 31)) E a b (match s_bnd E a, s_bnd E b with
  | some i, some j => bif s_sh j then (bif s_nn i then s_new E (i.1 / 2 ^ j.2.toNat, i.2 / 2 ^ j.1.toNat) else s_new E (i.1, s_max i.2 0)) else s_new E s_any
  | _, _ => s_new E s_any)
noncomputable def s_ushr (E : sE) (a b : sF) : sX := s_lit2 (fun x y => (x.toUInt32 >>> (y.toUInt32 &&& Int32.toUInt32 31)).toInt32) E a b (match s_bnd E a, s_lit E b with
  | some i, some z => bif s_le 1 z && s_le z 31 then (bif s_nn i then s_new E (i.1 / 2 ^ z.toNat, i.2 / 2 ^ z.toNat) else s_new E (0, 2 ^ (32 - z.toNat) - 1)) else s_new E s_any
  | _, _ => s_new E s_any)
noncomputable def s_conv (l h : Int) (E : sE) (a : sF) : sX := match s_bnd E a with
  | some i => bif s_le l i.1 && s_le i.2 h then (E, a) else s_new E (l, h)
  | none => s_new E (l, h)
section Arith
variable {rs : List Int} {E : sE} {a b : sF} {x y : Int32}
theorem s_newR {i : pI} (hE : q_E rs E) (h1 : i.1 ≤ x.toInt) (h2 : x.toInt ≤ i.2) : q_R rs E (s_new E i) x := by
  obtain ⟨g1, g2, g3⟩ := s_newS hE h1 h2
  exact ⟨[x.toInt], g1, g2, g3⟩
theorem s_anyR (hE : q_E rs E) : q_R rs E (s_new E s_any) x := s_newR hE (q_low x) (q_high x)
theorem s_same (hE : q_E rs E) (h : s_val rs a = some x.toInt) : q_R rs E (E, a) x := ⟨[], by rw [List.append_nil]; exact hE, by rw [List.append_nil]; exact h, rfl⟩
theorem s_fitR {f : sF} {z : Int} (hE : q_E rs E) (hf : s_val rs f = some z) (hx : x.toInt = Int.bmod z 4294967296) : q_R rs E (s_fit E f) x := by
  unfold s_fit
  split
  · exact s_anyR hE
  · rename_i i hb
    obtain ⟨g1, g2⟩ := s_bndS hE hb hf
    cases h : s_in32 i with
    | true =>
      simp only [s_in32, Bool.and_eq_true] at h
      have k1 := s_le_iff.mp h.1
      have k2 := s_le_iff.mp h.2
      rw [s_wrap (by omega) (by omega)] at hx
      exact s_same hE (by rw [hx]; exact hf)
    | false => exact s_anyR hE
theorem s_litS {f : sF} {v z : Int} (hE : q_E rs E) (hf : s_val rs f = some v) (h : s_lit E f = some z) : v = z := by
  unfold s_lit at h
  split at h
  · cases h
  · rename_i l u hb
    obtain ⟨g1, g2⟩ := s_bndS hE hb hf
    have g1 : l ≤ v := g1
    have g2 : v ≤ u := g2
    cases h2 : s_ie l u with
    | true =>
      rw [h2] at h
      have e := s_ie_iff.mp h2
      cases h
      omega
    | false => rw [h2] at h; cases h
theorem s_saddR (hE : q_E rs E) (ha : s_val rs a = some x.toInt) (hb : s_val rs b = some y.toInt) : q_R rs E (s_sadd E a b) (x + y) := s_fitR hE (s_addS ha hb) (Int32.toInt_add x y)
theorem s_ssubR (hE : q_E rs E) (ha : s_val rs a = some x.toInt) (hb : s_val rs b = some y.toInt) : q_R rs E (s_ssub E a b) (x - y) := s_fitR hE (s_subS ha hb) (Int32.toInt_sub x y)
theorem s_snegR (hE : q_E rs E) (ha : s_val rs a = some x.toInt) : q_R rs E (s_sneg E a) (-x) := s_fitR hE (s_mulS ha) (by rw [Int32.toInt_neg, show -1 * x.toInt = -x.toInt by omega])
theorem s_smulR (hE : q_E rs E) (ha : s_val rs a = some x.toInt) (hb : s_val rs b = some y.toInt) : q_R rs E (s_smul E a b) (x * y) := by
  unfold s_smul
  split
  · rename_i c hc
    have e := s_litS hE ha hc
    subst e
    exact s_fitR hE (s_mulS hb) (Int32.toInt_mul x y)
  · split
    · rename_i c hc
      have e := s_litS hE hb hc
      subst e
      exact s_fitR hE (s_mulS ha) (by rw [Int.mul_comm]; exact Int32.toInt_mul x y)
    · split
      · rename_i i j hi hj
        obtain ⟨g1, g2⟩ := s_bndS hE hi ha
        obtain ⟨g3, g4⟩ := s_bndS hE hj hb
        cases h : s_nn i && s_nn j && s_le (i.2 * j.2) 2147483647 with
        | true =>
          simp only [s_nn, Bool.and_eq_true] at h
          have k1 := s_le_iff.mp h.1.1
          have k2 := s_le_iff.mp h.1.2
          have k3 := s_le_iff.mp h.2
          have m1 : i.1 * j.1 ≤ x.toInt * y.toInt := Int.mul_le_mul g1 g3 k2 (by omega)
          have m2 : x.toInt * y.toInt ≤ i.2 * j.2 := Int.mul_le_mul g2 g4 (by omega) (by omega)
          have m3 : 0 ≤ i.1 * j.1 := Int.mul_nonneg k1 k2
          have e : (x * y).toInt = x.toInt * y.toInt := by rw [Int32.toInt_mul]; exact s_wrap (by omega) (by omega)
          exact s_newR hE (by rw [e]; exact m1) (by rw [e]; exact m2)
        | false => exact s_anyR hE
      · exact s_anyR hE
theorem s_tdivB {p q : Int} (hq : 1 ≤ q) : (0 ≤ p → p.tdiv q = p / q) ∧ (s_min p 0 ≤ p.tdiv q ∧ p.tdiv q ≤ s_max p 0) := by
  have hnn : ∀ z : Int, 0 ≤ z → z / q ≤ z := fun z hz => Int.ediv_le_self _ hz
  refine ⟨fun h => Int.tdiv_eq_ediv_of_nonneg h, ?_⟩
  rcases Int.le_total 0 p with h | h
  · rw [Int.tdiv_eq_ediv_of_nonneg h]
    exact ⟨Int.le_trans (s_min_r _ _) (Int.ediv_nonneg h (by omega)), Int.le_trans (hnn p h) (s_max_l _ _)⟩
  · have e : p.tdiv q = -((-p) / q) := by
      rw [← Int.tdiv_eq_ediv_of_nonneg (show 0 ≤ -p by omega), Int.neg_tdiv, Int.neg_neg]
    have h1 := hnn (-p) (by omega)
    have h2 : 0 ≤ (-p) / q := Int.ediv_nonneg (by omega) (by omega)
    rw [e]
    exact ⟨Int.le_trans (s_min_l _ _) (by omega), Int.le_trans (by omega) (s_max_r _ _)⟩
theorem s_nz {j : pI} (hE : q_E rs E) (hb : s_val rs b = some y.toInt) (g3 : j.1 ≤ y.toInt) (g4 : y.toInt ≤ j.2) (h : (s_le 1 j.1 || (s_le j.2 (-1) || s_isNe b E.2.2.2)) = true) : y ≠ 0 := by
  have e0 : (0 : Int32).toInt = 0 := rfl
  have hz : y.toInt ≠ 0 := by
    simp only [Bool.or_eq_true] at h
    rcases h with h | h | h
    · have := s_le_iff.mp h; omega
    · have := s_le_iff.mp h; omega
    · exact s_isNeS hb hE.2.2.2 h
  intro hy
  rw [hy] at hz
  exact hz e0
theorem s_sdivR {X : sX} (hE : q_E rs E) (ha : s_val rs a = some x.toInt) (hb : s_val rs b = some y.toInt) (h : s_sdiv E a b = some X) : y ≠ 0 ∧ q_R rs E X (x / y) := by
  unfold s_sdiv at h
  split at h
  · rename_i i j hi hj
    obtain ⟨g1, g2⟩ := s_bndS hE hi ha
    obtain ⟨g3, g4⟩ := s_bndS hE hj hb
    cases h1 : s_le 1 j.1 with
    | true =>
      have k1 := s_le_iff.mp h1
      refine ⟨s_nz hE hb g3 g4 (by rw [h1]; rfl), ?_⟩
      rw [h1] at h
      have hx1 := q_low x
      have hx2 := q_high x
      obtain ⟨d1, d2, d3⟩ := s_tdivB (p := x.toInt) (q := y.toInt) (by omega)
      have r1 : -2147483648 ≤ x.toInt.tdiv y.toInt := Int.le_trans (s_le_min hx1 (by omega)) d2
      have r2 : x.toInt.tdiv y.toInt ≤ 2147483647 := Int.le_trans d3 (s_max_le hx2 (by omega))
      have e : (x / y).toInt = x.toInt.tdiv y.toInt := by rw [Int32.toInt_div]; exact s_wrap r1 r2
      cases h2 : s_nn i with
      | true =>
        rw [h2] at h
        cases h
        have k2 : 0 ≤ i.1 := s_le_iff.mp h2
        have hx0 : 0 ≤ x.toInt := by omega
        refine s_newR hE (by rw [e, d1 hx0]; exact Int.ediv_nonneg hx0 (by omega)) ?_
        rw [e, d1 hx0]
        show x.toInt / y.toInt ≤ i.2 / j.1
        refine Int.le_ediv_of_mul_le (by omega) ?_
        have m1 : x.toInt / y.toInt * j.1 ≤ x.toInt / y.toInt * y.toInt := Int.mul_le_mul_of_nonneg_left g3 (Int.ediv_nonneg hx0 (by omega))
        have m2 := Int.ediv_mul_le x.toInt (show y.toInt ≠ 0 by omega)
        omega
      | false =>
        rw [h2] at h
        cases h
        refine s_newR hE ?_ ?_
        · rw [e]
          refine Int.le_trans ?_ d2
          exact s_le_min (Int.le_trans (s_min_l _ _) g1) (s_min_r _ _)
        · rw [e]
          refine Int.le_trans d3 ?_
          exact s_max_le (Int.le_trans g2 (s_max_l _ _)) (s_max_r _ _)
    | false =>
      rw [h1] at h
      cases h2 : (s_le j.2 (-1) || s_isNe b E.2.2.2) with
      | true =>
        refine ⟨s_nz hE hb g3 g4 (by rw [h1, h2]; rfl), ?_⟩
        rw [h2] at h
        cases h
        exact s_anyR hE
      | false => rw [h2] at h; cases h
  · cases h
theorem s_sremR {X : sX} (hE : q_E rs E) (ha : s_val rs a = some x.toInt) (hb : s_val rs b = some y.toInt) (h : s_srem E a b = some X) : y ≠ 0 ∧ q_R rs E X (x - x / y * y) := by
  unfold s_srem at h
  split at h
  · rename_i i j hi hj
    obtain ⟨g1, g2⟩ := s_bndS hE hi ha
    obtain ⟨g3, g4⟩ := s_bndS hE hj hb
    cases h1 : s_le 1 j.1 with
    | true =>
      have k1 := s_le_iff.mp h1
      refine ⟨s_nz hE hb g3 g4 (by rw [h1]; rfl), ?_⟩
      rw [h1] at h
      have hx1 := q_low x
      have hx2 := q_high x
      obtain ⟨d1, d2, d3⟩ := s_tdivB (p := x.toInt) (q := y.toInt) (by omega)
      have r1 : -2147483648 ≤ x.toInt.tdiv y.toInt := Int.le_trans (s_le_min hx1 (by omega)) d2
      have r2 : x.toInt.tdiv y.toInt ≤ 2147483647 := Int.le_trans d3 (s_max_le hx2 (by omega))
      have e : (x / y).toInt = x.toInt.tdiv y.toInt := by rw [Int32.toInt_div]; exact s_wrap r1 r2
      have tm : x.toInt.tmod y.toInt = x.toInt - y.toInt * x.toInt.tdiv y.toInt := Int.tmod_def _ _
      have t1 : x.toInt.tmod y.toInt < y.toInt := Int.tmod_lt_of_pos _ (by omega)
      have t2 : -y.toInt < x.toInt.tmod y.toInt := by
        have := Int.tmod_lt_of_pos (-x.toInt) (show 0 < y.toInt by omega)
        rw [Int.neg_tmod] at this
        omega
      have hy2 := q_high y
      have e2 : (x / y * y).toInt = y.toInt * x.toInt.tdiv y.toInt := by
        rw [Int32.toInt_mul, e, Int.mul_comm]
        rcases Int.le_total 0 x.toInt with hp | hp
        · have := Int.tmod_nonneg y.toInt hp
          exact s_wrap (by omega) (by omega)
        · have : x.toInt.tmod y.toInt ≤ 0 := by
            have := Int.tmod_nonneg y.toInt (show 0 ≤ -x.toInt by omega)
            rw [Int.neg_tmod] at this
            omega
          exact s_wrap (by omega) (by omega)
      have e3 : (x - x / y * y).toInt = x.toInt.tmod y.toInt := by
        rw [Int32.toInt_sub, e2, ← tm]
        exact s_wrap (by omega) (by omega)
      cases h2 : s_nn i with
      | true =>
        rw [h2] at h
        cases h
        have k2 : 0 ≤ i.1 := s_le_iff.mp h2
        have hx0 : 0 ≤ x.toInt := by omega
        refine s_newR hE (by rw [e3]; exact Int.tmod_nonneg _ hx0) ?_
        rw [e3]
        refine s_le_min ?_ (by omega)
        have : 0 ≤ y.toInt * x.toInt.tdiv y.toInt := Int.mul_nonneg (by omega) (by rw [d1 hx0]; exact Int.ediv_nonneg hx0 (by omega))
        omega
      | false =>
        rw [h2] at h
        cases h
        exact s_newR hE (by rw [e3]; show 1 - j.2 ≤ _; omega) (by rw [e3]; show _ ≤ j.2 - 1; omega)
    | false =>
      rw [h1] at h
      cases h2 : (s_le j.2 (-1) || s_isNe b E.2.2.2) with
      | true =>
        refine ⟨s_nz hE hb g3 g4 (by rw [h1, h2]; rfl), ?_⟩
        rw [h2] at h
        cases h
        exact s_anyR hE
      | false => rw [h2] at h; cases h
  · cases h
theorem s_lit2R {op : Int32 → Int32 → Int32} {d : sX} (hE : q_E rs E) (ha : s_val rs a = some x.toInt) (hb : s_val rs b = some y.toInt) (hd : q_R rs E d (op x y)) : q_R rs E (s_lit2 op E a b d) (op x y) := by
  unfold s_lit2
  split
  · exact hd
  · rename_i u hu
    split
    · exact hd
    · rename_i w hw
      rw [← s_litS hE ha hu, ← s_litS hE hb hw, Int32.ofInt_toInt, Int32.ofInt_toInt]
      exact s_same hE (s_numS _)
theorem s_nat {z : Int32} (h : 0 ≤ z.toInt) : z.toInt = (z.toBitVec.toNat : Int) ∧ z.toBitVec.toNat < 2147483648 := by
  have e : z.toInt = z.toBitVec.toInt := rfl
  have h2 := q_high z
  rw [e] at h h2 ⊢
  rw [BitVec.toInt_eq_toNat_cond] at h h2 ⊢
  have hl := z.toBitVec.isLt
  split at h
  · rename_i hc
    rw [if_pos hc] at h2 ⊢
    exact ⟨rfl, by omega⟩
  · omega
theorem s_ofnat {z : Int32} (h : z.toBitVec.toNat < 2147483648) : z.toInt = (z.toBitVec.toNat : Int) := by
  have e : z.toInt = z.toBitVec.toInt := rfl
  rw [e, BitVec.toInt_eq_toNat_cond, if_pos (by omega)]
theorem s_andB (h : 0 ≤ y.toInt) : 0 ≤ (x &&& y).toInt ∧ (x &&& y).toInt ≤ y.toInt := by
  obtain ⟨e1, e2⟩ := s_nat h
  have e3 : (x &&& y).toBitVec.toNat ≤ y.toBitVec.toNat := by
    rw [Int32.toBitVec_and, BitVec.toNat_and]
    exact Nat.and_le_right
  rw [s_ofnat (z := x &&& y) (by omega), e1]
  exact ⟨by omega, by omega⟩
theorem s_bitN : ∀ (w n : Nat), 0 < n → n < 2 ^ w → ∃ k, n.testBit k = true ∧ (2 ^ w - n).testBit k = true
  | 0, n, h1, h2 => by simp at h2; omega
  | w + 1, n, h1, h2 => by
    have e : 2 ^ (w + 1) = 2 * 2 ^ w := by rw [Nat.pow_succ, Nat.mul_comm]
    by_cases ho : n % 2 = 1
    · refine ⟨0, ?_, ?_⟩
      · rw [Nat.testBit_zero]; exact decide_eq_true ho
      · rw [Nat.testBit_zero]; exact decide_eq_true (by omega)
    · obtain ⟨k, g1, g2⟩ := s_bitN w (n / 2) (by omega) (by omega)
      refine ⟨k + 1, ?_, ?_⟩
      · rw [Nat.testBit_succ]; exact g1
      · rw [Nat.testBit_succ, show (2 ^ (w + 1) - n) / 2 = 2 ^ w - n / 2 by omega]; exact g2
theorem s_lowbit (h : 1 ≤ x.toInt) (hy : y.toInt = -x.toInt) : 1 ≤ (x &&& y).toInt := by
  obtain ⟨x1, x2⟩ := s_nat (z := x) (by omega)
  have hb := s_andB (x := y) (y := x) (by omega)
  rw [Int32.and_comm] at hb
  have hyN : y.toBitVec.toNat = 2 ^ 32 - x.toBitVec.toNat := by
    have e : y.toInt = y.toBitVec.toInt := rfl
    rw [e, BitVec.toInt_eq_toNat_cond] at hy
    have hl := y.toBitVec.isLt
    split at hy <;> omega
  obtain ⟨k, g1, g2⟩ := s_bitN 32 x.toBitVec.toNat (by omega) x.toBitVec.isLt
  have g3 : ((x &&& y).toBitVec.toNat).testBit k = true := by
    rw [Int32.toBitVec_and, BitVec.toNat_and, Nat.testBit_and, g1, hyN, g2]
    rfl
  have g4 : (x &&& y).toBitVec.toNat ≠ 0 := by
    intro h0
    rw [h0, Nat.zero_testBit] at g3
    cases g3
  have e2 := s_nat (z := x &&& y) hb.1
  omega
theorem s_ge1R {c : Bool} {d : sF} {v : Int} (hE : q_E rs E) (hd : s_val rs d = some v) (h : c = true → 0 ≤ v) : q_E rs (s_ge1 c E d) ∧ (s_ge1 c E d).1 = E.1 := by
  cases c with
  | true => exact s_geS hE hd (h rfl)
  | false => exact ⟨hE, rfl⟩
theorem s_sandR (hE : q_E rs E) (ha : s_val rs a = some x.toInt) (hb : s_val rs b = some y.toInt) : q_R rs E (s_sand E a b) (x &&& y) := by
  refine s_lit2R (op := fun x y => x &&& y) hE ha hb ?_
  split
  · rename_i i j hi hj
    obtain ⟨g1, g2⟩ := s_bndS hE hi ha
    obtain ⟨g3, g4⟩ := s_bndS hE hj hb
    have c1 : s_nn i = true → 0 ≤ (x &&& y).toInt ∧ (x &&& y).toInt ≤ x.toInt := fun h => by
      have h : 0 ≤ i.1 := s_le_iff.mp h
      rw [Int32.and_comm]
      exact s_andB (by omega)
    have c2 : s_nn j = true → 0 ≤ (x &&& y).toInt ∧ (x &&& y).toInt ≤ y.toInt := fun h => by
      have h : 0 ≤ j.1 := s_le_iff.mp h
      exact s_andB (by omega)
    have hk : (s_andK E a b i j).1 ≤ (x &&& y).toInt ∧ (x &&& y).toInt ≤ (s_andK E a b i j).2 := by
      unfold s_andK
      cases h0 : s_le 1 i.1 && s_eqF b (s_mul (-1) a) with
      | true =>
        simp only [Bool.and_eq_true] at h0
        have k1 := s_le_iff.mp h0.1
        have e := s_eqF_eq h0.2
        subst e
        have e2 := Option.some.inj (hb.symm.trans (s_mulS (c := -1) ha))
        obtain ⟨p1, p2⟩ := c1 (s_le_iff.mpr (by omega))
        exact ⟨s_lowbit (by omega) (by omega), by show _ ≤ i.2; omega⟩
      | false =>
        simp only [cond_false]
        cases h1 : s_nn i with
        | true =>
          obtain ⟨p1, p2⟩ := c1 h1
          cases h2 : s_nn j with
          | true =>
            obtain ⟨p3, p4⟩ := c2 h2
            exact ⟨p1, s_le_min (by omega) (by omega)⟩
          | false => exact ⟨p1, by show _ ≤ i.2; omega⟩
        | false =>
          cases h2 : s_nn j with
          | true =>
            obtain ⟨p3, p4⟩ := c2 h2
            exact ⟨p3, by show _ ≤ j.2; omega⟩
          | false => exact ⟨q_low _, q_high _⟩
    obtain ⟨n1, n2, n3⟩ := s_newS hE hk.1 hk.2
    generalize s_new E (s_andK E a b i j) = X at n1 n2 n3
    obtain ⟨E1, f⟩ := X
    simp only
    cases h4 : s_ie i.1 i.2 || s_ie j.1 j.2 with
    | true => exact ⟨_, n1, n2, n3⟩
    | false =>
      obtain ⟨m1, m2⟩ := s_ge1R (c := s_nn i) n1 (s_subS (s_val_mono _ ha) n2) (fun h => by have := (c1 h).2; omega)
      obtain ⟨m3, m4⟩ := s_ge1R (c := s_nn j) m1 (s_subS (s_val_mono _ hb) n2) (fun h => by have := (c2 h).2; omega)
      exact ⟨_, m3, n2, m4.trans (m2.trans n3)⟩
  · exact s_anyR hE
theorem s_onesS {z : Int} {n : Nat} (h : (n : Int) ≤ z) : n < 2 ^ (z.toNat.log2 + 1) := Nat.lt_of_le_of_lt (show n ≤ z.toNat by omega) Nat.lt_log2_self
theorem s_onesC (z : Int) : s_ones z = ((2 ^ (z.toNat.log2 + 1) : Nat) : Int) - 1 := by
  unfold s_ones
  push_cast
  rfl
theorem s_sorR (hE : q_E rs E) (ha : s_val rs a = some x.toInt) (hb : s_val rs b = some y.toInt) : q_R rs E (s_sor E a b) (x ||| y) := by
  refine s_lit2R (op := fun x y => x ||| y) hE ha hb ?_
  split
  · rename_i i j hi hj
    obtain ⟨g1, g2⟩ := s_bndS hE hi ha
    obtain ⟨g3, g4⟩ := s_bndS hE hj hb
    cases h1 : s_nn i && s_nn j with
    | true =>
      simp only [s_nn, Bool.and_eq_true] at h1
      have k1 := s_le_iff.mp h1.1
      have k2 := s_le_iff.mp h1.2
      obtain ⟨x1, x2⟩ := s_nat (z := x) (by omega)
      obtain ⟨y1, y2⟩ := s_nat (z := y) (by omega)
      have e : (x ||| y).toBitVec.toNat = x.toBitVec.toNat ||| y.toBitVec.toNat := by rw [Int32.toBitVec_or, BitVec.toNat_or]
      have l1 : (x ||| y).toBitVec.toNat < 2147483648 := by
        rw [e]
        exact Nat.or_lt_two_pow (n := 31) x2 y2
      have e2 := s_ofnat l1
      have v1 : x.toInt ≤ (x ||| y).toInt := by
        rw [e2, e]
        have := Nat.left_le_or (n := x.toBitVec.toNat) (m := y.toBitVec.toNat)
        omega
      have v2 : y.toInt ≤ (x ||| y).toInt := by
        rw [e2, e]
        have := Nat.right_le_or (n := x.toBitVec.toNat) (m := y.toBitVec.toNat)
        omega
      have k3 : (x ||| y).toInt ≤ s_ones (s_max i.2 j.2) := by
        rw [e2, e, s_onesC]
        have m1 := s_onesS (z := s_max i.2 j.2) (n := x.toBitVec.toNat) (by have := s_max_l i.2 j.2; omega)
        have m2 := s_onesS (z := s_max i.2 j.2) (n := y.toBitVec.toNat) (by have := s_max_r i.2 j.2; omega)
        have m3 := Nat.or_lt_two_pow m1 m2
        omega
      obtain ⟨n1, n2, n3⟩ := s_newS (i := (s_max i.1 j.1, s_ones (s_max i.2 j.2))) hE (s_max_le (by omega) (by omega)) k3
      generalize s_new E (s_max i.1 j.1, s_ones (s_max i.2 j.2)) = X at n1 n2 n3
      obtain ⟨E1, f⟩ := X
      simp only [cond_true]
      cases h4 : s_ie i.1 i.2 || s_ie j.1 j.2 with
      | true => exact ⟨_, n1, n2, n3⟩
      | false =>
        obtain ⟨m1, m2⟩ := s_geS n1 (s_subS n2 (s_val_mono _ ha)) (by omega)
        obtain ⟨m3, m4⟩ := s_geS m1 (s_subS n2 (s_val_mono _ hb)) (by omega)
        exact ⟨_, m3, n2, m4.trans (m2.trans n3)⟩
    | false => exact s_anyR hE
  · exact s_anyR hE
theorem s_sxorR (hE : q_E rs E) (ha : s_val rs a = some x.toInt) (hb : s_val rs b = some y.toInt) : q_R rs E (s_sxor E a b) (x ^^^ y) := by
  refine s_lit2R (op := fun x y => x ^^^ y) hE ha hb ?_
  split
  · rename_i i j hi hj
    obtain ⟨g1, g2⟩ := s_bndS hE hi ha
    obtain ⟨g3, g4⟩ := s_bndS hE hj hb
    cases h1 : s_nn i && s_nn j with
    | true =>
      simp only [s_nn, Bool.and_eq_true] at h1
      have k1 := s_le_iff.mp h1.1
      have k2 := s_le_iff.mp h1.2
      obtain ⟨x1, x2⟩ := s_nat (z := x) (by omega)
      obtain ⟨y1, y2⟩ := s_nat (z := y) (by omega)
      have e : (x ^^^ y).toBitVec.toNat = x.toBitVec.toNat ^^^ y.toBitVec.toNat := by rw [Int32.toBitVec_xor, BitVec.toNat_xor]
      have l1 : (x ^^^ y).toBitVec.toNat < 2147483648 := by
        rw [e]
        exact Nat.xor_lt_two_pow (n := 31) x2 y2
      have e2 := s_ofnat l1
      refine s_newR hE ?_ ?_
      · rw [e2]
        show (0 : Int) ≤ _
        omega
      · rw [e2, e]
        show _ ≤ s_ones (s_max i.2 j.2)
        rw [s_onesC]
        have m1 := s_onesS (z := s_max i.2 j.2) (n := x.toBitVec.toNat) (by have := s_max_l i.2 j.2; omega)
        have m2 := s_onesS (z := s_max i.2 j.2) (n := y.toBitVec.toNat) (by have := s_max_r i.2 j.2; omega)
        have m3 := Nat.xor_lt_two_pow m1 m2
        omega
    | false => exact s_anyR hE
  · exact s_anyR hE
theorem s_shK : ∀ n : Nat, n < 32 → (Int32.ofNat n &&& 31).toBitVec.smod 32 = BitVec.ofNat 32 n := by decide
theorem s_shN (h0 : 0 ≤ y.toInt) (h1 : y.toInt ≤ 31) : (y &&& 31).toBitVec.smod 32 = BitVec.ofNat 32 y.toBitVec.toNat ∧ y.toBitVec.toNat < 32 ∧ y.toInt = (y.toBitVec.toNat : Int) := by
  obtain ⟨e1, e2⟩ := s_nat h0
  have e3 : y = Int32.ofNat y.toBitVec.toNat := by
    apply Int32.toBitVec_inj.mp
    show y.toBitVec = BitVec.ofNat 32 y.toBitVec.toNat
    simp
  have := s_shK y.toBitVec.toNat (by omega)
  rw [← e3] at this
  exact ⟨this, by omega, e1⟩
theorem s_shrI (h0 : 0 ≤ y.toInt) (h1 : y.toInt ≤ 31) : (x >>> (y &&& 31)).toInt = x.toInt / 2 ^ y.toInt.toNat := by
  obtain ⟨e1, e2, e3⟩ := s_shN h0 h1
  have : (x >>> (y &&& 31)).toInt = (x >>> (y &&& 31)).toBitVec.toInt := rfl
  rw [this, Int32.toBitVec_shiftRight, e1]
  show (x.toBitVec.sshiftRight (BitVec.ofNat 32 y.toBitVec.toNat).toNat).toInt = _
  rw [BitVec.toInt_sshiftRight, BitVec.toNat_ofNat, Nat.mod_eq_of_lt (by omega), Int.shiftRight_eq_div_pow, e3, Int.toNat_natCast]
  rfl
theorem s_pow2 {m n : Nat} (h : m ≤ n) : (2 : Int) ^ m ≤ 2 ^ n ∧ (1 : Int) ≤ 2 ^ m := by
  have h1 : (2 : Nat) ^ m ≤ 2 ^ n := Nat.pow_le_pow_right (by omega) h
  have h2 : 1 ≤ (2 : Nat) ^ m := Nat.one_le_two_pow
  have e1 : ((2 ^ m : Nat) : Int) = 2 ^ m := by push_cast; rfl
  have e2 : ((2 ^ n : Nat) : Int) = 2 ^ n := by push_cast; rfl
  omega
theorem s_sshrR (hE : q_E rs E) (ha : s_val rs a = some x.toInt) (hb : s_val rs b = some y.toInt) : q_R rs E (s_sshr E a b) (x >>> (y &&& 31)) := by
  refine s_lit2R (op := fun x y => x >>> (y &&& 31)) hE ha hb ?_
  split
  · rename_i i j hi hj
    obtain ⟨g1, g2⟩ := s_bndS hE hi ha
    obtain ⟨g3, g4⟩ := s_bndS hE hj hb
    cases h1 : s_sh j with
    | true =>
      simp only [s_sh, Bool.and_eq_true] at h1
      have k1 := s_le_iff.mp h1.1
      have k2 := s_le_iff.mp h1.2
      have e := s_shrI (x := x) (y := y) (by omega) (by omega)
      obtain ⟨p1, p2⟩ := s_pow2 (m := j.1.toNat) (n := y.toInt.toNat) (by omega)
      obtain ⟨p3, p4⟩ := s_pow2 (m := y.toInt.toNat) (n := j.2.toNat) (by omega)
      show q_R rs E _ (x >>> (y &&& 31))
      generalize y.toInt.toNat = n at e p1 p2 p3 p4
      cases h2 : s_nn i with
      | true =>
        have k3 : 0 ≤ i.1 := s_le_iff.mp h2
        refine s_newR hE ?_ ?_
        · rw [e]
          show i.1 / 2 ^ j.2.toNat ≤ x.toInt / 2 ^ n
          refine Int.le_ediv_of_mul_le (by omega) ?_
          have m0 : 0 ≤ i.1 / 2 ^ j.2.toNat := Int.ediv_nonneg k3 (by omega)
          have m1 := Int.mul_le_mul_of_nonneg_left p3 m0
          have m2 := Int.ediv_mul_le i.1 (show (2 : Int) ^ j.2.toNat ≠ 0 by omega)
          omega
        · rw [e]
          show x.toInt / 2 ^ n ≤ i.2 / 2 ^ j.1.toNat
          refine Int.le_ediv_of_mul_le (by omega) ?_
          have m0 : 0 ≤ x.toInt / 2 ^ n := Int.ediv_nonneg (by omega) (by omega)
          have m1 := Int.mul_le_mul_of_nonneg_left p1 m0
          have m2 := Int.ediv_mul_le x.toInt (show (2 : Int) ^ n ≠ 0 by omega)
          omega
      | false =>
        refine s_newR hE ?_ ?_
        · rw [e]
          show i.1 ≤ _
          rcases Int.le_total 0 x.toInt with hp | hp
          · have : 0 ≤ x.toInt / 2 ^ n := Int.ediv_nonneg hp (by omega)
            have k3 : i.1 < 0 := s_le_not.mp h2
            omega
          · refine Int.le_trans g1 (Int.le_ediv_of_mul_le (by omega) ?_)
            have := Int.mul_le_mul_of_nonpos_left hp p4
            omega
        · rw [e]
          show _ ≤ s_max i.2 0
          rcases Int.le_total 0 x.toInt with hp | hp
          · exact Int.le_trans (Int.ediv_le_self _ hp) (Int.le_trans g2 (s_max_l _ _))
          · refine Int.le_trans ?_ (s_max_r _ _)
            have := Int.ediv_le_ediv (c := 2 ^ n) (by omega) hp
            rw [Int.zero_ediv] at this
            exact this
    | false => exact s_anyR hE
  · exact s_anyR hE
theorem s_sshlR (hE : q_E rs E) (ha : s_val rs a = some x.toInt) (hb : s_val rs b = some y.toInt) : q_R rs E (s_sshl E a b) (x <<< (y &&& 31)) := by
  refine s_lit2R (op := fun x y => x <<< (y &&& 31)) hE ha hb ?_
  split
  · rename_i i j hi hj
    obtain ⟨g1, g2⟩ := s_bndS hE hi ha
    obtain ⟨g3, g4⟩ := s_bndS hE hj hb
    cases h1 : s_nn i && s_sh j && s_le (i.2 * 2 ^ j.2.toNat) 2147483647 with
    | true =>
      simp only [s_nn, s_sh, Bool.and_eq_true] at h1
      have k0 := s_le_iff.mp h1.1.1
      have k1 := s_le_iff.mp h1.1.2.1
      have k2 := s_le_iff.mp h1.1.2.2
      have k3 := s_le_iff.mp h1.2
      obtain ⟨x1, x2⟩ := s_nat (z := x) (by omega)
      obtain ⟨e1, e2, e3⟩ := s_shN (y := y) (by omega) (by omega)
      obtain ⟨p1, p2⟩ := s_pow2 (m := j.1.toNat) (n := y.toBitVec.toNat) (by omega)
      obtain ⟨p3, p4⟩ := s_pow2 (m := y.toBitVec.toNat) (n := j.2.toNat) (by omega)
      have eN : (x <<< (y &&& 31)).toBitVec.toNat = x.toBitVec.toNat * 2 ^ y.toBitVec.toNat % 4294967296 := by
        rw [Int32.toBitVec_shiftLeft, e1]
        show (x.toBitVec <<< (BitVec.ofNat 32 y.toBitVec.toNat).toNat).toNat = _
        rw [BitVec.toNat_shiftLeft, BitVec.toNat_ofNat, Nat.mod_eq_of_lt (show y.toBitVec.toNat < 2 ^ 32 by omega), Nat.shiftLeft_eq]
      show q_R rs E _ (x <<< (y &&& 31))
      have eI : ((x.toBitVec.toNat * 2 ^ y.toBitVec.toNat : Nat) : Int) = x.toInt * 2 ^ y.toBitVec.toNat := by
        rw [x1]
        push_cast
        rfl
      generalize y.toBitVec.toNat = n at *
      have m1 : x.toInt * 2 ^ n ≤ i.2 * 2 ^ j.2.toNat := Int.mul_le_mul g2 p3 (by omega) (by omega)
      have m2 : i.1 * 2 ^ j.1.toNat ≤ x.toInt * 2 ^ n := Int.mul_le_mul g1 p1 (by omega) (by omega)
      have hlt : x.toBitVec.toNat * 2 ^ n < 2147483648 := by omega
      rw [Nat.mod_eq_of_lt (by omega)] at eN
      have e4 := s_ofnat (z := x <<< (y &&& 31)) (by omega)
      rw [eN, eI] at e4
      exact s_newR hE (by rw [e4]; exact m2) (by rw [e4]; exact m1)
    | false => exact s_anyR hE
  · exact s_anyR hE
theorem s_ushK : ∀ n : Nat, n < 32 → ((Int32.ofNat n).toUInt32 &&& Int32.toUInt32 31).toBitVec % 32 = BitVec.ofNat 32 n := by decide
theorem s_ushrR (hE : q_E rs E) (ha : s_val rs a = some x.toInt) (hb : s_val rs b = some y.toInt) : q_R rs E (s_ushr E a b) ((x.toUInt32 >>> (y.toUInt32 &&& Int32.toUInt32 31)).toInt32) := by
  refine s_lit2R (op := fun x y => (x.toUInt32 >>> (y.toUInt32 &&& Int32.toUInt32 31)).toInt32) hE ha hb ?_
  split
  · rename_i i z hi hz
    obtain ⟨g1, g2⟩ := s_bndS hE hi ha
    have ez := s_litS hE hb hz
    cases h1 : s_le 1 z && s_le z 31 with
    | true =>
      simp only [Bool.and_eq_true] at h1
      have k1 := s_le_iff.mp h1.1
      have k2 := s_le_iff.mp h1.2
      obtain ⟨e1, e2, e3⟩ := s_shN (y := y) (by omega) (by omega)
      have ey : y = Int32.ofNat y.toBitVec.toNat := by
        apply Int32.toBitVec_inj.mp
        show y.toBitVec = BitVec.ofNat 32 y.toBitVec.toNat
        simp
      have eK := s_ushK y.toBitVec.toNat e2
      rw [← ey] at eK
      have eN : ((x.toUInt32 >>> (y.toUInt32 &&& Int32.toUInt32 31)).toInt32).toBitVec.toNat = x.toBitVec.toNat / 2 ^ y.toBitVec.toNat := by
        show (x.toUInt32 >>> (y.toUInt32 &&& Int32.toUInt32 31)).toBitVec.toNat = _
        rw [UInt32.toBitVec_shiftRight, eK]
        show (x.toBitVec >>> (BitVec.ofNat 32 y.toBitVec.toNat).toNat).toNat = _
        rw [BitVec.toNat_ushiftRight, BitVec.toNat_ofNat, Nat.mod_eq_of_lt (show y.toBitVec.toNat < 2 ^ 32 by omega), Nat.shiftRight_eq_div_pow]
      have hzn : z.toNat = y.toBitVec.toNat := by omega
      have hn1 : 1 ≤ y.toBitVec.toNat := by omega
      have hlt := x.toBitVec.isLt
      show q_R rs E _ ((x.toUInt32 >>> (y.toUInt32 &&& Int32.toUInt32 31)).toInt32)
      generalize (x.toUInt32 >>> (y.toUInt32 &&& Int32.toUInt32 31)).toInt32 = w at eN ⊢
      generalize y.toBitVec.toNat = n at *
      have hw : w.toBitVec.toNat < 2147483648 := by
        rw [eN, Nat.div_lt_iff_lt_mul (Nat.two_pow_pos n)]
        have : 2 ^ 1 ≤ 2 ^ n := Nat.pow_le_pow_right (by omega) hn1
        omega
      have e4 := s_ofnat hw
      rw [eN] at e4
      cases h2 : s_nn i with
      | true =>
        have k3 : 0 ≤ i.1 := s_le_iff.mp h2
        obtain ⟨x1, x2⟩ := s_nat (z := x) (by omega)
        have e5 : w.toInt = x.toInt / 2 ^ n := by
          rw [e4, x1]
          push_cast
          rfl
        obtain ⟨-, p2⟩ := s_pow2 (m := n) (n := n) (Nat.le_refl _)
        refine s_newR hE ?_ ?_
        · rw [e5, hzn]
          exact Int.ediv_le_ediv (by omega) g1
        · rw [e5, hzn]
          exact Int.ediv_le_ediv (by omega) g2
      | false =>
        refine s_newR hE (by rw [e4]; show (0 : Int) ≤ _; omega) ?_
        rw [e4, hzn]
        show ((x.toBitVec.toNat / 2 ^ n : Nat) : Int) ≤ 2 ^ (32 - n) - 1
        have hlt2 : x.toBitVec.toNat / 2 ^ n < 2 ^ (32 - n) := by
          rw [Nat.div_lt_iff_lt_mul (Nat.two_pow_pos n), ← Nat.pow_add, show 32 - n + n = 32 by omega]
          exact hlt
        have e6 : ((2 ^ (32 - n) : Nat) : Int) = 2 ^ (32 - n) := by push_cast; rfl
        omega
    | false => exact s_anyR hE
  · exact s_anyR hE
theorem s_convR {l h : Int} {f : Int32 → Int32} (hE : q_E rs E) (ha : s_val rs a = some x.toInt) (h1 : l ≤ (f x).toInt) (h2 : (f x).toInt ≤ h) (h3 : l ≤ x.toInt → x.toInt ≤ h → f x = x) : q_R rs E (s_conv l h E a) (f x) := by
  unfold s_conv
  split
  · rename_i i hi
    obtain ⟨g1, g2⟩ := s_bndS hE hi ha
    cases hc : s_le l i.1 && s_le i.2 h with
    | true =>
      simp only [Bool.and_eq_true] at hc
      have k1 := s_le_iff.mp hc.1
      have k2 := s_le_iff.mp hc.2
      rw [h3 (by omega) (by omega)]
      exact s_same hE ha
    | false => exact s_newR hE h1 h2
  · exact s_newR hE h1 h2
end Arith
end
-- 09b.bits.lean.txt
section
/-! Shifts and masks that are exact: a form whose rest lies below the bit. -/
noncomputable def s_spl (m : Int) : sT → sT × sT
  | [] => ([], [])
  | (k, c) :: r => bif s_ie (c % m) 0 then ((k, c / m) :: (s_spl m r).1, (s_spl m r).2) else ((s_spl m r).1, (k, c) :: (s_spl m r).2)
theorem s_splS {rs : List Int} {m : Int} : ∀ {t : sT} {v : Int}, s_ev rs t = some v → ∃ d e, s_ev rs (s_spl m t).1 = some d ∧ s_ev rs (s_spl m t).2 = some e ∧ v = m * d + e
  | [], v, h => by
    cases h
    exact ⟨0, 0, rfl, rfl, by omega⟩
  | (k, c) :: r, v, h => by
    obtain ⟨a, u, h1, h2, rfl⟩ := s_ev_cons.mp h
    obtain ⟨d, e, h3, h4, rfl⟩ := s_splS (m := m) h2
    unfold s_spl
    cases hc : s_ie (c % m) 0 with
    | true =>
      have e0 := s_ie_iff.mp hc
      have e1 : m * (c / m) = c := Int.mul_ediv_cancel' (Int.dvd_of_emod_eq_zero e0)
      refine ⟨c / m * a + d, e, s_ev_cons.mpr ⟨a, d, h1, h3, rfl⟩, h4, ?_⟩
      rw [Int.mul_add, ← Int.mul_assoc, e1]
      omega
    | false =>
      exact ⟨d, c * a + e, h3, s_ev_cons.mpr ⟨a, e, h1, h4, rfl⟩, by omega⟩
noncomputable def s_p2 (n : Nat) : Int := Int.ofNat (2 ^ n)
theorem s_p2E (n : Nat) : s_p2 n = 2 ^ n := by
  show ((2 ^ n : Nat) : Int) = 2 ^ n
  rw [Int.natCast_pow]
  rfl
theorem s_p2P (n : Nat) : 1 ≤ s_p2 n := by
  show (1 : Int) ≤ ((2 ^ n : Nat) : Int)
  have := Nat.one_le_two_pow (n := n)
  omega
noncomputable def s_inJ (E : sE) (x : sF) (j : pI) : Bool := match s_bnd E x with
  | none => false
  | some i => s_le j.1 i.1 && s_le i.2 j.2
section Bits
variable {rs : List Int} {E : sE} {a b : sF} {x y : Int32}
theorem s_inJS {f : sF} {j : pI} {v : Int} (hE : q_E rs E) (hx : s_val rs f = some v) (h : s_inJ E f j = true) : j.1 ≤ v ∧ v ≤ j.2 := by
  unfold s_inJ at h
  split at h
  · cases h
  · rename_i i hi
    have b := s_bndS hE hi hx
    simp only [Bool.and_eq_true] at h
    have := s_le_iff.mp h.1
    have := s_le_iff.mp h.2
    omega
/-- what is above a bit, what is below -/
noncomputable def s_top (n : Nat) (a : sF) : sF := ((s_spl (s_p2 n) a.1).1, a.2 / s_p2 n)
noncomputable def s_bot (n : Nat) (a : sF) : sF := ((s_spl (s_p2 n) a.1).2, a.2 % s_p2 n)
theorem s_topS {n : Nat} {v : Int} (h : s_val rs a = some v) : ∃ d e, s_val rs (s_top n a) = some d ∧ s_val rs (s_bot n a) = some e ∧ v = s_p2 n * d + e := by
  obtain ⟨w, h1, rfl⟩ := s_val_iff.mp h
  obtain ⟨d, e, h2, h3, rfl⟩ := s_splS (m := s_p2 n) h1
  refine ⟨d + a.2 / s_p2 n, e + a.2 % s_p2 n, s_val_iff.mpr ⟨d, h2, rfl⟩, s_val_iff.mpr ⟨e, h3, rfl⟩, ?_⟩
  have := Int.emod_add_mul_ediv a.2 (s_p2 n)
  rw [Int.mul_add]
  omega
theorem s_topD {n : Nat} {v : Int} (hE : q_E rs E) (h : s_val rs a = some v) (hb : s_inJ E (s_bot n a) (0, s_p2 n - 1) = true) : s_val rs (s_top n a) = some (v / s_p2 n) ∧ s_val rs (s_bot n a) = some (v % s_p2 n) := by
  obtain ⟨d, e, h1, h2, rfl⟩ := s_topS (n := n) h
  have b := s_inJS hE h2 hb
  have p := s_p2P n
  have b1 : 0 ≤ e := b.1
  have b2 : e ≤ s_p2 n - 1 := b.2
  rw [h1, h2]
  have e1 : (s_p2 n * d + e) / s_p2 n = d := by
    rw [Int.add_comm, Int.add_mul_ediv_left _ _ (by omega), Int.ediv_eq_zero_of_lt b1 (by omega), Int.zero_add]
  have e2 : (s_p2 n * d + e) % s_p2 n = e := by
    rw [Int.add_comm, Int.add_mul_emod_self_left]
    exact Int.emod_eq_of_lt b1 (by omega)
  rw [e1, e2]
  exact ⟨rfl, rfl⟩
noncomputable def s_sshr2 (E : sE) (a b : sF) : sX := match s_lit E b with
  | none => s_sshr E a b
  | some z => bif s_le 0 z && s_le z 31 && s_inJ E (s_bot z.toNat a) (0, s_p2 z.toNat - 1) then (E, s_top z.toNat a) else s_sshr E a b
theorem s_sshr2R (hE : q_E rs E) (ha : s_val rs a = some x.toInt) (hb : s_val rs b = some y.toInt) : q_R rs E (s_sshr2 E a b) (x >>> (y &&& 31)) := by
  unfold s_sshr2
  split
  · exact s_sshrR hE ha hb
  · rename_i z hz
    have e := s_litS hE hb hz
    cases hc : s_le 0 z && s_le z 31 && s_inJ E (s_bot z.toNat a) (0, s_p2 z.toNat - 1) with
    | false => exact s_sshrR hE ha hb
    | true =>
      simp only [Bool.and_eq_true] at hc
      have h0 := s_le_iff.mp hc.1.1
      have h1 := s_le_iff.mp hc.1.2
      obtain ⟨k1, -⟩ := s_topD hE ha hc.2
      refine s_same hE ?_
      rw [s_shrI (by omega) (by omega), e, ← s_p2E]
      exact k1
/-- and with 1; with all but one bit -/
noncomputable def s_sand2 (E : sE) (a b : sF) : sX := match s_lit E b with
  | none => s_sand E a b
  | some z => bif s_ie z 1 && s_inJ E a (0, 2147483647) && s_inJ E (s_bot 1 a) (0, s_p2 1 - 1) then (E, s_bot 1 a) else
    bif s_le z (-2) && s_ie z (-1 - s_p2 (-1 - z).toNat.log2) && Nat.ble (-1 - z).toNat.log2 30 && s_inJ E a (0, 2147483647) && s_inJ E (s_bot ((-1 - z).toNat.log2 + 1) a) (0, s_p2 ((-1 - z).toNat.log2 + 1) - 1) && s_inJ E (s_bot (-1 - z).toNat.log2 a) (0, s_p2 (-1 - z).toNat.log2 - 1) then
      (E, s_add (s_mul (s_p2 ((-1 - z).toNat.log2 + 1)) (s_top ((-1 - z).toNat.log2 + 1) a)) (s_bot (-1 - z).toNat.log2 a)) else s_sand E a b
theorem s_clr {n f : Nat} (hn : n < 2147483648) (hf : f ≤ 30) : n &&& (4294967296 - (2 ^ f + 1)) = 2 ^ (f + 1) * (n / 2 ^ (f + 1)) + n % 2 ^ f := by
  have hlt : n % 2 ^ f < 2 ^ (f + 1) := Nat.lt_of_lt_of_le (Nat.mod_lt _ (Nat.two_pow_pos f)) (Nat.pow_le_pow_right (by decide) (by omega))
  apply Nat.eq_of_testBit_eq
  intro i
  rw [Nat.testBit_and, show (4294967296 : Nat) = 2 ^ 32 from rfl, Nat.testBit_two_pow_sub_succ (Nat.pow_lt_pow_right (by decide) (by omega)), Nat.testBit_two_pow, Nat.testBit_two_pow_mul_add _ hlt]
  by_cases h1 : i < f + 1
  · rw [if_pos h1, Nat.testBit_mod_two_pow]
    by_cases h2 : i = f
    · subst h2
      simp
    · have h3 : i < f := by omega
      have h4 : i < 32 := by omega
      have h5 : ¬ f = i := by omega
      simp [h3, h4, h5]
  · rw [if_neg h1, Nat.testBit_div_two_pow]
    have h5 : ¬ f = i := by omega
    by_cases h4 : i < 32
    · simp [h4, h5, show i - (f + 1) + (f + 1) = i by omega]
    · have : n.testBit i = false := Nat.testBit_lt_two_pow (Nat.lt_of_lt_of_le hn (Nat.le_trans (show 2147483648 ≤ 2 ^ 31 from Nat.le_refl _) (Nat.pow_le_pow_right (by decide) (by omega))))
      simp [this, show i - (f + 1) + (f + 1) = i by omega]
theorem s_sand2R (hE : q_E rs E) (ha : s_val rs a = some x.toInt) (hb : s_val rs b = some y.toInt) : q_R rs E (s_sand2 E a b) (x &&& y) := by
  unfold s_sand2
  split
  · exact s_sandR hE ha hb
  · rename_i z hz
    have e := s_litS hE hb hz
    cases hc : s_ie z 1 && s_inJ E a (0, 2147483647) && s_inJ E (s_bot 1 a) (0, s_p2 1 - 1) with
    | true =>
      simp only [Bool.and_eq_true] at hc
      have e1 := s_ie_iff.mp hc.1.1
      obtain ⟨-, k2⟩ := s_topD hE ha hc.2
      have hx := (s_inJS hE ha hc.1.2).1
      have hx : 0 ≤ x.toInt := hx
      obtain ⟨n1, n2⟩ := s_nat hx
      refine s_same hE ?_
      have hy : y.toBitVec.toNat = 1 := by
        have := (s_nat (z := y) (by omega)).1
        omega
      have e3 : (x &&& y).toBitVec.toNat = x.toBitVec.toNat % 2 := by
        rw [Int32.toBitVec_and, BitVec.toNat_and, hy, Nat.and_one_is_mod]
      rw [k2, s_ofnat (z := x &&& y) (by omega), e3, n1]
      congr 1
    | false =>
      simp only [cond_false]
      generalize hf : (-1 - z).toNat.log2 = f
      cases hc2 : s_le z (-2) && s_ie z (-1 - s_p2 f) && Nat.ble f 30 && s_inJ E a (0, 2147483647) && s_inJ E (s_bot (f + 1) a) (0, s_p2 (f + 1) - 1) && s_inJ E (s_bot f a) (0, s_p2 f - 1) with
      | false => exact s_sandR hE ha hb
      | true =>
        simp only [Bool.and_eq_true] at hc2
        obtain ⟨⟨⟨⟨⟨c1, c2⟩, c3⟩, c4⟩, c5⟩, c6⟩ := hc2
        have e2 := s_ie_iff.mp c2
        have hf30 := Nat.le_of_ble_eq_true c3
        have hx : 0 ≤ x.toInt := (s_inJS hE ha c4).1
        obtain ⟨n1, n2⟩ := s_nat hx
        obtain ⟨k1, -⟩ := s_topD hE ha c5
        obtain ⟨-, k4⟩ := s_topD hE ha c6
        refine s_same hE ?_
        have hp : (2 : Nat) ^ f ≤ 2 ^ 30 := Nat.pow_le_pow_right (by decide) hf30
        have hp2 : s_p2 f = ((2 ^ f : Nat) : Int) := rfl
        have hp1 : s_p2 (f + 1) = ((2 ^ (f + 1) : Nat) : Int) := rfl
        have hy : y.toBitVec.toNat = 4294967296 - (2 ^ f + 1) := by
          have h1 : y.toInt = y.toBitVec.toInt := rfl
          rw [BitVec.toInt_eq_toNat_cond] at h1
          have hl := y.toBitVec.isLt
          rw [hp2] at e2
          have hp' : (2 : Nat) ^ f ≤ 1073741824 := hp
          generalize (2 : Nat) ^ f = P at e2 hp' ⊢
          split at h1
          · omega
          · have : ((2 ^ 32 : Nat) : Int) = 4294967296 := rfl
            omega
        have e3 : (x &&& y).toBitVec.toNat = 2 ^ (f + 1) * (x.toBitVec.toNat / 2 ^ (f + 1)) + x.toBitVec.toNat % 2 ^ f := by
          rw [Int32.toBitVec_and, BitVec.toNat_and, hy, s_clr n2 hf30]
        have e4 : (x &&& y).toBitVec.toNat ≤ x.toBitVec.toNat := by
          rw [Int32.toBitVec_and, BitVec.toNat_and]
          exact Nat.and_le_left
        rw [s_addS (s_mulS k1) k4, s_ofnat (z := x &&& y) (by omega), e3, n1, hp1, hp2]
        congr 1
end Bits
end
-- 10.cells.lean.txt
section
/-! Rows: their slots by turns (slot j is as field j mod the number of fields says), what was read or written last, what holds of all slots below a number. -/
noncomputable def s_nil {α : Type} : List α → Bool
  | [] => true
  | _ => false
theorem s_nilS {α : Type} {l : List α} (h : s_nil l = true) : l = [] := by
  cases l with
  | nil => rfl
  | cons a r => cases h
/-- the least of a form, with two of what is known -/
noncomputable def s_lowQ (E : sE) (f : sF) : List (sT × Int) → Int → Int
  | [], l => l
  | q :: r, l => bif s_shr q.1 f.1 then (match s_bnd E (s_addT f.1 (s_mulT (-1) q.1), f.2) with
    | none => s_lowQ E f r l
    | some i => s_lowQ E f r (s_max l (i.1 + q.2))) else s_lowQ E f r l
noncomputable def s_bnd2 (b : Bool) (E : sE) (f : sF) : Option pI := match s_bnd E f with
  | none => none
  | some i => bif b && s_le (i.1 + 1) i.2 then some (s_lowQ E f E.2.2.1 i.1, -(s_lowQ E (s_mul (-1) f) E.2.2.1 (-i.2))) else some i
theorem s_lowQS {rs : List Int} {E : sE} {f : sF} {v : Int} (hE : q_E rs E) (hf : s_val rs f = some v) : ∀ {G : List (sT × Int)} {l : Int}, (∀ q ∈ G, ∃ v, s_ev rs q.1 = some v ∧ q.2 ≤ v) → l ≤ v → s_lowQ E f G l ≤ v
  | [], l, _, h => h
  | q :: r, l, hG, h => by
    have hr := fun x (hx : x ∈ r) => hG x (List.mem_cons_of_mem _ hx)
    unfold s_lowQ
    cases s_shr q.1 f.1 with
    | false => exact s_lowQS hE hf hr h
    | true =>
      obtain ⟨w, h1, h2⟩ := hG q List.mem_cons_self
      simp only [cond_true]
      split
      · exact s_lowQS hE hf hr h
      · rename_i i hi
        obtain ⟨a, g1, rfl⟩ := s_val_iff.mp hf
        have g := (s_bndS hE hi (s_val_iff.mpr ⟨_, s_addTS g1 (s_mulTS (c := -1) h1), rfl⟩)).1
        exact s_lowQS hE (s_val_iff.mpr ⟨a, g1, rfl⟩) hr (s_max_le h (by omega))
theorem s_bnd2S {rs : List Int} {b : Bool} {E : sE} {f : sF} {i : pI} {v : Int} (hE : q_E rs E) (h : s_bnd2 b E f = some i) (hf : s_val rs f = some v) : i.1 ≤ v ∧ v ≤ i.2 := by
  unfold s_bnd2 at h
  split at h
  · cases h
  · rename_i j hj
    have g := s_bndS hE hj hf
    cases hb : b && s_le (j.1 + 1) j.2 with
    | false =>
      rw [hb] at h
      cases h
      exact g
    | true =>
      rw [hb] at h
      cases h
      have k1 := s_lowQS hE hf hE.2.2.1 g.1
      have k2 := s_lowQS hE (s_mulS (c := -1) hf) hE.2.2.1 (show -j.2 ≤ -1 * v by omega)
      exact ⟨k1, by show v ≤ -_; omega⟩
noncomputable abbrev sW : Type := sF ⊕ (pI × Option sF)
noncomputable abbrev sR : Type := FieldType × sF × List sW × List (sF × sF) × List (sF × pI)
noncomputable def s_divs (P : Nat) : sT → Bool
  | [] => true
  | q :: r => s_ie (q.2 % (P : Int)) 0 && s_divs P r
/-- which fields an index may mean -/
noncomputable def s_res (P : Nat) (f : sF) (i : pI) : List Nat := bif s_divs P f.1 then [(f.2 % (P : Int)).toNat] else bif s_le (P : Int) (i.2 - i.1 + 1) then List.range P else (List.range (i.2 - i.1 + 1).toNat).map (fun (t : Nat) => ((i.1 + (t : Int)) % (P : Int)).toNat)
noncomputable def s_wI (E : sE) : sW → Option (pI × Option sF)
  | .inl f => match s_bnd E f with
    | none => none
    | some i => some (i, none)
  | .inr q => some q
noncomputable def s_up (a b : Option sF) : Option sF := match a, b with
  | some u, some v => bif s_eqF u v then some u else none
  | _, _ => none
noncomputable def s_jn (a b : pI × Option sF) : pI × Option sF := ((s_min a.1.1 b.1.1, s_max a.1.2 b.1.2), s_up a.2 b.2)
noncomputable def s_jns (E : sE) (fs : List sW) : List Nat → Option (pI × Option sF)
  | [] => none
  | q :: r => match fs[q]? with
    | none => none
    | some w => match s_wI E w with
      | none => none
      | some a => match r with
        | [] => some a
        | _ => match s_jns E fs r with
          | none => none
          | some b => some (s_jn a b)
noncomputable def s_find (f : sF) : List (sF × sF) → Option sF
  | [] => none
  | q :: r => bif s_eqF q.1 f then some q.2 else s_find f r
noncomputable def s_fct (E : sE) (f : sF) : List (sF × pI) → pI → pI
  | [], b => b
  | q :: r, b => bif s_gez E (s_sub q.1 f) 1 then s_fct E f r (s_max b.1 q.2.1, s_min b.2 q.2.2) else s_fct E f r b
noncomputable def s_one (fs : List sW) : List Nat → Option sF
  | [q] => match fs[q]? with
    | some (.inl w) => some w
    | _ => none
  | _ => none
noncomputable def s_upE (E : sE) (v : sF) : Option sF → sE
  | none => E
  | some u => s_ge E (s_sub u v)
noncomputable def s_rd (E : sE) (ro : sR) (f : sF) : Option (sE × sF × sR) := match ro with
  | (ty, len, fs, ch, fa) => match s_find f ch with
    | some v => some (E, v, ro)
    | none => match s_bnd2 (Nat.blt 1 fs.length) E f with
      | none => none
      | some i => match s_one fs (s_res fs.length f i) with
        | some w => some (E, w, ro)
        | none => match s_jns E fs (s_res fs.length f i) with
          | none => none
          | some (b, u) => match s_new E (s_fct E f fa b) with
            | (E1, v) => some (s_upE E1 v u, v, (ty, len, fs, (f, v) :: ch.take 7, fa))
noncomputable def s_wj (E : sE) (x : sF) (w : sW) : sW := match w with
  | .inl g => bif s_eqF g x then w else (match s_bnd E g, s_bnd E x with
    | some a, some b => .inr ((s_min a.1 b.1, s_max a.2 b.2), none)
    | _, _ => .inr (s_any, none))
  | .inr (i, u) => match s_bnd E x with
    | some b => .inr ((s_min i.1 b.1, s_max i.2 b.2), (match u with
      | none => none
      | some uf => bif s_gez E (s_sub uf x) 0 then some uf else none))
    | none => .inr (s_any, none)
noncomputable def s_mem (k : Nat) : List Nat → Bool
  | [] => false
  | q :: r => Nat.beq q k || s_mem k r
noncomputable def s_wk (E : sE) (x : sF) (rs : List Nat) : Nat → List sW → List sW
  | _, [] => []
  | k, w :: r => (bif s_mem k rs then s_wj E x w else w) :: s_wk E x rs (k + 1) r
noncomputable def s_apart (E : sE) (f g : sF) : Bool := match s_bnd E (s_sub f g) with
  | none => false
  | some i => s_le 1 i.1 || s_le i.2 (-1) || s_isNe (s_sub f g) E.2.2.2
noncomputable def s_drop (E : sE) (f : sF) : List (sF × sF) → List (sF × sF)
  | [] => []
  | q :: r => bif s_apart E f q.1 then q :: s_drop E f r else s_drop E f r
noncomputable def s_inI (E : sE) (x : sF) (j : pI) : Bool := match s_bnd E x with
  | none => false
  | some i => s_le j.1 i.1 && s_le i.2 j.2
noncomputable def s_ffa (E : sE) (f x : sF) : List (sF × pI) → List (sF × pI)
  | [] => []
  | q :: r => bif s_inI E x q.2 || s_gez E (s_sub f q.1) 0 then q :: s_ffa E f x r else s_ffa E f x r
noncomputable def s_wkR (E : sE) (ro : sR) (f x : sF) (rs : List Nat) : sR := match ro with
  | (ty, len, fs, ch, fa) => (ty, len, s_wk E x rs 0 fs, (f, x) :: (s_drop E f ch).take 7, s_ffa E f x fa)
noncomputable def s_wr (E : sE) (ro : sR) (f x : sF) : Option sR := match ro with
  | (ty, (t, n), fs, ch, fa) => match t with
    | _ :: _ => none
    | [] => match s_bnd2 (Nat.blt 1 fs.length) E f with
      | none => none
      | some i => match s_res fs.length f i with
        | [q] => bif s_ie n (fs.length : Int) then some (ty, ([], n), fs.set q (.inl x), s_drop E f ch, s_ffa E f x fa) else some (s_wkR E (ty, ([], n), fs, ch, fa) f x [q])
        | rs => some (s_wkR E (ty, ([], n), fs, ch, fa) f x rs)
/-- is an index within -/
noncomputable def s_ix (E : sE) (len f : sF) : Bool := s_ge2 E f 0 && s_ge2 E (s_sub len f) 1
/-- what a field says of its slots -/
noncomputable def q_W (rs : List Int) : sW → Int32 → Prop
  | .inl f, x => s_val rs f = some x.toInt
  | .inr (i, u), x => i.1 ≤ x.toInt ∧ x.toInt ≤ i.2 ∧ ∀ f, u = some f → ∃ v, s_val rs f = some v ∧ x.toInt ≤ v
noncomputable def q_Ro (rs : List Int) (n : Nat) (g : Nat → Int32) (ro : sR) : Prop :=
  s_val rs ro.2.1 = some (n : Int) ∧ 0 < ro.2.2.1.length ∧ (∀ j, j < n → ∃ w, ro.2.2.1[j % ro.2.2.1.length]? = some w ∧ q_W rs w (g j)) ∧ (∀ p ∈ ro.2.2.2.1, ∃ j, j < n ∧ s_val rs p.1 = some (j : Int) ∧ s_val rs p.2 = some (g j).toInt) ∧ (∀ p ∈ ro.2.2.2.2, ∃ u, s_val rs p.1 = some u ∧ ∀ j, j < n → (j : Int) < u → p.2.1 ≤ (g j).toInt ∧ (g j).toInt ≤ p.2.2)
theorem q_W.mono {rs : List Int} (e : List Int) {w : sW} {x : Int32} (h : q_W rs w x) : q_W (rs ++ e) w x := by
  rcases w with f | ⟨i, u⟩
  · exact s_val_mono e h
  · exact ⟨h.1, h.2.1, fun f hf => by obtain ⟨v, h1, h2⟩ := h.2.2 f hf; exact ⟨v, s_val_mono e h1, h2⟩⟩
theorem q_Ro.mono {rs : List Int} (e : List Int) {n : Nat} {g : Nat → Int32} {ro : sR} (h : q_Ro rs n g ro) : q_Ro (rs ++ e) n g ro :=
  ⟨s_val_mono e h.1, h.2.1, fun j hj => by obtain ⟨w, h1, h2⟩ := h.2.2.1 j hj; exact ⟨w, h1, h2.mono e⟩, fun p hp => by obtain ⟨j, h1, h2, h3⟩ := h.2.2.2.1 p hp; exact ⟨j, h1, s_val_mono e h2, s_val_mono e h3⟩, fun p hp => by obtain ⟨u, h1, h2⟩ := h.2.2.2.2 p hp; exact ⟨u, s_val_mono e h1, h2⟩⟩
section Rw
variable {rs : List Int} {E : sE}
theorem s_divsS {P : Nat} : ∀ {t : sT} {v : Int}, s_divs P t = true → s_ev rs t = some v → v % (P : Int) = 0
  | [], v, _, h => by cases h; exact Int.zero_emod _
  | (k, c) :: t, v, h, hv => by
    simp only [s_divs, Bool.and_eq_true] at h
    obtain ⟨a, u, h1, h2, rfl⟩ := s_ev_cons.mp hv
    have e1 := s_ie_iff.mp h.1
    have e2 := s_divsS h.2 h2
    obtain ⟨c', hc⟩ := Int.dvd_of_emod_eq_zero e1
    obtain ⟨u', hu⟩ := Int.dvd_of_emod_eq_zero e2
    apply Int.emod_eq_zero_of_dvd
    refine ⟨c' * a + u', ?_⟩
    have hc : c = (P : Int) * c' := hc
    rw [hc, hu, Int.mul_add, Int.mul_assoc]
theorem s_resS {P : Nat} {f : sF} {i : pI} {j : Nat} (hP : 0 < P) (hf : s_val rs f = some (j : Int)) (h1 : i.1 ≤ (j : Int)) (h2 : (j : Int) ≤ i.2) : j % P ∈ s_res P f i := by
  have ej : ((j : Int) % (P : Int)).toNat = j % P := rfl
  unfold s_res
  cases hd : s_divs P f.1 with
  | true =>
    obtain ⟨a, g1, g2⟩ := s_val_iff.mp hf
    have e := s_divsS hd g1
    refine List.mem_singleton.mpr ?_
    rw [← ej, g2, Int.add_emod, e, Int.zero_add, Int.emod_emod]
  | false =>
    simp only [cond_false]
    cases hl : s_le (P : Int) (i.2 - i.1 + 1) with
    | true => exact List.mem_range.mpr (Nat.mod_lt _ hP)
    | false =>
      refine List.mem_map.mpr ⟨((j : Int) - i.1).toNat, List.mem_range.mpr (by omega), ?_⟩
      rw [show i.1 + ((((j : Int) - i.1).toNat : Nat) : Int) = (j : Int) by omega]
      exact ej
theorem s_wIS {w : sW} {x : Int32} {q : pI × Option sF} (hE : q_E rs E) (h : q_W rs w x) (hq : s_wI E w = some q) : q_W rs (.inr q) x := by
  rcases w with f | q0
  · simp only [s_wI] at hq
    split at hq
    · cases hq
    · rename_i i hi
      cases hq
      obtain ⟨g1, g2⟩ := s_bndS hE hi h
      exact ⟨g1, g2, fun f hf => by cases hf⟩
  · cases hq
    exact h
theorem s_upS {a b : Option sF} {u : sF} (h : s_up a b = some u) : a = some u ∧ b = some u := by
  unfold s_up at h
  split at h
  · rename_i x y
    cases he : s_eqF x y with
    | true =>
      rw [he] at h
      cases h
      exact ⟨rfl, by rw [s_eqF_eq he]⟩
    | false => rw [he] at h; cases h
  · cases h
theorem s_jnL {a b : pI × Option sF} {x : Int32} (h : q_W rs (.inr a) x) : q_W rs (.inr (s_jn a b)) x :=
  ⟨Int.le_trans (s_min_l _ _) h.1, Int.le_trans h.2.1 (s_max_l _ _), fun f hf => h.2.2 f (s_upS hf).1⟩
theorem s_jnR {a b : pI × Option sF} {x : Int32} (h : q_W rs (.inr b) x) : q_W rs (.inr (s_jn a b)) x :=
  ⟨Int.le_trans (s_min_r _ _) h.1, Int.le_trans h.2.1 (s_max_r _ _), fun f hf => h.2.2 f (s_upS hf).2⟩
theorem s_jnsS {fs : List sW} {x : Int32} (hE : q_E rs E) : ∀ {l : List Nat} {q : Nat} {w : sW} {j : pI × Option sF}, q ∈ l → fs[q]? = some w → q_W rs w x → s_jns E fs l = some j → q_W rs (.inr j) x
  | [], q, w, j, hq, _, _, _ => nomatch hq
  | q0 :: r, q, w, j, hq, hw, hx, h => by
    unfold s_jns at h
    split at h
    · cases h
    · rename_i w0 hw0
      split at h
      · cases h
      · rename_i a ha
        split at h
        · cases h
          have e : q = q0 := by simpa using hq
          subst e
          rw [hw] at hw0
          cases hw0
          exact s_wIS hE hx ha
        · split at h
          · cases h
          · rename_i b hb
            cases h
            rcases List.mem_cons.mp hq with rfl | hq
            · rw [hw] at hw0
              cases hw0
              exact s_jnL (s_wIS hE hx ha)
            · exact s_jnR (s_jnsS hE hq hw hx hb)
theorem s_findS {f v : sF} : ∀ {ch : List (sF × sF)}, s_find f ch = some v → (f, v) ∈ ch
  | [], h => by cases h
  | q :: r, h => by
    unfold s_find at h
    cases he : s_eqF q.1 f with
    | true =>
      rw [he] at h
      cases h
      rw [← s_eqF_eq he]
      exact List.mem_cons_self
    | false =>
      rw [he] at h
      exact List.mem_cons_of_mem _ (s_findS h)
theorem s_fctS {f : sF} {j : Nat} {x : Int} (hE : q_E rs E) (hf : s_val rs f = some (j : Int)) : ∀ {fa : List (sF × pI)} {b : pI}, (∀ p ∈ fa, ∃ u, s_val rs p.1 = some u ∧ ((j : Int) < u → p.2.1 ≤ x ∧ x ≤ p.2.2)) → b.1 ≤ x → x ≤ b.2 → (s_fct E f fa b).1 ≤ x ∧ x ≤ (s_fct E f fa b).2
  | [], b, _, h1, h2 => ⟨h1, h2⟩
  | q :: r, b, hfa, h1, h2 => by
    unfold s_fct
    have hr := fun p (hp : p ∈ r) => hfa p (List.mem_cons_of_mem _ hp)
    cases hq : s_gez E (s_sub q.1 f) 1 with
    | false => exact s_fctS hE hf hr h1 h2
    | true =>
      obtain ⟨u, g1, g2⟩ := hfa q List.mem_cons_self
      have := s_gezS hE hq (s_subS g1 hf)
      obtain ⟨k1, k2⟩ := g2 (by omega)
      exact s_fctS hE hf hr (s_max_le h1 k1) (s_le_min h2 k2)
theorem s_oneS {fs : List sW} {l : List Nat} {f : sF} {q : Nat} (h : s_one fs l = some f) (hq : q ∈ l) : fs[q]? = some (.inl f) := by
  unfold s_one at h
  split at h
  · split at h
    · rename_i hw
      cases h
      rw [List.mem_singleton.mp hq]
      exact hw
    · cases h
  · cases h
theorem s_rdS {ro : sR} {n j : Nat} {g : Nat → Int32} {f : sF} {X : sE × sF × sR} (hE : q_E rs E) (hR : q_Ro rs n g ro) (hf : s_val rs f = some (j : Int)) (hj : j < n) (h : s_rd E ro f = some X) :
    ∃ e, q_E (rs ++ e) X.1 ∧ s_val (rs ++ e) X.2.1 = some (g j).toInt ∧ q_Ro (rs ++ e) n g X.2.2 ∧ X.1.1 = E.1 ∧ X.2.2.1 = ro.1 ∧ X.2.2.2.1 = ro.2.1 := by
  obtain ⟨ty, len, fs, ch, fa⟩ := ro
  obtain ⟨r1, r2, r3, r4, r5⟩ := hR
  have same : ∀ {v : sF}, s_val rs v = some (g j).toInt → ∃ e, q_E (rs ++ e) E ∧ s_val (rs ++ e) v = some (g j).toInt ∧ q_Ro (rs ++ e) n g (ty, len, fs, ch, fa) := fun hv => ⟨[], by rw [List.append_nil]; exact hE, by rw [List.append_nil]; exact hv, by rw [List.append_nil]; exact ⟨r1, r2, r3, r4, r5⟩⟩
  unfold s_rd at h
  simp only at h
  split at h
  · rename_i v hv
    cases h
    obtain ⟨j2, k1, k2, k3⟩ := r4 _ (s_findS hv)
    have e : j2 = j := by
      have := Option.some.inj (hf.symm.trans k2)
      omega
    subst e
    obtain ⟨e, a1, a2, a3⟩ := same k3
    exact ⟨e, a1, a2, a3, rfl, rfl, rfl⟩
  · split at h
    · cases h
    · rename_i i hi
      obtain ⟨b1, b2⟩ := s_bnd2S hE hi hf
      have hm := s_resS r2 hf b1 b2
      obtain ⟨w, hw1, hw2⟩ := r3 j hj
      split at h
      · rename_i w1 h1
        cases h
        have := s_oneS h1 hm
        have hw1 : fs[j % fs.length]? = some w := hw1
        rw [hw1] at this
        cases this
        obtain ⟨e, a1, a2, a3⟩ := same hw2
        exact ⟨e, a1, a2, a3, rfl, rfl, rfl⟩
      · split at h
        · cases h
        · rename_i b u hb
          have hJ := s_jnsS hE hm hw1 hw2 hb
          obtain ⟨c1, c2⟩ := s_fctS (x := (g j).toInt) (b := b) hE hf (fun p hp => by
            obtain ⟨u, k1, k2⟩ := r5 p hp
            exact ⟨u, k1, k2 j hj⟩) hJ.1 hJ.2.1
          obtain ⟨n1, n2, n3⟩ := s_newS hE c1 c2
          generalize s_new E (s_fct E f fa b) = X1 at h n1 n2 n3
          obtain ⟨E1, v⟩ := X1
          simp only at h
          cases h
          have key : q_E (rs ++ [(g j).toInt]) (s_upE E1 v u) ∧ (s_upE E1 v u).1 = E1.1 := by
            cases u with
            | none => exact ⟨n1, rfl⟩
            | some uf =>
              obtain ⟨z, z1, z2⟩ := hJ.2.2 uf rfl
              exact s_geS n1 (s_subS (s_val_mono _ z1) n2) (by omega)
          refine ⟨_, key.1, n2, ⟨s_val_mono _ r1, r2, fun j hj => ?_, fun p hp => ?_, fun p hp => ?_⟩, key.2.trans n3, rfl, rfl⟩
          · obtain ⟨w, k1, k2⟩ := r3 j hj
            exact ⟨w, k1, k2.mono _⟩
          · rcases List.mem_cons.mp hp with rfl | hp
            · exact ⟨j, hj, s_val_mono _ hf, n2⟩
            · obtain ⟨j2, k1, k2, k3⟩ := r4 p (List.mem_of_mem_take hp)
              exact ⟨j2, k1, s_val_mono _ k2, s_val_mono _ k3⟩
          · obtain ⟨u, k1, k2⟩ := r5 p hp
            exact ⟨u, s_val_mono _ k1, k2⟩
theorem s_wjO {x : sF} {w : sW} {y : Int32} (hE : q_E rs E) (h : q_W rs w y) : q_W rs (s_wj E x w) y := by
  rcases w with f | ⟨i, u⟩
  · unfold s_wj
    simp only
    cases s_eqF f x with
    | true => exact h
    | false =>
      simp only [cond_false]
      split
      · rename_i a b ha hb
        obtain ⟨g1, g2⟩ := s_bndS hE ha h
        exact ⟨Int.le_trans (s_min_l _ _) g1, Int.le_trans g2 (s_max_l _ _), fun f hf => by cases hf⟩
      · exact ⟨q_low _, q_high _, fun f hf => by cases hf⟩
  · unfold s_wj
    simp only
    split
    · rename_i b hb
      refine ⟨Int.le_trans (s_min_l _ _) h.1, Int.le_trans h.2.1 (s_max_l _ _), fun f hf => ?_⟩
      cases u with
      | none => cases hf
      | some uf =>
        simp only at hf
        cases hg : s_gez E (s_sub uf x) 0 with
        | true => rw [hg] at hf; cases hf; exact h.2.2 _ rfl
        | false => rw [hg] at hf; cases hf
    · exact ⟨q_low _, q_high _, fun f hf => by cases hf⟩
theorem s_wjN {x : sF} {w : sW} {y z : Int32} (hE : q_E rs E) (h : q_W rs w y) (hx : s_val rs x = some z.toInt) : q_W rs (s_wj E x w) z := by
  rcases w with f | ⟨i, u⟩
  · unfold s_wj
    simp only
    cases he : s_eqF f x with
    | true =>
      rw [← s_eqF_eq he] at hx
      exact hx
    | false =>
      simp only [cond_false]
      split
      · rename_i a b ha hb
        obtain ⟨g1, g2⟩ := s_bndS hE hb hx
        exact ⟨Int.le_trans (s_min_r _ _) g1, Int.le_trans g2 (s_max_r _ _), fun f hf => by cases hf⟩
      · exact ⟨q_low _, q_high _, fun f hf => by cases hf⟩
  · unfold s_wj
    simp only
    split
    · rename_i b hb
      obtain ⟨g1, g2⟩ := s_bndS hE hb hx
      refine ⟨Int.le_trans (s_min_r _ _) g1, Int.le_trans g2 (s_max_r _ _), fun f hf => ?_⟩
      cases u with
      | none => cases hf
      | some uf =>
        simp only at hf
        cases hg : s_gez E (s_sub uf x) 0 with
        | true =>
          rw [hg] at hf
          cases hf
          obtain ⟨v, k1, k2⟩ := h.2.2 _ rfl
          have := s_gezS hE hg (s_subS k1 hx)
          exact ⟨v, k1, by omega⟩
        | false => rw [hg] at hf; cases hf
    · exact ⟨q_low _, q_high _, fun f hf => by cases hf⟩
theorem s_memS {k : Nat} : ∀ {l : List Nat}, s_mem k l = true ↔ k ∈ l
  | [] => ⟨fun h => (by cases h), fun h => (by cases h)⟩
  | q :: r => by
    simp only [s_mem, Bool.or_eq_true, List.mem_cons]
    constructor
    · rintro (h | h)
      · exact Or.inl (Nat.eq_of_beq_eq_true h).symm
      · exact Or.inr (s_memS.mp h)
    · rintro (h | h)
      · exact Or.inl (by rw [h]; exact Nat.beq_refl _)
      · exact Or.inr (s_memS.mpr h)
theorem s_wkS {x : sF} {l : List Nat} : ∀ {fs : List sW} {k q : Nat} {w : sW}, fs[q]? = some w → (s_wk E x l k fs)[q]? = some (bif s_mem (k + q) l then s_wj E x w else w)
  | [], k, q, w, h => by cases h
  | w0 :: r, k, 0, w, h => by
    cases h
    rfl
  | w0 :: r, k, q + 1, w, h => by
    unfold s_wk
    rw [List.getElem?_cons_succ, s_wkS (k := k + 1) (q := q) (w := w) (by simpa using h), show k + 1 + q = k + (q + 1) by omega]
theorem s_wkL {x : sF} {l : List Nat} : ∀ {fs : List sW} {k : Nat}, (s_wk E x l k fs).length = fs.length
  | [], _ => rfl
  | w :: r, k => by
    unfold s_wk
    rw [List.length_cons, List.length_cons, s_wkL]
theorem s_apartS {f g : sF} {a b : Int} (hE : q_E rs E) (hf : s_val rs f = some a) (hg : s_val rs g = some b) (h : s_apart E f g = true) : a ≠ b := by
  unfold s_apart at h
  have hd := s_subS hf hg
  split at h
  · cases h
  · rename_i i hi
    obtain ⟨g1, g2⟩ := s_bndS hE hi hd
    simp only [Bool.or_eq_true] at h
    rcases h with (h | h) | h
    · have := s_le_iff.mp h; omega
    · have := s_le_iff.mp h; omega
    · have := s_isNeS hd hE.2.2.2 h; omega
theorem s_dropS {f : sF} {p : sF × sF} : ∀ {ch : List (sF × sF)}, p ∈ s_drop E f ch → p ∈ ch ∧ s_apart E f p.1 = true
  | [], h => by cases h
  | q :: r, h => by
    unfold s_drop at h
    cases ha : s_apart E f q.1 with
    | true =>
      rw [ha] at h
      rcases List.mem_cons.mp h with rfl | h
      · exact ⟨List.mem_cons_self, ha⟩
      · exact ⟨List.mem_cons_of_mem _ (s_dropS h).1, (s_dropS h).2⟩
    | false =>
      rw [ha] at h
      exact ⟨List.mem_cons_of_mem _ (s_dropS h).1, (s_dropS h).2⟩
theorem s_inIS {x : sF} {j : pI} {v : Int} (hE : q_E rs E) (hx : s_val rs x = some v) (h : s_inI E x j = true) : j.1 ≤ v ∧ v ≤ j.2 := by
  unfold s_inI at h
  split at h
  · cases h
  · rename_i i hi
    obtain ⟨g1, g2⟩ := s_bndS hE hi hx
    simp only [Bool.and_eq_true] at h
    have := s_le_iff.mp h.1
    have := s_le_iff.mp h.2
    omega
theorem s_ffaS {f x : sF} {p : sF × pI} : ∀ {fa : List (sF × pI)}, p ∈ s_ffa E f x fa → p ∈ fa ∧ (s_inI E x p.2 || s_gez E (s_sub f p.1) 0) = true
  | [], h => by cases h
  | q :: r, h => by
    unfold s_ffa at h
    cases ha : (s_inI E x q.2 || s_gez E (s_sub f q.1) 0) with
    | true =>
      rw [ha] at h
      rcases List.mem_cons.mp h with rfl | h
      · exact ⟨List.mem_cons_self, ha⟩
      · exact ⟨List.mem_cons_of_mem _ (s_ffaS h).1, (s_ffaS h).2⟩
    | false =>
      rw [ha] at h
      exact ⟨List.mem_cons_of_mem _ (s_ffaS h).1, (s_ffaS h).2⟩
/-- behind a write: caches and facts -/
theorem s_wrC {n j : Nat} {g : Nat → Int32} {f x : sF} {y : Int32} {ch : List (sF × sF)} (hE : q_E rs E) (hf : s_val rs f = some (j : Int)) (r4 : ∀ p ∈ ch, ∃ j, j < n ∧ s_val rs p.1 = some (j : Int) ∧ s_val rs p.2 = some (g j).toInt) : ∀ p ∈ s_drop E f ch, ∃ k, k < n ∧ s_val rs p.1 = some (k : Int) ∧ s_val rs p.2 = some (upd g j y k).toInt := fun p hp => by
  obtain ⟨h1, h2⟩ := s_dropS hp
  obtain ⟨k, k1, k2, k3⟩ := r4 p h1
  have := s_apartS hE hf k2 h2
  have e : upd g j y k = g k := by
    unfold upd
    rw [if_neg (by omega)]
  exact ⟨k, k1, k2, by rw [e]; exact k3⟩
theorem s_wrF {n j : Nat} {g : Nat → Int32} {f x : sF} {y : Int32} {fa : List (sF × pI)} (hE : q_E rs E) (hf : s_val rs f = some (j : Int)) (hx : s_val rs x = some y.toInt) (r5 : ∀ p ∈ fa, ∃ u, s_val rs p.1 = some u ∧ ∀ j, j < n → (j : Int) < u → p.2.1 ≤ (g j).toInt ∧ (g j).toInt ≤ p.2.2) : ∀ p ∈ s_ffa E f x fa, ∃ u, s_val rs p.1 = some u ∧ ∀ k, k < n → (k : Int) < u → p.2.1 ≤ (upd g j y k).toInt ∧ (upd g j y k).toInt ≤ p.2.2 := fun p hp => by
  obtain ⟨h1, h2⟩ := s_ffaS hp
  obtain ⟨u, k1, k2⟩ := r5 p h1
  refine ⟨u, k1, fun k hk hku => ?_⟩
  unfold upd
  by_cases e : k = j
  · rw [if_pos e]
    simp only [Bool.or_eq_true] at h2
    rcases h2 with h2 | h2
    · exact s_inIS hE hx h2
    · have := s_gezS hE h2 (s_subS hf k1)
      omega
  · rw [if_neg e]
    exact k2 k hk hku
theorem s_wkRS {ro : sR} {n j : Nat} {g : Nat → Int32} {f x : sF} {y : Int32} {l : List Nat} (hE : q_E rs E) (hR : q_Ro rs n g ro) (hf : s_val rs f = some (j : Int)) (hj : j < n) (hx : s_val rs x = some y.toInt) (hl : j % ro.2.2.1.length ∈ l) : q_Ro rs n (upd g j y) (s_wkR E ro f x l) := by
  obtain ⟨ty, len, fs, ch, fa⟩ := ro
  obtain ⟨r1, r2, r3, r4, r5⟩ := hR
  refine ⟨r1, by show 0 < (s_wk E x l 0 fs).length; rw [s_wkL]; exact r2, fun k hk => ?_, fun p hp => ?_, s_wrF hE hf hx r5⟩
  · obtain ⟨w, h1, h2⟩ := r3 k hk
    have h1 : fs[k % fs.length]? = some w := h1
    show ∃ w, (s_wk E x l 0 fs)[k % (s_wk E x l 0 fs).length]? = some w ∧ _
    rw [s_wkL, s_wkS h1]
    refine ⟨_, rfl, ?_⟩
    rw [Nat.zero_add]
    by_cases e : k = j
    · subst e
      have hm : s_mem (k % fs.length) l = true := s_memS.mpr hl
      rw [hm]
      have : upd g k y k = y := if_pos rfl
      rw [this]
      exact s_wjN hE h2 hx
    · have : upd g j y k = g k := if_neg e
      rw [this]
      cases s_mem (k % fs.length) l with
      | true => exact s_wjO hE h2
      | false => exact h2
  · have hp : p ∈ (f, x) :: (s_drop E f ch).take 7 := hp
    rcases List.mem_cons.mp hp with rfl | hp
    · exact ⟨j, hj, hf, by have : upd g j y j = y := if_pos rfl; rw [this]; exact hx⟩
    · exact s_wrC (x := x) hE hf r4 p (List.mem_of_mem_take hp)
theorem s_wrS {ro ro' : sR} {n j : Nat} {g : Nat → Int32} {f x : sF} {y : Int32} (hE : q_E rs E) (hR : q_Ro rs n g ro) (hf : s_val rs f = some (j : Int)) (hj : j < n) (hx : s_val rs x = some y.toInt) (h : s_wr E ro f x = some ro') : q_Ro rs n (upd g j y) ro' ∧ ro'.1 = ro.1 ∧ ro.2.1.1 = [] ∧ ro'.2.1 = ro.2.1 := by
  obtain ⟨ty, ⟨t, m⟩, fs, ch, fa⟩ := ro
  unfold s_wr at h
  simp only at h
  split at h
  · cases h
  · split at h
    · cases h
    · rename_i i hi
      obtain ⟨b1, b2⟩ := s_bnd2S hE hi hf
      have hm : j % fs.length ∈ s_res fs.length f i := s_resS hR.2.1 hf b1 b2
      split at h
      · rename_i q hq
        rw [hq] at hm
        have eq := List.mem_singleton.mp hm
        cases he : s_ie m (fs.length : Int) with
        | false =>
          rw [he] at h
          cases h
          exact ⟨s_wkRS hE hR hf hj hx (List.mem_singleton.mpr eq), rfl, rfl, rfl⟩
        | true =>
          rw [he] at h
          cases h
          obtain ⟨r1, r2, r3, r4, r5⟩ := hR
          have em := s_ie_iff.mp he
          have en : n = fs.length := by
            have h0 : s_val rs ([], m) = some m := s_numS m
            have r1 : s_val rs ([], m) = some (n : Int) := r1
            have := Option.some.inj (h0.symm.trans r1)
            omega
          have ejq : j = q := by rw [← eq, ← en, Nat.mod_eq_of_lt hj]
          subst ejq
          refine ⟨⟨r1, by show 0 < (fs.set j (.inl x)).length; rw [List.length_set]; exact r2, fun k hk => ?_, s_wrC (x := x) hE hf r4, s_wrF hE hf hx r5⟩, rfl, rfl, rfl⟩
          show ∃ w, (fs.set j (.inl x))[k % (fs.set j (.inl x)).length]? = some w ∧ _
          rw [List.length_set]
          have ek : k % fs.length = k := by rw [← en]; exact Nat.mod_eq_of_lt hk
          rw [ek]
          by_cases e : k = j
          · subst e
            rw [List.getElem?_set_self (by omega)]
            have : upd g k y k = y := if_pos rfl
            rw [this]
            exact ⟨_, rfl, hx⟩
          · rw [List.getElem?_set_ne (Ne.symm e)]
            have : upd g j y k = g k := if_neg e
            rw [this]
            obtain ⟨w, k1, k2⟩ := r3 k hk
            have k1 : fs[k % fs.length]? = some w := k1
            rw [ek] at k1
            exact ⟨w, k1, k2⟩
      · cases h
        exact ⟨s_wkRS hE hR hf hj hx hm, rfl, rfl, rfl⟩
theorem s_ixS {len f : sF} {n v : Int} (hE : q_E rs E) (hl : s_val rs len = some n) (hf : s_val rs f = some v) (h : s_ix E len f = true) : 0 ≤ v ∧ v < n := by
  simp only [s_ix, Bool.and_eq_true] at h
  have h1 := s_ge2S hE h.1 hf
  have h2 := s_ge2S hE h.2 (s_subS hl hf)
  omega
end Rw
end
-- 11.engine.lean.txt
section
/-! The second machine: values are forms, cells by their numbers. -/
/-- a value: an int; a reference; a long, perhaps known; some word -/
noncomputable abbrev sA : Type := sF ⊕ (Option Nat ⊕ (Option Int ⊕ Unit))
/-- a cell: a row of numbers; of longs; of rows; an object -/
noncomputable abbrev sC : Type := sR ⊕ (Nat ⊕ ((Nat × List (Option Nat)) ⊕ (Nat × List sA)))
noncomputable abbrev sH : Type := List (Nat × sC)
noncomputable abbrev sL : Type := List (Nat × sA)
noncomputable abbrev sG : Type := Nat × sL × List sA × sE × sH
/-- an end: 0: answered, 1: thrown, 2: stands still; the last frame -/
noncomputable abbrev sO : Type := Nat × Option sA × sG
noncomputable abbrev sS : Type := List (Nat × Nat × sG) ⊕ ((Nat × List sA × sG) ⊕ (Nat × Option sA))
noncomputable abbrev sZ : Type := Nat × Nat × List sO
noncomputable def s_hget : sH → Nat → Option sC
  | [], _ => none
  | q :: r, k => bif Nat.beq q.1 k then some q.2 else s_hget r k
noncomputable def s_hset (h : sH) (k : Nat) (c : sC) : sH := h.map (fun q => bif Nat.beq q.1 k then (q.1, c) else q)
/-- the cells made so far have the numbers below their number -/
noncomputable def s_ids (h : sH) : Bool := h.all (fun q => Nat.blt q.1 h.length)
noncomputable def s_lget : sL → Nat → Option sA
  | [], _ => none
  | q :: r, i => bif Nat.beq q.1 i then some q.2 else s_lget r i
noncomputable def s_cat (a : sA) : Nat := match a with
  | .inr (.inr (.inl _)) => 2
  | _ => 1
noncomputable def s_lset (lo : sL) (i : Nat) (a : sA) : sL := (i, a) :: lo.filter (fun q => !(Nat.beq q.1 i) && !(Nat.beq (q.1 + 1) i && Nat.beq (s_cat q.2) 2))
noncomputable def s_lset2 (lo : sL) (i : Nat) (a : sA) : sL := (i, a) :: lo.filter (fun q => !(Nat.beq q.1 i) && (!(Nat.beq q.1 (i + 1)) && !(Nat.beq (q.1 + 1) i && Nat.beq (s_cat q.2) 2)))
noncomputable def s_cats (st : List sA) : Nat := (st.map s_cat).sum
noncomputable def s_obj (h : sH) (q : Nat) : Option (Nat × List sA) := match s_hget h q with
  | some (.inr (.inr (.inr o))) => some o
  | _ => none
noncomputable def s_row (h : sH) (q : Nat) : Option sR := match s_hget h q with
  | some (.inl a) => some a
  | _ => none
noncomputable def s_rar (h : sH) (q : Nat) : Option (Nat × List (Option Nat)) := match s_hget h q with
  | some (.inr (.inr (.inl a))) => some a
  | _ => none
noncomputable def s_lrow (h : sH) (q : Nat) : Option Nat := match s_hget h q with
  | some (.inr (.inl n)) => some n
  | _ => none
noncomputable def s_go (nx : Nat) (lo : sL) (st : List sA) (E : sE) (h : sH) : Option sS := some (.inl [(0, 0, nx, lo, st, E, h)])
noncomputable def s_gox (nx : Nat) (lo : sL) (st : List sA) (X : sX) (h : sH) : Option sS := some (.inl [(0, 0, nx, lo, .inl X.2 :: st, X.1, h)])
noncomputable def s_not (l : Option (List (Bool × sE))) : Option (List (Bool × sE)) := match l with
  | none => none
  | some l => some (l.map (fun q => (!q.1, q.2)))
noncomputable def s_cmp (c : ClassFile.Cond) (E : sE) (a b : sF) : Option (List (Bool × sE)) := match c with
  | .eq => s_eq E a b
  | .ne => s_not (s_eq E a b)
  | .lt => s_lt E a b
  | .ge => s_not (s_lt E a b)
  | .gt => s_lt E b a
  | .le => s_not (s_lt E b a)
noncomputable def s_br (t nx : Nat) (lo : sL) (st : List sA) (h : sH) (l : Option (List (Bool × sE))) : Option sS := match l with
  | none => none
  | some l => some (.inl (l.map (fun q => (0, 0, (bif q.1 then t else nx), lo, st, q.2, h))))
noncomputable def s_eqA (E : sE) (x : sF) (z : Int) : sE := s_ge (s_ge E (s_sub x (s_num z))) (s_sub (s_num z) x)
noncomputable def s_nrw (ty : FieldType) (E : sE) (x : sF) : sX := match ty with
  | .byte => s_conv (-128) 127 E x
  | .boolean => s_conv 0 1 E x
  | .char => s_conv 0 65535 E x
  | _ => (E, x)
noncomputable def p_is (ty : FieldType) (k : Nat) : Bool := match k, ty with
  | 0, .int => true
  | 1, .byte => true
  | 1, .boolean => true
  | 2, .char => true
  | _, _ => false
noncomputable def s_zero : FieldType → sA
  | .array _ => .inr (.inl none)
  | .object _ => .inr (.inl none)
  | .long => .inr (.inr (.inl none))
  | _ => .inl (s_num 0)
/-- may a field of this type hold it as it is -/
noncomputable def s_ffit (E : sE) (ty : FieldType) (a : sA) : Bool := match ty, a with
  | .int, .inl _ => true
  | .boolean, .inl f => s_inI E f (0, 1)
  | .array _, .inr (.inl _) => true
  | .object _, .inr (.inl _) => true
  | _, _ => false
noncomputable def p_nF (ci : Nat) : Nat := match vwCl[ci]? with
  | none => 0
  | some q => q.2.2
noncomputable def s_newO (ci : Nat) : List sA := (List.range (p_nF ci)).map (fun k => s_zero (tyOf ci k))
noncomputable def s_rowN (ty : FieldType) (n : Nat) : sR := (ty, s_num n, List.replicate (bif Nat.ble n 12 && Nat.blt 0 n then n else 1) (.inl (s_num 0)), [], [])
noncomputable def s_mna (h : sH) (n k : Nat) : sH := h ++ ((h.length, .inr (.inr (.inl (n, (List.range n).map (fun i => some (h.length + 1 + i)))))) :: (List.range n).map (fun i => (h.length + 1 + i, .inl (.int, s_num k, [.inl (s_num 0)], [], []))))
noncomputable def s_take : Nat → List sA → List sA → Option (List sA × List sA)
  | 0, acc, st => some (acc, st)
  | n + 1, acc, a :: st => s_take n (a :: acc) st
  | _ + 1, _, [] => none
noncomputable def s_inv (a1 a2 nx : Nat) (recv : Bool) (lo : sL) (st : List sA) (E : sE) (h : sH) : Option sS := match s_take (bif recv then a2 + 1 else a2) [] st with
  | some (as, r) => bif Nat.ble (s_cats r) 8 && Nat.blt a1 nMth then some (.inr (.inl (a1, as, (nx, lo, r, E, h)))) else none
  | none => none
/-- is the receiver an object of the class of the method -/
noncomputable def s_rcv (a1 : Nat) (as : List sA) (h : sH) : Bool := match as with
  | .inr (.inl (some q)) :: _ => match s_obj h q with
    | some (ci, _) => Nat.beq ci (mcl a1)
    | none => false
  | _ => false
noncomputable def s_gets (lo : sL) (k c nx : Nat) (st : List sA) (E : sE) (h : sH) : Option sS := match s_lget lo k with
  | some (.inl v) => bif Nat.beq c 0 then s_go nx lo (.inl v :: st) E h else none
  | some (.inr (.inl r)) => bif Nat.beq c 1 then s_go nx lo (.inr (.inl r) :: st) E h else none
  | some (.inr (.inr (.inl r))) => bif Nat.beq c 2 then s_go nx lo (.inr (.inr (.inl r)) :: st) E h else none
  | _ => none
noncomputable def s_puts (lo : sL) (k c nx mL : Nat) (st : List sA) (E : sE) (h : sH) : Option sS := match st with
  | .inl v :: r => bif Nat.beq c 0 && Nat.blt k mL then s_go nx (s_lset lo k (.inl v)) r E h else none
  | .inr (.inl v) :: r => bif Nat.beq c 1 && Nat.blt k mL then s_go nx (s_lset lo k (.inr (.inl v))) r E h else none
  | .inr (.inr (.inl v)) :: r => bif Nat.beq c 2 && Nat.blt (k + 1) mL then s_go nx (s_lset2 lo k (.inr (.inr (.inl v)))) r E h else none
  | _ => none
noncomputable def s_op2 (f : sE → sF → sF → sX) (nx : Nat) (lo : sL) (st : List sA) (E : sE) (h : sH) : Option sS := match st with
  | .inl y :: .inl x :: r => s_gox nx lo r (f E x y) h
  | _ => none
noncomputable def s_op2o (f : sE → sF → sF → Option sX) (nx : Nat) (lo : sL) (st : List sA) (E : sE) (h : sH) : Option sS := match st with
  | .inl y :: .inl x :: r => match f E x y with
    | some X => s_gox nx lo r X h
    | none => none
  | _ => none
noncomputable def s_op1 (f : sE → sF → sX) (nx : Nat) (lo : sL) (st : List sA) (E : sE) (h : sH) : Option sS := match st with
  | .inl x :: r => s_gox nx lo r (f E x) h
  | _ => none
noncomputable def s_lop2 (nx : Nat) (lo : sL) (st : List sA) (E : sE) (h : sH) : Option sS := match st with
  | .inr (.inr (.inl _)) :: .inr (.inr (.inl _)) :: r => s_go nx lo (.inr (.inr (.inl none)) :: r) E h
  | _ => none
/-- division of longs: by a number that isn't 0 -/
noncomputable def s_ldv (nx : Nat) (lo : sL) (st : List sA) (E : sE) (h : sH) : Option sS := match st with
  | .inr (.inr (.inl (some z))) :: .inr (.inr (.inl _)) :: r => bif decide (Int64.ofInt z = 0) then none else s_go nx lo (.inr (.inr (.inl none)) :: r) E h
  | _ => none
/-- the mask of a byte: as it is, or 256 more -/
noncomputable def s_mask (E : sE) (x y : sF) : Bool := (match s_lit E y with
  | some z => s_ie z 255
  | none => false) && s_inI E x (-256, 255)
noncomputable def s_andI (nx : Nat) (lo : sL) (st : List sA) (E : sE) (h : sH) : Option sS := match st with
  | .inl y :: .inl x :: r => bif s_mask E x y then (match s_lt E x (s_num 0) with
      | none => none
      | some l => some (.inl (l.map (fun q => (0, 0, nx, lo, .inl (bif q.1 then s_add x (s_num 256) else x) :: r, q.2, h))))) else s_gox nx lo r (s_sand2 E x y) h
  | _ => none
noncomputable def s_tab (E : sE) (v : sF) (pc : Nat) (lo : sL) (st : List sA) (h : sH) (l u : Int) : Int → List Int → List (Nat × Nat × sG)
  | _, [] => []
  | z, o :: os => bif s_le l z && s_le z u then (0, 0, ((pc : Int) + o).toNat, lo, st, s_eqA E v z, h) :: s_tab E v pc lo st h l u (z + 1) os else s_tab E v pc lo st h l u (z + 1) os
noncomputable def s_tabO (E : sE) (v : sF) (pc : Nat) (lo : sL) (st : List sA) (h : sH) (d low high l u : Int) : List (Nat × Nat × sG) :=
  (bif s_le l (low - 1) then [(0, 0, ((pc : Int) + d).toNat, lo, st, s_ge E (s_sub (s_num (low - 1)) v), h)] else []) ++ (bif s_le (high + 1) u then [(0, 0, ((pc : Int) + d).toNat, lo, st, s_ge E (s_sub v (s_num (high + 1))), h)] else [])
/-- it isn't z -/
noncomputable def s_fls : List (Bool × sE) → List sE
  | [] => []
  | q :: r => bif q.1 then s_fls r else q.2 :: s_fls r
noncomputable def s_nes (E : sE) (v : sF) (z : Int) : List sE := match s_eq E v (s_num z) with
  | none => [E]
  | some l => s_fls l
noncomputable def s_look (E : sE) (v : sF) (pc : Nat) (lo : sL) (st : List sA) (h : sH) (l u d : Int) : List (Int × Int) → List sE → List (Nat × Nat × sG)
  | [], D => D.map (fun e => (0, 0, ((pc : Int) + d).toNat, lo, st, e, h))
  | q :: r, D => bif s_le l q.1 && s_le q.1 u then (0, 0, ((pc : Int) + q.2).toNat, lo, st, s_eqA E v q.1, h) :: s_look E v pc lo st h l u d r (D.flatMap (fun e => s_nes e v q.1)) else s_look E v pc lo st h l u d r D
noncomputable def s_rld (nx : Nat) (lo : sL) (st : List sA) (E : sE) (h : sH) (q : Nat) (v : sF) (kind : Nat) : Option sS := match s_row h q with
  | some ro => bif p_is ro.1 kind && s_ix E ro.2.1 v then (match s_rd E ro v with
    | some (E1, x, ro1) => s_go nx lo (.inl x :: st) E1 (s_hset h q (.inl ro1))
    | none => none) else none
  | none => none
noncomputable def s_rst (nx : Nat) (lo : sL) (st : List sA) (E : sE) (h : sH) (q : Nat) (v x : sF) (kind : Nat) : Option sS := match s_row h q with
  | some ro => bif p_is ro.1 kind && s_ix E ro.2.1 v then (match s_nrw ro.1 E x with
    | (E1, x1) => match s_wr E1 ro v x1 with
      | some ro1 => s_go nx lo st E1 (s_hset h q (.inl ro1))
      | none => none) else none
  | none => none
/-- the rows that an index may mean -/
noncomputable def s_may (E : sE) (v : sF) (z : Int) : Bool := match s_bnd E v with
  | some i => s_le i.1 z && s_le z i.2
  | none => true
noncomputable def s_span (E : sE) (v : sF) (nx : Nat) (lo : sL) (st : List sA) (h : sH) : Int → List (Option Nat) → List (Nat × Nat × sG)
  | _, [] => []
  | z, c :: r => bif s_may E v z then (0, 0, nx, lo, .inr (.inl c) :: st, s_eqA E v z, h) :: s_span E v nx lo st h (z + 1) r else s_span E v nx lo st h (z + 1) r
noncomputable def s_cpL (f0 : List sW) (sp dp : Nat) : Nat → List sW → List sW
  | 0, f1 => f1
  | n + 1, f1 => s_cpL f0 (sp + 1) (dp + 1) n (match f0[sp % f0.length]? with
    | none => f1
    | some w => f1.set dp w)
noncomputable def s_cpW (E : sE) (x : pI × Option sF) : List sW → Option (List sW)
  | [] => some []
  | w :: r => match s_wI E w with
    | none => none
    | some a => match s_cpW E x r with
      | none => none
      | some l => some (.inr (s_jn a x) :: l)
noncomputable def s_cpF (E : sE) (f0 f1 : List sW) (n1 : Int) (sp dp n : sF) : Option (List sW) := match s_lit E sp, s_lit E dp, s_lit E n with
  | some a, some b, some c => bif s_ie n1 (f1.length : Int) then some (s_cpL f0 a.toNat b.toNat c.toNat f1) else (match s_jns E f0 (bif s_ie c 0 then List.range f0.length else (List.range c.toNat).map (fun t => (a.toNat + t) % f0.length)) with
    | none => none
    | some x => s_cpW E x f1)
  | _, _, _ => match s_jns E f0 (List.range f0.length) with
    | none => none
    | some x => s_cpW E x f1
noncomputable def s_cpR (E : sE) (r0 r1 : sR) (sp dp n : sF) : Option sR := match r1 with
  | (ty1, (t1, n1), f1, _, _) => match t1 with
    | _ :: _ => none
    | [] => bif p_is r0.1 0 && p_is ty1 0 && s_ge2 E sp 0 && s_ge2 E dp 0 && s_ge2 E n 0 && s_ge2 E (s_sub r0.2.1 (s_add sp n)) 0 && s_ge2 E (s_sub (s_num n1) (s_add dp n)) 0 && s_nil r0.2.1.1 then (match s_cpF E r0.2.2.1 f1 n1 sp dp n with
      | none => none
      | some f2 => some (ty1, ([], n1), f2, [], [])) else none
noncomputable def s_copy (nx : Nat) (lo : sL) (st : List sA) (E : sE) (h : sH) : Option sS := match st with
  | .inl n :: .inl dp :: .inr (.inl (some q1)) :: .inl sp :: .inr (.inl (some q0)) :: r => bif Nat.beq q0 q1 || !(Nat.ble (s_cats r) 8) then none else (match s_row h q0 with
    | some r0 => match s_row h q1 with
      | some r1 => match s_cpR E r0 r1 sp dp n with
        | some r2 => s_go nx lo r E (s_hset h q1 (.inl r2))
        | none => none
      | none => none
    | none => none)
  | _ => none
/-- a length -/
noncomputable def s_len (h : sH) (q : Nat) : Option sF := match s_hget h q with
  | some (.inl a) => some a.2.1
  | some (.inr (.inl n)) => some (s_num n)
  | some (.inr (.inr (.inl a))) => some (s_num a.1)
  | _ => none
noncomputable def s_ret (k : Nat) (E : sE) (v : sF) : Option sS := match (mth k).2.2.2.2.1 with
  | some .int => some (.inr (.inr (0, some (.inl v))))
  | some .boolean => bif s_inI E v (0, 1) then some (.inr (.inr (0, some (.inl v)))) else none
  | _ => none
noncomputable def s_step (k pc : Nat) (lo : sL) (st : List sA) (E : sE) (h : sH) : Option sS := match ins k pc with
  | none => none
  | some (i, nx, a1, a2, _, z) => match i with
    | .iconst c => bif s_in32 (c, c) then s_go nx lo (.inl (s_num c) :: st) E h else none
    | .bipush c => s_go nx lo (.inl (s_num (Int8.ofInt c).toInt32.toInt) :: st) E h
    | .sipush c => s_go nx lo (.inl (s_num (Int16.ofInt c).toInt32.toInt) :: st) E h
    | .ldc _ => bif Nat.beq a1 0 && s_in32 (z, z) then s_go nx lo (.inl (s_num z) :: st) E h else none
    | .ldc_w _ => bif Nat.beq a1 0 && s_in32 (z, z) then s_go nx lo (.inl (s_num z) :: st) E h else none
    | .ldc2_w _ => bif Nat.beq a1 0 && Nat.beq nx (pc + 3) then s_go nx lo (.inr (.inr (.inl (some z))) :: st) E h else none
    | .lconst _ => s_go nx lo (.inr (.inr (.inl none)) :: st) E h
    | .iload_n n => s_gets lo n.val 0 nx st E h
    | .iload n => s_gets lo n 0 nx st E h
    | .aload_n n => s_gets lo n.val 1 nx st E h
    | .aload n => s_gets lo n 1 nx st E h
    | .lload_n n => s_gets lo n.val 2 nx st E h
    | .lload n => bif Nat.beq nx (pc + 2) then s_gets lo n 2 nx st E h else none
    | .istore_n n => s_puts lo n.val 0 nx (mth k).2.2.2.1 st E h
    | .istore n => s_puts lo n 0 nx (mth k).2.2.2.1 st E h
    | .astore_n n => s_puts lo n.val 1 nx (mth k).2.2.2.1 st E h
    | .astore n => s_puts lo n 1 nx (mth k).2.2.2.1 st E h
    | .lstore_n n => s_puts lo n.val 2 nx (mth k).2.2.2.1 st E h
    | .lstore n => bif Nat.beq nx (pc + 2) then s_puts lo n 2 nx (mth k).2.2.2.1 st E h else none
    | .iinc n c => match s_lget lo n with
      | some (.inl v) => bif Nat.blt n (mth k).2.2.2.1 && Nat.beq nx (pc + 3) && s_in32 (c, c) then (match s_sadd E v (s_num c) with
        | (E1, w) => s_go nx (s_lset lo n (.inl w)) st E1 h) else none
      | _ => none
    | .iadd => s_op2 s_sadd nx lo st E h
    | .isub => s_op2 s_ssub nx lo st E h
    | .imul => s_op2 s_smul nx lo st E h
    | .iand => s_andI nx lo st E h
    | .ior => s_op2 s_sor nx lo st E h
    | .ixor => s_op2 s_sxor nx lo st E h
    | .ishl => s_op2 s_sshl nx lo st E h
    | .ishr => s_op2 s_sshr2 nx lo st E h
    | .iushr => s_op2 s_ushr nx lo st E h
    | .idiv => s_op2o s_sdiv nx lo st E h
    | .irem => s_op2o s_srem nx lo st E h
    | .ineg => s_op1 s_sneg nx lo st E h
    | .i2b => s_op1 (s_conv (-128) 127) nx lo st E h
    | .i2s => s_op1 (s_conv (-32768) 32767) nx lo st E h
    | .i2c => s_op1 (s_conv 0 65535) nx lo st E h
    | .i2l => match st with
      | .inl _ :: r => s_go nx lo (.inr (.inr (.inl none)) :: r) E h
      | _ => none
    | .l2i => match st with
      | .inr (.inr (.inl _)) :: r => s_gox nx lo r (s_new E s_any) h
      | _ => none
    | .ladd => s_lop2 nx lo st E h
    | .lmul => s_lop2 nx lo st E h
    | .ldiv => s_ldv nx lo st E h
    | .lrem => s_ldv nx lo st E h
    | .lcmp => match st with
      | .inr (.inr (.inl _)) :: .inr (.inr (.inl _)) :: r => s_gox nx lo r (s_new E (-1, 1)) h
      | _ => none
    | .ifCond c _ => match st with
      | .inl x :: r => s_br a1 nx lo r h (s_cmp c E x (s_num 0))
      | _ => none
    | .if_icmp c _ => match st with
      | .inl y :: .inl x :: r => s_br a1 nx lo r h (s_cmp c E x y)
      | _ => none
    | .goto _ => s_go a1 lo st E h
    | .tableswitch d low high os => match st with
      | .inl x :: r => match s_bnd E x with
        | some (l, u) => bif decide (high - low + 1 = (os.size : Int)) then some (.inl (s_tab E x pc lo r h l u low os.toList ++ s_tabO E x pc lo r h d low high l u)) else none
        | none => none
      | _ => none
    | .lookupswitch d ps => match st with
      | .inl x :: r => match s_bnd E x with
        | some (l, u) => bif (ps.toList.zip (ps.toList.drop 1)).all (fun q => decide (q.1.1 < q.2.1)) && ps.toList.all (fun q => s_le 0 ((pc : Int) + q.2)) && s_le 0 ((pc : Int) + d) then some (.inl (s_look E x pc lo r h l u d ps.toList [E])) else none
        | none => none
      | _ => none
    | .dup => match st with
      | a :: r => bif Nat.beq (s_cat a) 1 then s_go nx lo (a :: a :: r) E h else none
      | _ => none
    | .pop => match st with
      | a :: r => bif Nat.beq (s_cat a) 1 then s_go nx lo r E h else none
      | _ => none
    | .dup_x1 => match st with
      | a :: b :: r => bif Nat.beq (s_cat a) 1 && Nat.beq (s_cat b) 1 then s_go nx lo (a :: b :: a :: r) E h else none
      | _ => none
    | .dup2 => match st with
      | a :: b :: r => bif Nat.beq (s_cat a) 1 && Nat.beq (s_cat b) 1 then s_go nx lo (a :: b :: a :: b :: r) E h else none
      | _ => none
    | .getfield _ => match st with
      | .inr (.inl (some q)) :: r => match s_obj h q with
        | some (ci, fs) => bif Nat.beq ci a1 then (match fs[a2]? with
          | some v => s_go nx lo (v :: r) E h
          | none => none) else none
        | none => none
      | _ => none
    | .putfield _ => match st with
      | v :: .inr (.inl (some q)) :: r => match s_obj h q with
        | some (ci, fs) => bif Nat.beq ci a1 && Nat.blt a2 fs.length && s_ffit E (tyOf a1 a2) v then s_go nx lo r E (s_hset h q (.inr (.inr (.inr (ci, fs.set a2 v))))) else none
        | none => none
      | _ => none
    | .new _ => bif Nat.beq a1 99 then some (.inr (.inr (1, none))) else bif E.1 && s_ids h then some (.inl [(1, p_nF a1, nx, lo, .inr (.inl (some h.length)) :: st, E, h ++ [(h.length, .inr (.inr (.inr (a1, s_newO a1))))])]) else none
    | .newarray t => match st with
      | .inl ([], z) :: r => bif E.1 && s_ids h && decide (0 ≤ z) && decide (z ≤ 65536) then
          some (.inl [(1, z.toNat, nx, lo, .inr (.inl (some h.length)) :: r, E, h ++ [(h.length, match t with
            | .long => .inr (.inl z.toNat)
            | t => .inl (s_rowN (newarray.typeOf t) z.toNat))])]) else none
      | _ => none
    | .multianewarray _ _ => match st with
      | .inl ([], k1) :: .inl ([], n1) :: r => bif E.1 && s_ids h && decide (0 ≤ k1) && decide (k1 ≤ 65536) && decide (0 ≤ n1) && decide (n1 ≤ 65536) then
          some (.inl [(1 + n1.toNat, n1.toNat + n1.toNat * k1.toNat, nx, lo, .inr (.inl (some h.length)) :: r, E, s_mna h n1.toNat k1.toNat)]) else none
      | _ => none
    | .iaload => match st with
      | .inl v :: .inr (.inl (some q)) :: r => s_rld nx lo r E h q v 0
      | _ => none
    | .baload => match st with
      | .inl v :: .inr (.inl (some q)) :: r => s_rld nx lo r E h q v 1
      | _ => none
    | .caload => match st with
      | .inl v :: .inr (.inl (some q)) :: r => s_rld nx lo r E h q v 2
      | _ => none
    | .iastore => match st with
      | .inl x :: .inl v :: .inr (.inl (some q)) :: r => s_rst nx lo r E h q v x 0
      | _ => none
    | .bastore => match st with
      | .inl x :: .inl v :: .inr (.inl (some q)) :: r => s_rst nx lo r E h q v x 1
      | _ => none
    | .castore => match st with
      | .inl x :: .inl v :: .inr (.inl (some q)) :: r => s_rst nx lo r E h q v x 2
      | _ => none
    | .laload => match st with
      | .inl v :: .inr (.inl (some q)) :: r => match s_lrow h q with
        | some n => bif s_ix E (s_num n) v then s_go nx lo (.inr (.inr (.inl none)) :: r) E h else none
        | none => none
      | _ => none
    | .lastore => match st with
      | .inr (.inr (.inl _)) :: .inl v :: .inr (.inl (some q)) :: r => match s_lrow h q with
        | some n => bif s_ix E (s_num n) v then s_go nx lo r E (s_hset h q (.inr (.inl n))) else none
        | none => none
      | _ => none
    | .aaload => match st with
      | .inl v :: .inr (.inl (some q)) :: r => match s_rar h q with
        | some (n, cs) => bif s_ix E (s_num n) v && Nat.beq cs.length n then some (.inl (s_span E v nx lo r h 0 cs)) else none
        | none => none
      | _ => none
    | .arraylength => match st with
      | .inr (.inl (some q)) :: r => match s_len h q with
        | some n => bif s_inI E n (0, 2147483647) then s_go nx lo (.inl n :: r) E h else none
        | none => none
      | _ => none
    | .invokestatic _ => bif Nat.beq a1 901 then s_copy nx lo st E h else s_inv a1 a2 nx false lo st E h
    | .invokevirtual _ => match s_inv a1 a2 nx true lo st E h with
      | some (.inr (.inl (c, as, f))) => bif s_rcv c as h then some (.inr (.inl (c, as, f))) else none
      | _ => none
    | .invokespecial _ => bif Nat.beq a1 900 then (match st with
        | .inr (.inl (some _)) :: r => bif Nat.ble (s_cats r) 8 then s_go nx lo r E h else none
        | _ => none) else (match s_inv a1 a2 nx true lo st E h with
      | some (.inr (.inl (c, .inr (.inl (some q)) :: as, f))) => some (.inr (.inl (c, .inr (.inl (some q)) :: as, f)))
      | _ => none)
    | .ireturn => match st with
      | [.inl v] => s_ret k E v
      | _ => none
    | .lreturn => match st with
      | [.inr (.inr (.inl _))] => match (mth k).2.2.2.2.1 with
        | some .long => some (.inr (.inr (0, some (.inr (.inr (.inl none))))))
        | _ => none
      | _ => none
    | .return_ => match st with
      | [] => match (mth k).2.2.2.2.1 with
        | none => some (.inr (.inr (0, none)))
        | _ => none
      | _ => none
    | _ => none
end
-- 12.rel.lean.txt
section
/-! What the second machine's words mean of the true one. -/
noncomputable def q_rf (ad : Nat → Nat) : Option Nat → Value
  | none => .null
  | some k => .ref (ad k)
noncomputable def q_A (rs : List Int) (ad : Nat → Nat) : sA → Value → Prop
  | .inl f, x => ∃ y : Int32, x = .int y ∧ s_val rs f = some y.toInt
  | .inr (.inl o), x => x = q_rf ad o
  | .inr (.inr (.inl z)), x => ∃ y : Int64, x = .long y ∧ ∀ k, z = some k → y = Int64.ofInt k
  | .inr (.inr (.inr _)), x => x.category = 1
noncomputable def q_L (rs : List Int) (ad : Nat → Nat) : List sA → List Value → Prop
  | [], vs => vs = []
  | a :: as, vs => ∃ v vs', vs = v :: vs' ∧ q_A rs ad a v ∧ q_L rs ad as vs'
section Vals
variable {rs : List Int} {ad : Nat → Nat} {E : sE}
theorem q_A.mono (e : List Int) {a : sA} {v : Value} (h : q_A rs ad a v) : q_A (rs ++ e) ad a v := by
  rcases a with f | o | z | u
  · obtain ⟨y, h1, h2⟩ := h
    exact ⟨y, h1, s_val_mono e h2⟩
  · exact h
  · exact h
  · exact h
theorem q_L.mono (e : List Int) : ∀ {as : List sA} {vs : List Value}, q_L rs ad as vs → q_L (rs ++ e) ad as vs
  | [], _, h => h
  | a :: as, _, ⟨v, vs', h1, h2, h3⟩ => ⟨v, vs', h1, h2.mono e, h3.mono e⟩
theorem q_cat {a : sA} {v : Value} (h : q_A rs ad a v) : v.category = s_cat a := by
  rcases a with z | o | z | u
  · obtain ⟨y, rfl, -⟩ := h
    rfl
  · have e : v = q_rf ad o := h
    subst e
    rcases o with _ | o <;> rfl
  · obtain ⟨y, rfl, -⟩ := h
    rfl
  · exact h
theorem q_L.len : ∀ {as : List sA} {vs : List Value}, q_L rs ad as vs → vs.length = as.length
  | [], vs, h => by rw [show vs = [] from h]; rfl
  | a :: as, vs, h => by
    obtain ⟨v, vs', rfl, -, h2⟩ := h
    simp [h2.len]
theorem q_L.get : ∀ {as : List sA} {vs : List Value} {k : Nat} {a : sA}, q_L rs ad as vs → as[k]? = some a → ∃ v, vs[k]? = some v ∧ q_A rs ad a v
  | [], _, k, a, _, h => by simp at h
  | a0 :: as, vs, 0, a, h, hk => by
    obtain ⟨v, vs', rfl, h1, -⟩ := h
    simp at hk
    subst hk
    exact ⟨v, rfl, h1⟩
  | a0 :: as, vs, k + 1, a, h, hk => by
    obtain ⟨v, vs', rfl, -, h2⟩ := h
    simp at hk
    obtain ⟨w, g1, g2⟩ := h2.get hk
    exact ⟨w, by simpa using g1, g2⟩
theorem q_L.set : ∀ {as : List sA} {vs : List Value} {k : Nat} {a : sA} {v : Value}, q_L rs ad as vs → q_A rs ad a v → q_L rs ad (as.set k a) (vs.set k v)
  | [], vs, k, a, v, h, _ => by
    rw [show vs = [] from h]
    exact rfl
  | a0 :: as, vs, 0, a, v, h, hv => by
    obtain ⟨w, vs', rfl, h1, h2⟩ := h
    exact ⟨v, vs', rfl, hv, h2⟩
  | a0 :: as, vs, k + 1, a, v, h, hv => by
    obtain ⟨w, vs', rfl, h1, h2⟩ := h
    exact ⟨w, vs'.set k v, rfl, h1, h2.set hv⟩
theorem q_L.cats : ∀ {as : List sA} {vs : List Value}, q_L rs ad as vs → (vs.map fun v => v.category).sum = s_cats as
  | [], vs, h => by rw [show vs = [] from h]; rfl
  | a :: as, vs, h => by
    obtain ⟨v, vs', rfl, h1, h2⟩ := h
    have e := h2.cats
    simp only [s_cats, List.map_cons, List.sum_cons] at e ⊢
    rw [e, q_cat h1]
end Vals
/-! Locals, cells, the heap. -/
noncomputable def q_Lo (rs : List Int) (ad : Nat → Nat) (lo : sL) (ls : Array Slot) (n : Nat) : Prop := ls.size = n ∧ lv_wf ls ∧ ∀ q ∈ lo, ∃ v, ls[q.1]? = some (.val v) ∧ q_A rs ad q.2 v
noncomputable def q_rv (ls : Array Slot) (i : Nat) : Value := match ls[i]? with
  | some (.val v) => v
  | _ => .null
/-- the true locals of those that the machine knows -/
noncomputable def q_lv (ls : Array Slot) (lo : sL) : List (Nat × Value) := lo.map (fun q => (q.1, q_rv ls q.1))
section Locals
variable {rs : List Int} {ad : Nat → Nat} {lo : sL} {ls : Array Slot} {n : Nat}
theorem q_Lo.mono (e : List Int) (h : q_Lo rs ad lo ls n) : q_Lo (rs ++ e) ad lo ls n := ⟨h.1, h.2.1, fun q hq => by obtain ⟨v, h1, h2⟩ := h.2.2 q hq; exact ⟨v, h1, h2.mono e⟩⟩
theorem q_Lo.has (h : q_Lo rs ad lo ls n) : lv_has ls n (q_lv ls lo) := by
  refine ⟨h.1, h.2.1, fun q hq => ?_⟩
  obtain ⟨q0, h0, rfl⟩ := List.mem_map.mp hq
  obtain ⟨v, h1, -⟩ := h.2.2 q0 h0
  show ls[q0.1]? = some (.val (q_rv ls q0.1))
  simp [q_rv, h1]
theorem q_lget : ∀ {lo : sL} {i : Nat} {a : sA}, s_lget lo i = some a → (i, a) ∈ lo
  | [], i, a, h => by cases h
  | q :: rr, i, a, h => by
    simp only [s_lget, cond_eq_ite] at h
    split at h
    · rename_i e
      cases h
      rw [← Nat.eq_of_beq_eq_true e]
      exact List.mem_cons_self
    · exact List.mem_cons_of_mem _ (q_lget h)
theorem q_Lo.get {i : Nat} {a : sA} (h : q_Lo rs ad lo ls n) (hi : s_lget lo i = some a) : ∃ v, ls[i]? = some (.val v) ∧ q_A rs ad a v := h.2.2 _ (q_lget hi)
theorem q_beqE (x y : Nat) : (x == y) = Nat.beq x y := by
  cases hb : Nat.beq x y with
  | true => simp [Nat.eq_of_beq_eq_true hb]
  | false => simp [Nat.ne_of_beq_eq_false hb]
/-- behind a store of one word -/
theorem q_Lo.put {i : Nat} {a : sA} {v : Value} {ls' : Array Slot} (h : q_Lo rs ad lo ls n) (hv : q_A rs ad a v)
    (h' : lv_has ls' n ((i, v) :: (q_lv ls lo).filter (fun q => !(q.1 == i) && !(q.1 + 1 == i && q.2.category == 2)))) : q_Lo rs ad (s_lset lo i a) ls' n := by
  refine ⟨h'.1, h'.2.1, fun q hq => ?_⟩
  rcases List.mem_cons.mp hq with e | hq
  · subst e
    exact ⟨v, h'.2.2 (i, v) List.mem_cons_self, hv⟩
  · obtain ⟨hq1, hq2⟩ := List.mem_filter.mp hq
    obtain ⟨w, h1, h2⟩ := h.2.2 q hq1
    have hw : q_rv ls q.1 = w := by simp [q_rv, h1]
    refine ⟨w, ?_, h2⟩
    have := h'.2.2 (q.1, w) (List.mem_cons_of_mem _ (List.mem_filter.mpr ⟨List.mem_map.mpr ⟨q, hq1, by rw [hw]⟩, ?_⟩))
    · exact this
    · have hc := q_cat h2
      show (!(q.1 == i) && !(q.1 + 1 == i && w.category == 2)) = true
      rw [hc, q_beqE, q_beqE, q_beqE]
      exact hq2
/-- behind a store of two -/
theorem q_Lo.put2 {i : Nat} {a : sA} {v : Value} {ls' : Array Slot} (h : q_Lo rs ad lo ls n) (hv : q_A rs ad a v)
    (h' : lv_has ls' n ((i, v) :: (q_lv ls lo).filter (fun q => !(q.1 == i) && (!(q.1 == i + 1) && !(q.1 + 1 == i && q.2.category == 2))))) : q_Lo rs ad (s_lset2 lo i a) ls' n := by
  refine ⟨h'.1, h'.2.1, fun q hq => ?_⟩
  rcases List.mem_cons.mp hq with e | hq
  · subst e
    exact ⟨v, h'.2.2 (i, v) List.mem_cons_self, hv⟩
  · obtain ⟨hq1, hq2⟩ := List.mem_filter.mp hq
    obtain ⟨w, h1, h2⟩ := h.2.2 q hq1
    have hw : q_rv ls q.1 = w := by simp [q_rv, h1]
    refine ⟨w, ?_, h2⟩
    have := h'.2.2 (q.1, w) (List.mem_cons_of_mem _ (List.mem_filter.mpr ⟨List.mem_map.mpr ⟨q, hq1, by rw [hw]⟩, ?_⟩))
    · exact this
    · have hc := q_cat h2
      show (!(q.1 == i) && (!(q.1 == i + 1) && !(q.1 + 1 == i && w.category == 2))) = true
      rw [hc, q_beqE, q_beqE, q_beqE, q_beqE]
      exact hq2
end Locals
/-- a row whose length is a name's is open: it is read, never written -/
noncomputable def s_cls (c : sC) : Bool := match c with
  | .inl ro => s_nil ro.2.1.1
  | _ => true
/-- where a row of numbers lies: a row of ours; or the script, which is open -/
noncomputable def q_RC (dA : FieldType → ClassId) (b0 a : Nat) (H : Heap) (ro : sR) (n : Nat) (g : Nat → Int32) : Prop := H[a]? = some (vp_cell (dA ro.1) (n, .inl g)) ∨ ((ro.1 = .int ∧ s_nil ro.2.1.1 = false ∧ a = dA .short ∧ a < b0) ∧ ∃ scr : Cell, H[a]? = some scr ∧ scr.vm ≠ .unknown ∧ scr.slots.size = n ∧ ∀ j : Nat, j < n → scr.slots[j]? = some (.int (g j)))
theorem q_RC.cl {dA : FieldType → ClassId} {b0 a : Nat} {H : Heap} {ro : sR} {n : Nat} {g : Nat → Int32} (h : q_RC dA b0 a H ro n g) (hc : s_nil ro.2.1.1 = true ∨ b0 ≤ a) : H[a]? = some (vp_cell (dA ro.1) (n, .inl g)) := by
  rcases h with h | ⟨⟨-, h1, -, h2⟩, -⟩
  · exact h
  · rcases hc with hc | hc
    · rw [h1] at hc; cases hc
    · omega
theorem q_RC.as {dA : FieldType → ClassId} {b0 a : Nat} {H H1 : Heap} {ro r2 : sR} {n : Nat} {g : Nat → Int32} (h : q_RC dA b0 a H ro n g) (e : H1[a]? = H[a]?) (e1 : r2.1 = ro.1) (e2 : s_nil r2.2.1.1 = s_nil ro.2.1.1) : q_RC dA b0 a H1 r2 n g := by
  rcases h with h | ⟨⟨h0, h1, h2⟩, h3⟩
  · exact Or.inl (by rw [e, e1]; exact h)
  · exact Or.inr ⟨⟨e1.trans h0, e2.trans h1, h2⟩, by rw [e]; exact h3⟩
theorem q_RC.lt {dA : FieldType → ClassId} {b0 a : Nat} {H : Heap} {ro : sR} {n : Nat} {g : Nat → Int32} (h : q_RC dA b0 a H ro n g) : a < H.size := by
  rcases h with h | ⟨-, scr, h, -⟩
  · exact (Array.getElem?_eq_some_iff.mp h).1
  · exact (Array.getElem?_eq_some_iff.mp h).1
/-- what the cell at a place is -/
noncomputable def q_C (dC : Nat → ClassId) (dI : Nat → Nat → Nat) (dA : FieldType → ClassId) (rs : List Int) (ad : Nat → Nat) (b0 a : Nat) (H : Heap) : sC → Prop
  | .inl ro => ∃ (n : Nat) (g : Nat → Int32), q_RC dA b0 a H ro n g ∧ q_Ro rs n g ro ∧ (ro.1 = .int ∨ ro.1 = .byte ∨ ro.1 = .boolean ∨ ro.1 = .char) ∧ (ro.2.1.1 = [] → b0 ≤ a)
  | .inr (.inl n) => b0 ≤ a ∧ ∃ g : Nat → Int64, H[a]? = some (vp_cell (dA .long) (n, .inr (.inl g)))
  | .inr (.inr (.inl (n, cs))) => ∃ g : Nat → Option Nat, H[a]? = some (vp_cell (dA (.array .int)) (n, .inr (.inr (.inr (.inr g))))) ∧ ∀ (j : Nat) (c : Option Nat), cs[j]? = some c → va_rf (g j) = q_rf ad c
  | .inr (.inr (.inr (ci, fs))) => b0 ≤ a ∧ ∃ (vs : List Value) (q : vw_C), q_L rs ad fs vs ∧ vwCl[ci]? = some q ∧ t_OB a (dC ci) q.2.2 (dI ci) H (vp_V vs)
noncomputable def q_pair (dA : FieldType → ClassId) (b : Nat) (H : Heap) (a c : Nat) : Prop := (b ≤ a ∧ b ≤ c) ∧ ∃ g1 g2 : Nat → Int32, H[a]? = some (vp_cell (dA .int) (40, .inl g1)) ∧ H[c]? = some (vp_cell (dA .int) (40, .inl g2)) ∧ ∀ j : Nat, j < 40 → (g1 j).toInt = 48 ∨ (g2 j).toInt ≤ 39
noncomputable def q_acts (dA : FieldType → ClassId) (b : Nat) (H : Heap) (a : Nat) : Prop := b ≤ a ∧ ∃ g : Nat → Int32, H[a]? = some (vp_cell (dA .int) (240, .inl g)) ∧ ∀ j : Nat, j < 80 → (g (3 * j)).toInt = 103 → 0 ≤ (g (3 * j + 2)).toInt ∧ (g (3 * j + 2)).toInt ≤ 3
/-- a cell is named, and is open -/
noncomputable def q_isO (h : sH) (i : Nat) : Prop := ∃ x ∈ h, x.1 = i ∧ s_cls x.2 = false
/-- what holds of some open rows together: where a part of the rule isn't a number, what is left of it is a part; who goes goes to a place -/
noncomputable def q_J (dA : FieldType → ClassId) (b : Nat) (ad : Nat → Nat) (h : sH) (H : Heap) : Prop :=
  (q_isO h 10 → q_isO h 11 → q_pair dA b H (ad 10) (ad 11)) ∧ (q_isO h 14 → q_isO h 15 → q_pair dA b H (ad 14) (ad 15)) ∧ (q_isO h 89 → q_acts dA b H (ad 89))
/-- the heap: nothing older than the law's start has changed; nor, since the body's start, a cell that isn't named; the cells; their places, while cells are made; open rows -/
noncomputable def q_G (dC : Nat → ClassId) (dI : Nat → Nat → Nat) (dA : FieldType → ClassId) (rs : List Int) (ad : Nat → Nat) (Hb H0 : Heap) (E : sE) (h : sH) (H : Heap) : Prop :=
  (∀ q : Nat, q < Hb.size → H[q]? = Hb[q]?) ∧ (∀ q : Nat, q < H0.size → (∀ x ∈ h, ad x.1 ≠ q) → H[q]? = H0[q]?) ∧ (H0.size ≤ H.size ∧ Hb.size ≤ H.size) ∧ (E.1 = true → ∀ j, ad (h.length + j) = H.size + j) ∧ (∀ x ∈ h, q_C dC dI dA rs ad Hb.size (ad x.1) H x.2) ∧ (∀ x ∈ h, ∀ y ∈ h, ad x.1 = ad y.1 → x.1 = y.1) ∧ (E.1 = false → q_J dA Hb.size ad h H)
theorem q_hget {H : Heap} {a : Nat} {c : Cell} (h : H[a]? = some c) : a < H.size := (Array.getElem?_eq_some_iff.mp h).1
theorem q_pair.kept {dA : FieldType → ClassId} {b : Nat} {H H1 : Heap} {a c : Nat} (h : q_pair dA b H a c) (ha : H1[a]? = H[a]?) (hc : H1[c]? = H[c]?) : q_pair dA b H1 a c := by
  obtain ⟨h0, g1, g2, h1, h2, h3⟩ := h
  exact ⟨h0, g1, g2, by rw [ha]; exact h1, by rw [hc]; exact h2, h3⟩
theorem q_acts.kept {dA : FieldType → ClassId} {b : Nat} {H H1 : Heap} {a : Nat} (h : q_acts dA b H a) (ha : H1[a]? = H[a]?) : q_acts dA b H1 a := by
  obtain ⟨h0, g1, h1, h3⟩ := h
  exact ⟨h0, g1, by rw [ha]; exact h1, h3⟩
theorem q_J.kept {dA : FieldType → ClassId} {b : Nat} {ad : Nat → Nat} {h h1 : sH} {H H1 : Heap} (hJ : q_J dA b ad h H) (ho : ∀ i, q_isO h1 i → q_isO h i ∧ H1[ad i]? = H[ad i]?) : q_J dA b ad h1 H1 :=
  ⟨fun a c => (hJ.1 (ho _ a).1 (ho _ c).1).kept (ho _ a).2 (ho _ c).2, fun a c => (hJ.2.1 (ho _ a).1 (ho _ c).1).kept (ho _ a).2 (ho _ c).2, fun a => (hJ.2.2 (ho _ a).1).kept (ho _ a).2⟩
section Heaps
variable {dC : Nat → ClassId} {dI : Nat → Nat → Nat} {dA : FieldType → ClassId} {rs : List Int} {ad : Nat → Nat} {b0 : Nat} {Hb H0 H H1 : Heap} {E E1 : sE} {h : sH}
theorem q_C.mono (e : List Int) {a : Nat} {c : sC} (hc : q_C dC dI dA rs ad b0 a H c) : q_C dC dI dA (rs ++ e) ad b0 a H c := by
  rcases c with ro | n | ⟨n, f⟩ | ⟨ci, fs⟩
  · obtain ⟨n, g, h1, h2, h3⟩ := hc
    exact ⟨n, g, h1, h2.mono e, h3⟩
  · exact hc
  · exact hc
  · obtain ⟨h0, vs, q, h1, h2, h3⟩ := hc
    exact ⟨h0, vs, q, h1.mono e, h2, h3⟩
theorem q_C.kept {a : Nat} {c : sC} (hc : q_C dC dI dA rs ad b0 a H c) (e : H1[a]? = H[a]?) : q_C dC dI dA rs ad b0 a H1 c := by
  rcases c with ro | n | ⟨n, f⟩ | ⟨ci, fs⟩
  · obtain ⟨n, g, h1, h2⟩ := hc
    exact ⟨n, g, h1.as e rfl rfl, h2⟩
  · obtain ⟨h0, g, h1⟩ := hc
    exact ⟨h0, g, by rw [e]; exact h1⟩
  · obtain ⟨g, h1, h2⟩ := hc
    exact ⟨g, by rw [e]; exact h1, h2⟩
  · obtain ⟨h0, vs, q, h1, h2, h3⟩ := hc
    exact ⟨h0, vs, q, h1, h2, h3.kept e⟩
theorem q_C.lt {a : Nat} {c : sC} (hc : q_C dC dI dA rs ad b0 a H c) : a < H.size := by
  rcases c with ro | n | ⟨n, f⟩ | ⟨ci, fs⟩
  · obtain ⟨n, g, h1, h2⟩ := hc
    exact h1.lt
  · obtain ⟨-, g, h1⟩ := hc
    exact (Array.getElem?_eq_some_iff.mp h1).1
  · obtain ⟨g, h1, h2⟩ := hc
    exact (Array.getElem?_eq_some_iff.mp h1).1
  · obtain ⟨-, vs, q, h1, h2, cell, h3, -⟩ := hc
    exact (Array.getElem?_eq_some_iff.mp h3).1
theorem q_G.mono (e : List Int) (hG : q_G dC dI dA rs ad Hb H0 E h H) : q_G dC dI dA (rs ++ e) ad Hb H0 E h H := ⟨hG.1, hG.2.1, hG.2.2.1, hG.2.2.2.1, fun x hx => (hG.2.2.2.2.1 x hx).mono e, hG.2.2.2.2.2⟩
theorem q_G.env (hG : q_G dC dI dA rs ad Hb H0 E h H) (e : E1.1 = E.1) : q_G dC dI dA rs ad Hb H0 E1 h H := ⟨hG.1, hG.2.1, hG.2.2.1, by rw [e]; exact hG.2.2.2.1, hG.2.2.2.2.1, hG.2.2.2.2.2.1, by rw [e]; exact hG.2.2.2.2.2.2⟩
theorem s_hgetS : ∀ {h : sH} {k : Nat} {c : sC}, s_hget h k = some c → (k, c) ∈ h
  | [], k, c, hk => by cases hk
  | q :: r, k, c, hk => by
    unfold s_hget at hk
    cases e : Nat.beq q.1 k with
    | true =>
      rw [e] at hk
      cases hk
      rw [← Nat.eq_of_beq_eq_true e]
      exact List.mem_cons_self
    | false =>
      rw [e] at hk
      exact List.mem_cons_of_mem _ (s_hgetS hk)
theorem s_hsetS {k : Nat} {c : sC} {x : Nat × sC} (hx : x ∈ s_hset h k c) : ∃ y ∈ h, y.1 = x.1 ∧ ((x.1 = k ∧ x.2 = c) ∨ (x = y ∧ x.1 ≠ k)) := by
  obtain ⟨y, h1, rfl⟩ := List.mem_map.mp hx
  refine ⟨y, h1, ?_⟩
  cases e : Nat.beq y.1 k with
  | true => exact ⟨rfl, Or.inl ⟨Nat.eq_of_beq_eq_true e, rfl⟩⟩
  | false => exact ⟨rfl, Or.inr ⟨rfl, Nat.ne_of_beq_eq_false e⟩⟩
theorem s_hsetI {k : Nat} {c : sC} {x : Nat × sC} (hx : x ∈ h) : ∃ y ∈ s_hset h k c, y.1 = x.1 := by
  refine ⟨_, List.mem_map.mpr ⟨x, hx, rfl⟩, ?_⟩
  cases Nat.beq x.1 k <;> rfl
theorem q_G.set {k : Nat} {c0 c : sC} (hG : q_G dC dI dA rs ad Hb H0 E h H) (hk : s_hget h k = some c0) (hcl : s_cls c = true) (hb : Hb.size ≤ ad k) (hz : H1.size = H.size) (ho : ∀ q : Nat, q ≠ ad k → H1[q]? = H[q]?) (hc : q_C dC dI dA rs ad Hb.size (ad k) H1 c) : q_G dC dI dA rs ad Hb H0 E (s_hset h k c) H1 := by
  have hm := s_hgetS hk
  obtain ⟨g1, g2, g3, g4, g5, g6, g7⟩ := hG
  refine ⟨fun q hq => (ho q (by omega)).trans (g1 q hq), fun q hq hn => ?_, by rw [hz]; exact g3, by rw [hz]; show E.1 = true → ∀ j, ad ((h.map _).length + j) = _; rw [List.length_map]; exact g4, fun x hx => ?_, fun x hx y hy e => ?_, fun hf => (g7 hf).kept fun i ⟨x, hx, hi, hc⟩ => ?_⟩
  · have hne : q ≠ ad k := by
      obtain ⟨y, h1, h2⟩ := s_hsetI (k := k) (c := c) hm
      have := hn y h1
      rw [h2] at this
      exact fun e => this e.symm
    refine (ho q hne).trans (g2 q hq fun x hx => ?_)
    obtain ⟨y, h1, h2⟩ := s_hsetI (k := k) (c := c) hx
    rw [← h2]
    exact hn y h1
  · obtain ⟨y, h1, h2, h3⟩ := s_hsetS hx
    rcases h3 with ⟨h4, h5⟩ | ⟨h4, h5⟩
    · rw [h4, h5]
      exact hc
    · rw [h4]
      have hne : ad y.1 ≠ ad k := fun e => h5 (by rw [← h2]; exact g6 y h1 (k, c0) hm e)
      exact (g5 y h1).kept (ho _ hne)
  · obtain ⟨x', h1, h2, -⟩ := s_hsetS hx
    obtain ⟨y', h3, h4, -⟩ := s_hsetS hy
    rw [← h2, ← h4] at e ⊢
    exact g6 x' h1 y' h3 e
  · obtain ⟨y, h1, h2, h3⟩ := s_hsetS hx
    rcases h3 with ⟨h4, h5⟩ | ⟨h4, h5⟩
    · rw [h5, hcl] at hc
      cases hc
    · rw [h4] at hi hc
      have hne : ad y.1 ≠ ad k := fun e => h5 (by rw [← h2]; exact g6 y h1 (k, c0) hm e)
      exact ⟨⟨y, h1, hi, hc⟩, by rw [← hi]; exact ho _ hne⟩
/-- the same cell, told otherwise -/
theorem q_G.tell {k : Nat} {c0 c : sC} (hG : q_G dC dI dA rs ad Hb H0 E h H) (hk : s_hget h k = some c0) (hcl : s_cls c = s_cls c0) (hc : q_C dC dI dA rs ad Hb.size (ad k) H c) : q_G dC dI dA rs ad Hb H0 E (s_hset h k c) H := by
  have hm := s_hgetS hk
  obtain ⟨g1, g2, g3, g4, g5, g6, g7⟩ := hG
  refine ⟨g1, fun q hq hn => ?_, g3, by show E.1 = true → ∀ j, ad ((h.map _).length + j) = _; rw [List.length_map]; exact g4, fun x hx => ?_, fun x hx y hy e => ?_, fun hf => (g7 hf).kept fun i ⟨x, hx, hi, hc⟩ => ⟨?_, rfl⟩⟩
  · refine g2 q hq fun x hx => ?_
    obtain ⟨y, h1, h2⟩ := s_hsetI (k := k) (c := c) hx
    rw [← h2]
    exact hn y h1
  · obtain ⟨y, h1, h2, h3⟩ := s_hsetS hx
    rcases h3 with ⟨h4, h5⟩ | ⟨h4, h5⟩
    · rw [h4, h5]
      exact hc
    · rw [h4]
      exact g5 y h1
  · obtain ⟨x', h1, h2, -⟩ := s_hsetS hx
    obtain ⟨y', h3, h4, -⟩ := s_hsetS hy
    rw [← h2, ← h4] at e ⊢
    exact g6 x' h1 y' h3 e
  · obtain ⟨y, h1, h2, h3⟩ := s_hsetS hx
    rcases h3 with ⟨h4, h5⟩ | ⟨h4, h5⟩
    · rw [h5, hcl] at hc
      exact ⟨(k, c0), hm, by rw [← h4]; exact hi, hc⟩
    · rw [h4] at hi hc
      exact ⟨y, h1, hi, hc⟩
theorem s_idsS (hi : s_ids h = true) {x : Nat × sC} (hx : x ∈ h) : x.1 < h.length := by
  have := List.all_eq_true.mp hi x hx
  exact Nat.le_of_ble_eq_true this
/-- new cells -/
theorem q_G.app {cs : sH} (hG : q_G dC dI dA rs ad Hb H0 E h H) (hE : E.1 = true) (hi : s_ids h = true) (hn : ∀ (j : Nat) (x : Nat × sC), cs[j]? = some x → x.1 = h.length + j) (hz : H1.size = H.size + cs.length) (ho : ∀ q : Nat, q < H.size → H1[q]? = H[q]?) (hc : ∀ (j : Nat) (x : Nat × sC), cs[j]? = some x → q_C dC dI dA rs ad Hb.size (H.size + j) H1 x.2) : q_G dC dI dA rs ad Hb H0 E (h ++ cs) H1 := by
  obtain ⟨g1, g2, ⟨g3, g3'⟩, g4, g5, g6, g7⟩ := hG
  have g4 := g4 hE
  have new : ∀ x ∈ cs, ∃ j, j < cs.length ∧ x.1 = h.length + j ∧ ad x.1 = H.size + j ∧ q_C dC dI dA rs ad Hb.size (ad x.1) H1 x.2 := fun x hx => by
    obtain ⟨j, hj⟩ := List.getElem?_of_mem hx
    have e := hn j x hj
    refine ⟨j, (List.getElem?_eq_some_iff.mp hj).1, e, by rw [e, g4], ?_⟩
    rw [e, g4]
    exact hc j x hj
  have old : ∀ x ∈ h, ad x.1 < H.size := fun x hx => (g5 x hx).lt
  refine ⟨fun q hq => (ho q (by omega)).trans (g1 q hq), fun q hq hn => (ho q (by omega)).trans (g2 q hq (fun x hx => hn x (List.mem_append_left _ hx))), by omega, fun _ j => ?_, fun x hx => ?_, fun x hx y hy e => ?_, (fun hf => by rw [hE] at hf; cases hf)⟩
  · rw [List.length_append, Nat.add_assoc, g4, hz, Nat.add_assoc]
  · rcases List.mem_append.mp hx with hx | hx
    · exact (g5 x hx).kept (ho _ (old x hx))
    · obtain ⟨j, -, -, -, h4⟩ := new x hx
      exact h4
  · rcases List.mem_append.mp hx with hx | hx
    · rcases List.mem_append.mp hy with hy | hy
      · exact g6 x hx y hy e
      · obtain ⟨j, -, -, h3, -⟩ := new y hy
        have := old x hx
        omega
    · obtain ⟨i, -, h2, h3, -⟩ := new x hx
      rcases List.mem_append.mp hy with hy | hy
      · have := old y hy
        omega
      · obtain ⟨j, -, h5, h6, -⟩ := new y hy
        omega
theorem q_obj {q ci : Nat} {fs : List sA} (hG : q_G dC dI dA rs ad Hb H0 E h H) (ho : s_obj h q = some (ci, fs)) : s_hget h q = some (.inr (.inr (.inr (ci, fs)))) ∧ Hb.size ≤ ad q ∧ ∃ (vs : List Value) (w : vw_C), q_L rs ad fs vs ∧ vwCl[ci]? = some w ∧ t_OB (ad q) (dC ci) w.2.2 (dI ci) H (vp_V vs) := by
  have h1 : s_hget h q = some (.inr (.inr (.inr (ci, fs)))) := by
    unfold s_obj at ho
    split at ho
    · rename_i o e
      cases ho
      exact e
    · cases ho
  exact ⟨h1, hG.2.2.2.2.1 _ (s_hgetS h1)⟩
theorem q_row {q : Nat} {ro : sR} (hG : q_G dC dI dA rs ad Hb H0 E h H) (ho : s_row h q = some ro) : s_hget h q = some (.inl ro) ∧ ∃ (n : Nat) (g : Nat → Int32), q_RC dA Hb.size (ad q) H ro n g ∧ q_Ro rs n g ro ∧ (ro.1 = .int ∨ ro.1 = .byte ∨ ro.1 = .boolean ∨ ro.1 = .char) ∧ (ro.2.1.1 = [] → Hb.size ≤ ad q) := by
  have h1 : s_hget h q = some (.inl ro) := by
    unfold s_row at ho
    split at ho
    · rename_i o e
      cases ho
      exact e
    · cases ho
  exact ⟨h1, hG.2.2.2.2.1 _ (s_hgetS h1)⟩
theorem q_rar {q n : Nat} {cs : List (Option Nat)} (hG : q_G dC dI dA rs ad Hb H0 E h H) (ho : s_rar h q = some (n, cs)) : ∃ g : Nat → Option Nat, H[ad q]? = some (vp_cell (dA (.array .int)) (n, .inr (.inr (.inr (.inr g))))) ∧ ∀ (j : Nat) (c : Option Nat), cs[j]? = some c → va_rf (g j) = q_rf ad c := by
  have h1 : s_hget h q = some (.inr (.inr (.inl (n, cs)))) := by
    unfold s_rar at ho
    split at ho
    · rename_i o e
      cases ho
      exact e
    · cases ho
  exact hG.2.2.2.2.1 _ (s_hgetS h1)
theorem q_lrow {q n : Nat} (hG : q_G dC dI dA rs ad Hb H0 E h H) (ho : s_lrow h q = some n) : s_hget h q = some (.inr (.inl n)) ∧ Hb.size ≤ ad q ∧ ∃ g : Nat → Int64, H[ad q]? = some (vp_cell (dA .long) (n, .inr (.inl g))) := by
  have h1 : s_hget h q = some (.inr (.inl n)) := by
    unfold s_lrow at ho
    split at ho
    · rename_i o e
      cases ho
      exact e
    · cases ho
  exact ⟨h1, hG.2.2.2.2.1 _ (s_hgetS h1)⟩
end Heaps
/-- the array classes that are used -/
noncomputable def q_tys (dA : FieldType → ClassId) : List (ClassId × FieldType) := [(dA .int, .int), (dA .byte, .byte), (dA .boolean, .boolean), (dA .char, .char), (dA .long, .long), (dA (.array .int), .array .int)]
/-- the words of a throw that don't keep by themselves, and the texts -/
noncomputable def q_iS (n : String) : MethodName := ⟨n, "<init>", "(Ljava/lang/String;)V"⟩
noncomputable def q_nse : String := "java/util/NoSuchElementException"
noncomputable def q_xw : List Cond := [Cond.declares (q_iS "java/lang/RuntimeException"), Cond.declares (q_iS "java/lang/Exception"), Cond.declares (q_iS "java/lang/Throwable"), Cond.castable q_nse q_nse]
noncomputable def q_xs : List (Nat × String) := [(121, "there is no such one of PEOPLE"), (142, "nothing such is told of PEOPLE"), (147, "there is no such CLOTH"), (164, "nothing such is told of CLOTHS"), (256, "there is no such piece in THE BOX"), (449, "the ROW has no such number")]
noncomputable def q_KX (Hb : Heap) (U : State) : Prop := (∀ w ∈ q_xw, va_Nw w U) ∧ (∀ q ∈ q_xs, ∃ sa, vk_R "SkirtsByTheDay" q.1 q.2 sa U) ∧ vx_Zq Bundle.tN "UNASSIGNED_STACK" Bundle.steD (fun q => Hb.size ≤ q) U Hb ∧ vx_Zq Bundle.tN "SUPPRESSED_SENTINEL" Bundle.listD (fun q => Hb.size ≤ q) U Hb
/-- the script is a row of ints -/
noncomputable def q_scr (dA : FieldType → ClassId) (Hb : Heap) (U : State) : Prop := ∀ scr : Cell, Hb[dA .short]? = some scr → U.isArrayOf scr .int
/-- what the tables say at a state, beside the words: classes, array classes, the nest's words, what a throw needs -/
noncomputable def q_K (dC : Nat → ClassId) (dI : Nat → Nat → Nat) (dA : FieldType → ClassId) (Hb : Heap) (U : State) : Prop :=
  va_K (dC, dI) vwCl (q_tys dA) U ∧ (∀ w ∈ nw, va_Nw w U) ∧ (va_AOA .int U ∧ q_scr dA Hb U) ∧ q_KX Hb U
end
-- 13.cls.lean.txt
section
/-- what the words say of a class: its fields' words are there, their types, their names apart, it can be made -/
noncomputable def q_cls (ci : Nat) (q : vw_C) : Prop := (∀ w ∈ u_ws q.1 q.2.1 q.2.2, w ∈ tb) ∧ (∀ k, k < q.2.2 → parseFieldDescriptor (q.2.1 k).2.2.1 = some (tyOf ci k)) ∧ (∀ a, a < q.2.2 → ∀ b, b < q.2.2 → a ≠ b → (q.2.1 a).2.1 ≠ (q.2.1 b).2.1) ∧ Cond.instantiable q.1 q.2.2 ∈ tb ∧ Cond.initialized q.1 ∈ tb ∧ (∀ k, k < q.2.2 → tyOf ci k = .int ∨ tyOf ci k = .boolean ∨ (∃ t, tyOf ci k = .array t) ∨ ∃ n, tyOf ci k = .object n)
noncomputable def q_layB (ws : List Cond) (is : List Nat) : Bool := Nat.beq ws.length is.length && (ws.zip is).all (fun x => wAt x.2 x.1)
theorem q_lay {ws : List Cond} {is : List Nat} (h : q_layB ws is = true) : ∀ w ∈ ws, w ∈ tb := by
  simp only [q_layB, Bool.and_eq_true] at h
  have hl := Nat.eq_of_beq_eq_true h.1
  have ha := List.all_eq_true.mp h.2
  intro w hw
  obtain ⟨i, hi, rfl⟩ := List.mem_iff_getElem.mp hw
  have hm : (ws[i], is[i]'(by omega)) ∈ ws.zip is := by
    refine List.mem_iff_getElem.mpr ⟨i, by simp; omega, ?_⟩
    simp
  exact wAt_mem (ha _ hm)
noncomputable def q_tyB (t : FieldType) : Bool := match t with
  | .int => true
  | .boolean => true
  | .array _ => true
  | .object _ => true
  | _ => false
theorem q_ty {t : FieldType} (h : q_tyB t = true) : t = .int ∨ t = .boolean ∨ (∃ u, t = .array u) ∨ ∃ n, t = .object n := by
  cases t <;> simp [q_tyB] at h ⊢
set_option maxRecDepth 100000 in
theorem q_lay0 : q_layB (u_ws RX0 TX0 5) [131, 133, 135, 137, 139] = true := by decide +kernel
set_option maxRecDepth 100000 in
theorem q_tyz0 : ∀ k, k < 5 → q_tyB (tyOf 0 k) = true := by decide +kernel
set_option maxRecDepth 100000 in
theorem q_tyo0 : ∀ k, k < 5 → parseFieldDescriptor (TX0 k).2.2.1 = some (tyOf 0 k) := tyX0_ok
set_option maxRecDepth 100000 in
theorem q_cls0 : q_cls 0 (RX0, TX0, 5) := ⟨q_lay q_lay0, q_tyo0, nmX0, wAt_mem (i := 120) (by decide +kernel), wAt_mem (i := 69) (by decide +kernel), fun k hk => q_ty (q_tyz0 k hk)⟩
set_option maxRecDepth 100000 in
theorem q_lay1 : q_layB (u_ws RX1 TX1 5) [200, 202, 204, 206, 208] = true := by decide +kernel
set_option maxRecDepth 100000 in
theorem q_tyz1 : ∀ k, k < 5 → q_tyB (tyOf 1 k) = true := by decide +kernel
set_option maxRecDepth 100000 in
theorem q_tyo1 : ∀ k, k < 5 → parseFieldDescriptor (TX1 k).2.2.1 = some (tyOf 1 k) := tyX1_ok
set_option maxRecDepth 100000 in
theorem q_cls1 : q_cls 1 (RX1, TX1, 5) := ⟨q_lay q_lay1, q_tyo1, nmX1, wAt_mem (i := 184) (by decide +kernel), wAt_mem (i := 72) (by decide +kernel), fun k hk => q_ty (q_tyz1 k hk)⟩
set_option maxRecDepth 100000 in
theorem q_lay2 : q_layB (u_ws RX2 TX2 6) [292, 294, 296, 298, 300, 302] = true := by decide +kernel
set_option maxRecDepth 100000 in
theorem q_tyz2 : ∀ k, k < 6 → q_tyB (tyOf 2 k) = true := by decide +kernel
set_option maxRecDepth 100000 in
theorem q_tyo2 : ∀ k, k < 6 → parseFieldDescriptor (TX2 k).2.2.1 = some (tyOf 2 k) := tyX2_ok
set_option maxRecDepth 100000 in
theorem q_cls2 : q_cls 2 (RX2, TX2, 6) := ⟨q_lay q_lay2, q_tyo2, nmX2, wAt_mem (i := 278) (by decide +kernel), wAt_mem (i := 73) (by decide +kernel), fun k hk => q_ty (q_tyz2 k hk)⟩
set_option maxRecDepth 100000 in
theorem q_lay3 : q_layB (u_ws RX3 TX3 15) [246, 248, 250, 252, 254, 256, 258, 260, 262, 264, 266, 268, 270, 272, 274] = true := by decide +kernel
set_option maxRecDepth 100000 in
theorem q_tyz3 : ∀ k, k < 15 → q_tyB (tyOf 3 k) = true := by decide +kernel
set_option maxRecDepth 100000 in
theorem q_tyo3 : ∀ k, k < 15 → parseFieldDescriptor (TX3 k).2.2.1 = some (tyOf 3 k) := tyX3_ok
set_option maxRecDepth 100000 in
theorem q_cls3 : q_cls 3 (RX3, TX3, 15) := ⟨q_lay q_lay3, q_tyo3, nmX3, wAt_mem (i := 178) (by decide +kernel), wAt_mem (i := 71) (by decide +kernel), fun k hk => q_ty (q_tyz3 k hk)⟩
set_option maxRecDepth 100000 in
theorem q_lay4 : q_layB (u_ws RX4 TX4 2) [435, 437] = true := by decide +kernel
set_option maxRecDepth 100000 in
theorem q_tyz4 : ∀ k, k < 2 → q_tyB (tyOf 4 k) = true := by decide +kernel
set_option maxRecDepth 100000 in
theorem q_tyo4 : ∀ k, k < 2 → parseFieldDescriptor (TX4 k).2.2.1 = some (tyOf 4 k) := tyX4_ok
set_option maxRecDepth 100000 in
theorem q_cls4 : q_cls 4 (RX4, TX4, 2) := ⟨q_lay q_lay4, q_tyo4, nmX4, wAt_mem (i := 426) (by decide +kernel), wAt_mem (i := 78) (by decide +kernel), fun k hk => q_ty (q_tyz4 k hk)⟩
set_option maxRecDepth 100000 in
theorem q_lay5 : q_layB (u_ws RX5 TX5 9) [158, 160, 162, 164, 166, 168, 170, 172, 174] = true := by decide +kernel
set_option maxRecDepth 100000 in
theorem q_tyz5 : ∀ k, k < 9 → q_tyB (tyOf 5 k) = true := by decide +kernel
set_option maxRecDepth 100000 in
theorem q_tyo5 : ∀ k, k < 9 → parseFieldDescriptor (TX5 k).2.2.1 = some (tyOf 5 k) := tyX5_ok
set_option maxRecDepth 100000 in
theorem q_cls5 : q_cls 5 (RX5, TX5, 9) := ⟨q_lay q_lay5, q_tyo5, nmX5, wAt_mem (i := 144) (by decide +kernel), wAt_mem (i := 70) (by decide +kernel), fun k hk => q_ty (q_tyz5 k hk)⟩
set_option maxRecDepth 100000 in
theorem q_lay6 : q_layB (u_ws RX6 TX6 5) [380, 382, 384, 386, 388] = true := by decide +kernel
set_option maxRecDepth 100000 in
theorem q_tyz6 : ∀ k, k < 5 → q_tyB (tyOf 6 k) = true := by decide +kernel
set_option maxRecDepth 100000 in
theorem q_tyo6 : ∀ k, k < 5 → parseFieldDescriptor (TX6 k).2.2.1 = some (tyOf 6 k) := tyX6_ok
set_option maxRecDepth 100000 in
theorem q_cls6 : q_cls 6 (RX6, TX6, 5) := ⟨q_lay q_lay6, q_tyo6, nmX6, wAt_mem (i := 365) (by decide +kernel), wAt_mem (i := 76) (by decide +kernel), fun k hk => q_ty (q_tyz6 k hk)⟩
set_option maxRecDepth 100000 in
theorem q_lay7 : q_layB (u_ws RX7 TX7 4) [109, 111, 113, 115] = true := by decide +kernel
set_option maxRecDepth 100000 in
theorem q_tyz7 : ∀ k, k < 4 → q_tyB (tyOf 7 k) = true := by decide +kernel
set_option maxRecDepth 100000 in
theorem q_tyo7 : ∀ k, k < 4 → parseFieldDescriptor (TX7 k).2.2.1 = some (tyOf 7 k) := tyX7_ok
set_option maxRecDepth 100000 in
theorem q_cls7 : q_cls 7 (RX7, TX7, 4) := ⟨q_lay q_lay7, q_tyo7, nmX7, wAt_mem (i := 96) (by decide +kernel), wAt_mem (i := 68) (by decide +kernel), fun k hk => q_ty (q_tyz7 k hk)⟩
set_option maxRecDepth 100000 in
theorem q_lay8 : q_layB (u_ws RX8 TX8 9) [345, 347, 349, 351, 353, 355, 357, 359, 361] = true := by decide +kernel
set_option maxRecDepth 100000 in
theorem q_tyz8 : ∀ k, k < 9 → q_tyB (tyOf 8 k) = true := by decide +kernel
set_option maxRecDepth 100000 in
theorem q_tyo8 : ∀ k, k < 9 → parseFieldDescriptor (TX8 k).2.2.1 = some (tyOf 8 k) := tyX8_ok
set_option maxRecDepth 100000 in
theorem q_cls8 : q_cls 8 (RX8, TX8, 9) := ⟨q_lay q_lay8, q_tyo8, nmX8, wAt_mem (i := 325) (by decide +kernel), wAt_mem (i := 75) (by decide +kernel), fun k hk => q_ty (q_tyz8 k hk)⟩
set_option maxRecDepth 100000 in
theorem q_lay9 : q_layB (u_ws RX9 TX9 8) [407, 409, 411, 413, 415, 417, 419, 421] = true := by decide +kernel
set_option maxRecDepth 100000 in
theorem q_tyz9 : ∀ k, k < 8 → q_tyB (tyOf 9 k) = true := by decide +kernel
set_option maxRecDepth 100000 in
theorem q_tyo9 : ∀ k, k < 8 → parseFieldDescriptor (TX9 k).2.2.1 = some (tyOf 9 k) := tyX9_ok
set_option maxRecDepth 100000 in
theorem q_cls9 : q_cls 9 (RX9, TX9, 8) := ⟨q_lay q_lay9, q_tyo9, nmX9, wAt_mem (i := 392) (by decide +kernel), wAt_mem (i := 77) (by decide +kernel), fun k hk => q_ty (q_tyz9 k hk)⟩
set_option maxRecDepth 100000 in
theorem q_lay10 : q_layB (u_ws RX10 TX10 3) [317, 319, 321] = true := by decide +kernel
set_option maxRecDepth 100000 in
theorem q_tyz10 : ∀ k, k < 3 → q_tyB (tyOf 10 k) = true := by decide +kernel
set_option maxRecDepth 100000 in
theorem q_tyo10 : ∀ k, k < 3 → parseFieldDescriptor (TX10 k).2.2.1 = some (tyOf 10 k) := tyX10_ok
set_option maxRecDepth 100000 in
theorem q_cls10 : q_cls 10 (RX10, TX10, 3) := ⟨q_lay q_lay10, q_tyo10, nmX10, wAt_mem (i := 306) (by decide +kernel), wAt_mem (i := 74) (by decide +kernel), fun k hk => q_ty (q_tyz10 k hk)⟩
set_option maxRecDepth 100000 in
theorem q_lay11 : q_layB (u_ws RX11 TX11 11) [451, 453, 455, 457, 459, 461, 463, 465, 467, 469, 471] = true := by decide +kernel
set_option maxRecDepth 100000 in
theorem q_tyz11 : ∀ k, k < 11 → q_tyB (tyOf 11 k) = true := by decide +kernel
set_option maxRecDepth 100000 in
theorem q_tyo11 : ∀ k, k < 11 → parseFieldDescriptor (TX11 k).2.2.1 = some (tyOf 11 k) := tyX11_ok
set_option maxRecDepth 100000 in
theorem q_cls11 : q_cls 11 (RX11, TX11, 11) := ⟨q_lay q_lay11, q_tyo11, nmX11, wAt_mem (i := 88) (by decide +kernel), wAt_mem (i := 67) (by decide +kernel), fun k hk => q_ty (q_tyz11 k hk)⟩
set_option maxRecDepth 100000 in
theorem q_lay12 : q_layB (u_ws RX12 TX12 66) [1377, 1379, 1381, 1383, 1385, 1387, 1389, 1391, 1393, 1395, 1397, 1399, 1401, 1403, 1405, 1407, 1409, 1411, 1413, 1415, 1417, 1419, 1421, 1423, 1425, 1427, 1429, 1431, 1433, 1435, 1437, 1439, 1441, 1443, 1445, 1447, 1449, 1451, 1453, 1455, 1457, 1459, 1461, 1463, 1465, 1467, 1469, 1471, 1473, 1475, 1477, 1479, 1481, 1483, 1485, 1487, 1489, 1491, 1493, 1495, 1497, 1499, 1501, 1503, 1505, 1507] = true := by decide +kernel
set_option maxRecDepth 100000 in
theorem q_tyz12 : ∀ k, k < 66 → q_tyB (tyOf 12 k) = true := by decide +kernel
set_option maxRecDepth 100000 in
theorem q_tyo12 : ∀ k, k < 66 → parseFieldDescriptor (TX12 k).2.2.1 = some (tyOf 12 k) := tyX12_ok
set_option maxRecDepth 100000 in
theorem q_cls12 : q_cls 12 (RX12, TX12, 66) := ⟨q_lay q_lay12, q_tyo12, nmX12, wAt_mem (i := 1306) (by decide +kernel), wAt_mem (i := 79) (by decide +kernel), fun k hk => q_ty (q_tyz12 k hk)⟩
theorem q_clsA : ∀ (ci : Nat) (q : vw_C), vwCl[ci]? = some q → q_cls ci q
  | 0, _, h => Option.some.inj h ▸ q_cls0
  | 1, _, h => Option.some.inj h ▸ q_cls1
  | 2, _, h => Option.some.inj h ▸ q_cls2
  | 3, _, h => Option.some.inj h ▸ q_cls3
  | 4, _, h => Option.some.inj h ▸ q_cls4
  | 5, _, h => Option.some.inj h ▸ q_cls5
  | 6, _, h => Option.some.inj h ▸ q_cls6
  | 7, _, h => Option.some.inj h ▸ q_cls7
  | 8, _, h => Option.some.inj h ▸ q_cls8
  | 9, _, h => Option.some.inj h ▸ q_cls9
  | 10, _, h => Option.some.inj h ▸ q_cls10
  | 11, _, h => Option.some.inj h ▸ q_cls11
  | 12, _, h => Option.some.inj h ▸ q_cls12
  | n + 13, _, h => nomatch h
theorem q_ac_int : Cond.arrayClass .int ∈ tb := wAt_mem (i := 142) (by decide +kernel)
theorem q_ac_byte : Cond.arrayClass .byte ∈ tb := wAt_mem (i := 1274) (by decide +kernel)
theorem q_ac_boolean : Cond.arrayClass .boolean ∈ tb := wAt_mem (i := 424) (by decide +kernel)
theorem q_ac_char : Cond.arrayClass .char ∈ tb := wAt_mem (i := 118) (by decide +kernel)
theorem q_ac_long : Cond.arrayClass .long ∈ tb := wAt_mem (i := 1510) (by decide +kernel)
theorem q_ao : lw_tbl[284]? = some (Cond.arrayOver (.array .int)) := by decide +kernel
theorem q_w_nat : Cond.native arraycopyName ∈ tb := wAt_mem (i := 527) (by decide +kernel)
theorem q_w_sta : Cond.static arraycopyName ∈ tb := wAt_mem (i := 526) (by decide +kernel)
theorem q_w_sys : Cond.initialized "java/lang/System" ∈ tb := wAt_mem (i := 81) (by decide +kernel)
theorem q_w_oi : Cond.instanceMethod objectInit ∈ tb := wAt_mem (i := 93) (by decide +kernel)
theorem q_w_oc : Cond.code objectInit ⟨#[0xb1]⟩ 1 none ∈ tb := wAt_mem (i := 94) (by decide +kernel)
end
-- 14.rows.lean.txt
section
/-! Rows of this machine: one cell is read or written, the others stay, the heap's size is known. -/
theorem q_aoS {t : FieldType} {s : State} (h : va_AOA t s) : ∃ (comp c : ClassId) (k : Class), s.vm.findClass (FieldType.array t).toString = some comp ∧ (s.vm.classes.findIdx? fun (x : Class) => match x.kind with | .array component _ => component == comp | _ => false) = some c ∧ s.vm.classes[c]? = some k ∧ k.kind = .array comp (.array t) ∧ s.vm.findClass ("[" ++ (FieldType.array t).toString) = some c := by
  unfold va_AOA Cond.before at h
  simp only [Cond.holds, Cond.value, beq_iff_eq] at h
  cases hc : s.vm.findClass (FieldType.array t).toString with
  | none => simp [hc] at h
  | some comp =>
    simp only [hc, Option.bind_some, Option.bind_eq_some_iff, Option.map_eq_some_iff] at h
    obtain ⟨c, hi, k, hk, hb⟩ := h
    obtain ⟨hlt, hp, -⟩ := Array.findIdx?_eq_some_iff_getElem.mp hi
    have hkk : s.vm.classes[c] = k := (Array.getElem?_eq_some_iff.mp hk).2
    rw [hkk] at hp
    cases hkind : k.kind with
    | array component ty =>
      rw [hkind] at hb hp
      simp at hb hp
      exact ⟨comp, c, k, rfl, hi, hk, by rw [hkind, hp, hb.1], hb.2⟩
    | _ => rw [hkind] at hb; simp at hb
theorem q_idxB (vm : Vm) (comp : ClassId) : (vm.bare.classes.findIdx? fun (x : Class) => match x.kind with | .array component _ => component == comp | _ => false) = (vm.classes.findIdx? fun (x : Class) => match x.kind with | .array component _ => component == comp | _ => false) := by
  simp only [Vm.bare, Array.findIdx?_map]
  rfl
theorem va_AOA.moved {t : FieldType} {u U : State} (hvm : u.vm.Alike U.vm) (h : va_AOA t u) : va_AOA t U := by
  obtain ⟨comp, c, k, h1, h2, h3, h4, h5⟩ := q_aoS h
  obtain ⟨k', hk', he⟩ := hvm.2.2 _ _ h3
  have hi : (U.vm.classes.findIdx? fun (x : Class) => match x.kind with | .array component _ => component == comp | _ => false) = some c := by
    have e1 := q_idxB U.vm comp
    have e2 := q_idxB u.vm comp
    have e3 : U.vm.bare = u.vm.bare := by first | exact hvm.bare_eq | exact hvm.bare_eq.symm
    rw [← e1, e3, e2]
    exact h2
  have hkind : k'.kind = .array comp (.array t) := by rw [he]; exact h4
  have f1 : U.vm.findClass (FieldType.array t).toString = some comp := by rw [hvm.findClass]; exact h1
  have f2 : U.vm.findClass ("[" ++ (FieldType.array t).toString) = some c := by rw [hvm.findClass]; exact h5
  unfold va_AOA Cond.before Cond.holds
  simp only [Cond.value]
  rw [f1, Option.bind_some]
  refine (congrArg (fun o : Option Nat => (o.bind (fun c => (U.vm.classes[c]?).map fun (k : Class) => match k.kind with | .array _ ty => decide (ty = FieldType.array t) && decide (U.vm.findClass ("[" ++ (FieldType.array t).toString) = some c) | _ => false) == some true)) hi).trans ?_
  simp [hk', hkind, f2]
theorem q_nwM {w : Cond} (hw : w ∈ nw) {s U : State} (hW : s.WarmedH U.vm) (h : va_Nw w s) : va_Nw w U := by
  have h2 := (List.mem_filter.mp hw).2
  cases w <;> simp at h2
  exact va_Nw.warmM hW h
theorem q_decM {x : MethodName} {s U : State} (hW : s.WarmedH U.vm) (h : va_Nw (.declares x) s) : va_Nw (.declares x) U := by
  have h1 : (Cond.declares x).before #[] (s.setVm U.vm) = true := Cond.before_shiftedFace (State.Shifted.of_warmed hW) _ rfl h
  exact va_tabs (c := .declares x) rfl (rfl : (s.setVm U.vm).vm = U.vm) h1
theorem q_casM {a b : String} {s U : State} (hW : s.WarmedH U.vm) (h : va_Nw (.castable a b) s) : va_Nw (.castable a b) U := by
  have h1 : (Cond.castable a b).before #[] (s.setVm U.vm) = true := Cond.before_shiftedCast (State.Shifted.of_warmed hW) _ rfl h
  exact va_tabs (c := .castable a b) rfl (rfl : (s.setVm U.vm).vm = U.vm) h1
theorem q_xwM {w : Cond} (hw : w ∈ q_xw) {s U : State} (hW : s.WarmedH U.vm) (h : va_Nw w s) : va_Nw w U := by
  simp only [q_xw, List.mem_cons, List.not_mem_nil, or_false] at hw
  rcases hw with rfl | rfl | rfl | rfl
  · exact q_decM hW h
  · exact q_decM hW h
  · exact q_decM hW h
  · exact q_casM hW h
theorem q_xwT {w : Cond} (hw : w ∈ q_xw) : w.onTables = true := by
  simp only [q_xw, List.mem_cons, List.not_mem_nil, or_false] at hw
  rcases hw with rfl | rfl | rfl | rfl <;> rfl
theorem q_KX.moved {Hb : Heap} {s U : State} (hW : s.WarmedH U.vm) (h : q_KX Hb s) : q_KX Hb U :=
  ⟨fun w hw => q_xwM hw hW (h.1 w hw), fun q hq => by
    obtain ⟨sa, h1⟩ := h.2.1 q hq
    exact ⟨sa, vk_R.warm hW h1⟩, vx_Zq.moved hW.alike h.2.2.1, vx_Zq.moved hW.alike h.2.2.2⟩
theorem q_KX.calling {Hb : Heap} {U : State} {g : JFrame} {mk : MethodId} {a : Array Value} (h : q_KX Hb U) : q_KX Hb (U.calling g mk a) :=
  ⟨fun w hw => va_Nw.same (q_xwT hw) (u := U) rfl (h.1 w hw), fun q hq => by
    obtain ⟨sa, h1⟩ := h.2.1 q hq
    exact ⟨sa, vk_R.same (u := U) rfl h1⟩, vx_Zq.moved (u := U) (U := U.calling g mk a) (Vm.Alike.refl U.vm) h.2.2.1, vx_Zq.moved (u := U) (U := U.calling g mk a) (Vm.Alike.refl U.vm) h.2.2.2⟩
section Moved
variable {dC : Nat → ClassId} {dI : Nat → Nat → Nat} {dA : FieldType → ClassId} {Hb : Heap}
theorem q_K.moved {s U : State} (hW : s.WarmedH U.vm) (h : q_K dC dI dA Hb s) : q_K dC dI dA Hb U :=
  ⟨va_K.moved hW.alike h.1, fun w hw => q_nwM hw hW (h.2.1 w hw), ⟨va_AOA.moved hW.alike h.2.2.1.1, fun scr hs => State.isArrayOf_alike hW.alike (h.2.2.1.2 scr hs)⟩, h.2.2.2.moved hW⟩
theorem q_K.calling {U : State} {g : JFrame} {mk : MethodId} {a : Array Value} (h : q_K dC dI dA Hb U) : q_K dC dI dA Hb (U.calling g mk a) :=
  ⟨va_K.moved (u := U) (U := U.calling g mk a) (Vm.Alike.refl U.vm) h.1, fun w hw => va_Nw.same (by have h2 := (List.mem_filter.mp hw).2; cases w <;> simp at h2; rfl) (u := U) rfl (h.2.1 w hw), ⟨va_AOA.moved (u := U) (U := U.calling g mk a) (Vm.Alike.refl U.vm) h.2.2.1.1, fun scr hs => State.isArrayOf_alike (s := U) (T := U.calling g mk a) (Vm.Alike.refl U.vm) (h.2.2.1.2 scr hs)⟩, h.2.2.2.calling⟩
end Moved
section Rows
variable {p : Program} {l : Launch} {e : Env} {R : Room} {s : State} {m : MethodId} {args : Array Value} {below : List Frame} {meth : Method} {c : Code} {H : Heap} {locs : List Loc} {cells slots : Nat} {Q : State → Prop}
variable {cc : ByteArray} {pc : Nat} {ls : Array Slot} {rest : List Value} {D : va_G} {cl : List vw_C} {a : Nat} {tys : List (ClassId × FieldType)}
theorem q_get (hexec : p.tables.exec = Jvm.exec) (hb : c.code = cc) {own : String} {q : vw_C} {ci index : Nat} {Ts : List Cond} (hts : ∀ w ∈ Ts, w.before args s = true) (hin : ∀ w ∈ u_ws q.1 q.2.1 q.2.2, w ∈ Ts) (hown : s.vm.findClass own = some m.cls) (hK : va_K D cl tys s)
    {fs : List Value} (hO : t_OB a (D.1 ci) q.2.2 (D.2 ci) H (vp_V fs)) (hc : cl[ci]? = some q) (k : Nat) (hk : k < q.2.2) (hlink : (Cond.fieldLink own index q.1 (q.2.1 k).2.1 (q.2.1 k).2.2.1).before args s = true) (hfirst : (q.2.1 k).1 = q.1) {v : Value} (hv : fs[k]? = some v) (hdg : decode cc pc = .ok (.getfield index, 3))
    (kk : W p l e R s m args below meth c H locs cells slots Q (F0 m (pc + 3) ls (v :: rest))) : W p l e R s m args below meth c H locs cells slots Q (F0 m pc ls (.ref a :: rest)) := by
  refine va_get (D := D) (cl := cl) (ws := [(a, .inr (ci, fs))]) (C := q.1) (T := q.2.1) (N := q.2.2) hexec hb hts hin hown hK ?_ 0 rfl hc k hk hlink (fun x h => by rw [hfirst] at h; exact h) hv hdg kk
  intro j x hx
  have hj : j < 1 := (List.getElem?_eq_some_iff.mp hx).1
  rw [show j = 0 by omega] at hx
  cases hx
  exact ⟨q, hc, hO⟩
theorem q_put (hexec : p.tables.exec = Jvm.exec) (hb : c.code = cc) {own : String} {q : vw_C} {ci index : Nat} {Ts : List Cond} (hts : ∀ w ∈ Ts, w.before args s = true) (hin : ∀ w ∈ u_ws q.1 q.2.1 q.2.2, w ∈ Ts) (ty0 : Nat → FieldType) (hty : ∀ k, k < q.2.2 → parseFieldDescriptor (q.2.1 k).2.2.1 = some (ty0 k)) (hnm : ∀ a, a < q.2.2 → ∀ b, b < q.2.2 → a ≠ b → (q.2.1 a).2.1 ≠ (q.2.1 b).2.1) (hown : s.vm.findClass own = some m.cls) (hK : va_K D cl tys s)
    {fs : List Value} (hO : t_OB a (D.1 ci) q.2.2 (D.2 ci) H (vp_V fs)) (hc : cl[ci]? = some q) (k : Nat) (hk : k < q.2.2) (hlink : (Cond.fieldLink own index q.1 (q.2.1 k).2.1 (q.2.1 k).2.2.1).before args s = true) (hfirst : (q.2.1 k).1 = q.1) (hfin : (q.2.1 k).2.2.2 = false ∨ (meth.name = "<init>" ∧ (q.2.1 k).1 = own)) {v : Value} (hn : narrow (ty0 k) v = v) (hfit : fits (ty0 k) v = true) (hl : k < fs.length)
    (hdg : decode cc pc = .ok (.putfield index, 3)) (kk : ∀ (H1 : Heap) (sl : Nat), H1.size = H.size → (∀ x : Nat, x ≠ a → H1[x]? = H[x]?) → t_OB a (D.1 ci) q.2.2 (D.2 ci) H1 (vp_V (fs.set k v)) → W p l e R s m args below meth c H1 (locs ++ [⟨a, sl⟩]) cells slots Q (F0 m (pc + 3) ls rest)) : W p l e R s m args below meth c H locs cells slots Q (F0 m pc ls (v :: .ref a :: rest)) := by
  have hap := va_apart (own := own) hts hin ty0 hty hnm hK hc
  obtain ⟨cell, q1, q2, q3, q4⟩ := hO
  obtain ⟨hS, hfc, kC, hkC, hkind⟩ := hK.1 ci _ hc
  obtain ⟨cf, kf, fi, f, hi, hsl⟩ := hS k hk
  have hlay := hts _ (hin _ (u_in_lay hk))
  have hst := (u_facts hfc hkC (u_lays hts hin hk) hi).1
  have hi2 : s.fieldFound? q.1 (q.2.1 k).2.1 (q.2.1 k).2.2.1 = some (cf, kf, fi, f) := by rw [← hfirst]; exact hi
  unfold u_lay at hlay
  cases hff : (q.2.1 k).2.2.2 with
  | false =>
    rw [if_neg (by rw [hff]; decide)] at hlay
    have h6 := u_store hfc hkC hkind hlay hi (hty k hk) hn hfit
    refine W.putK hexec hb (f := f) ⟨hown, hlink, ⟨_, _, _, hi2⟩, hst⟩ (by rw [q2]; exact h6) q1 q3 (by rw [hsl]; exact k2_hasslot (q4 k hk)) rfl rfl hdg fun H' e1 e2 e3 => ?_
    rw [hsl] at e1 ⊢
    exact kk H' _ e2 e3 (t_OB.to (V := updV (vp_V fs) k v) ⟨_, e1, q2, q3, t_set q4 hap hk v⟩ (fun j _ => vp_updV_set hl v j))
  | true =>
    obtain ⟨hin2, hdecl⟩ := hfin.resolve_left (by rw [hff]; decide)
    rw [if_pos hff] at hlay
    have hcf : m.cls = cf := by
      obtain ⟨_, _, c', _, _, _, -, -, hf', -, -, -, hown2, -⟩ := Cond.laysFinal_spec hlay
      have e1 : c' = cf := by have := hi.symm.trans hf'; simp at this; exact this.1.symm
      rw [hdecl] at hown2
      rw [← e1]; exact Option.some.inj (hown.symm.trans hown2)
    have h6 := u_fits hfc hkC hkind (Or.inr hlay) hi (hty k hk) hn hfit
    refine W.putFinK hexec hb hown hlink hi2 hst hcf hin2 (by rw [q2]; exact h6) q1 q3 (by rw [hsl]; exact k2_hasslot (q4 k hk)) rfl rfl hdg fun H' e1 e2 e3 => ?_
    rw [hsl] at e1 ⊢
    exact kk H' _ e2 e3 (t_OB.to (V := updV (vp_V fs) k v) ⟨_, e1, q2, q3, t_set q4 hap hk v⟩ (fun j _ => vp_updV_set hl v j))
/-- a read out of a row of ints, bytes, truths, signs -/
theorem q_ld (hexec : p.tables.exec = Jvm.exec) (hb : c.code = cc) {ty : FieldType} {cA : ClassId} (hA : ArrOfT s cA ty) {n : Nat} {f : Nat → Int32} (ha : H[a]? = some (vp_cell cA (n, .inl f))) {i : Int32} (hin : vp_in i n) {ig : Instr} (hdg : decode cc pc = .ok (ig, 1)) (hig : (ty = .int ∧ ig = .iaload) ∨ (ty = .byte ∧ ig = .baload) ∨ (ty = .boolean ∧ ig = .baload) ∨ (ty = .char ∧ ig = .caload))
    (kk : W p l e R s m args below meth c H locs cells slots Q (F0 m (pc + 1) ls (.int (f i.toNatClampNeg) :: rest))) : W p l e R s m args below meth c H locs cells slots Q (F0 m pc ls (.int i :: .ref a :: rest)) := by
  have hlt : i.toNatClampNeg < n := Nat.not_le.mp fun q => hin (Or.inr q)
  rcases hig with ⟨rfl, rfl⟩ | ⟨rfl, rfl⟩ | ⟨rfl, rfl⟩ | ⟨rfl, rfl⟩
  · exact W.iald (v := .int (f i.toNatClampNeg)) hexec hb ha (hA n (fun j => .int (f j))) (fun q => by cases q) (by show ¬ (i < 0 ∨ (arrV _ _ _).slots.size ≤ _); rw [arrV_size]; exact hin) (by show (arrV _ _ _).slots[_]? = _; rw [arrV_read _ _ hlt]) rfl rfl hdg kk
  · exact W.bald (v := .int (f i.toNatClampNeg)) hexec hb ha (hA n (fun j => .int (f j))) (fun q => by cases q) (by show ¬ (i < 0 ∨ (arrV _ _ _).slots.size ≤ _); rw [arrV_size]; exact hin) (by show (arrV _ _ _).slots[_]? = _; rw [arrV_read _ _ hlt]) rfl rfl hdg kk
  · exact W.zald (v := .int (f i.toNatClampNeg)) hexec hb ha (hA n (fun j => .int (f j))) (fun q => by cases q) (by show ¬ (i < 0 ∨ (arrV _ _ _).slots.size ≤ _); rw [arrV_size]; exact hin) (by show (arrV _ _ _).slots[_]? = _; rw [arrV_read _ _ hlt]) rfl rfl hdg kk
  · exact W.cald (v := .int (f i.toNatClampNeg)) hexec hb ha (hA n (fun j => .int (f j))) (fun q => by cases q) (by show ¬ (i < 0 ∨ (arrV _ _ _).slots.size ≤ _); rw [arrV_size]; exact hin) (by show (arrV _ _ _).slots[_]? = _; rw [arrV_read _ _ hlt]) rfl rfl hdg kk
theorem q_updC {cA : ClassId} {n : Nat} {f : Nat → Int32} (j : Nat) (x : Int32) : (vp_cell cA (n, .inl f)).setSlot j (.int x) = vp_cell cA (n, .inl (upd f j x)) := by
  rw [vp_cell_i, vp_cell_i, arrV_store]
  congr 1
  funext q
  by_cases hq : q = j
  · subst hq
    simp [updV, upd]
  · simp [updV, upd, hq]
noncomputable def q_keep (ty : FieldType) (x : Int32) : Int32 := match ty with
  | .int => x
  | t => vp_nar t x
/-- a store into such a row -/
theorem q_st (hexec : p.tables.exec = Jvm.exec) (hb : c.code = cc) {ty : FieldType} {cA : ClassId} (hA : ArrOfT s cA ty) {n : Nat} {f : Nat → Int32} (ha : H[a]? = some (vp_cell cA (n, .inl f))) {i x : Int32} (hin : vp_in i n) {ig : Instr} (hdg : decode cc pc = .ok (ig, 1)) (hig : (ty = .int ∧ ig = .iastore) ∨ (ty = .byte ∧ ig = .bastore) ∨ (ty = .boolean ∧ ig = .bastore) ∨ (ty = .char ∧ ig = .castore))
    (kk : ∀ (H1 : Heap), H1.size = H.size → (∀ q : Nat, q ≠ a → H1[q]? = H[q]?) → H1[a]? = some (vp_cell cA (n, .inl (upd f i.toNatClampNeg (q_keep ty x)))) → W p l e R s m args below meth c H1 (locs ++ [⟨a, i.toNatClampNeg⟩]) cells slots Q (F0 m (pc + 1) ls rest)) : W p l e R s m args below meth c H locs cells slots Q (F0 m pc ls (.int x :: .int i :: .ref a :: rest)) := by
  rcases hig with ⟨rfl, rfl⟩ | ⟨rfl, rfl⟩ | ⟨rfl, rfl⟩ | ⟨rfl, rfl⟩
  · refine W.iast hexec hb ha (hA n (fun j => .int (f j))) (fun q => by cases q) (by show ¬ (i < 0 ∨ (arrV _ _ _).slots.size ≤ _); rw [arrV_size]; exact hin) rfl rfl hdg fun H1 e z oq => ?_
    exact kk H1 z oq (by rw [e]; exact congrArg some (q_updC _ _))
  · refine W.bast hexec hb ha (hA n (fun j => .int (f j))) (fun q => by cases q) (by show ¬ (i < 0 ∨ (arrV _ _ _).slots.size ≤ _); rw [arrV_size]; exact hin) rfl rfl hdg fun H1 e z oq => ?_
    exact kk H1 z oq (by rw [e]; exact congrArg some (q_updC _ _))
  · refine W.zast hexec hb ha (hA n (fun j => .int (f j))) (fun q => by cases q) (by show ¬ (i < 0 ∨ (arrV _ _ _).slots.size ≤ _); rw [arrV_size]; exact hin) rfl rfl hdg fun H1 e z oq => ?_
    exact kk H1 z oq (by rw [e]; exact congrArg some (q_updC _ _))
  · refine W.cast hexec hb ha (hA n (fun j => .int (f j))) (fun q => by cases q) (by show ¬ (i < 0 ∨ (arrV _ _ _).slots.size ≤ _); rw [arrV_size]; exact hin) rfl rfl hdg fun H1 e z oq => ?_
    exact kk H1 z oq (by rw [e]; exact congrArg some (q_updC _ _))
theorem q_ald (hexec : p.tables.exec = Jvm.exec) (hb : c.code = cc) {cA : ClassId} (hA : ArrOfT s cA (.array .int)) {n : Nat} {f : Nat → Option Nat} (ha : H[a]? = some (vp_cell cA (n, .inr (.inr (.inr (.inr f)))))) {i : Int32} (hin : vp_in i n) (hdg : decode cc pc = .ok (.aaload, 1))
    (kk : W p l e R s m args below meth c H locs cells slots Q (F0 m (pc + 1) ls (va_rf (f i.toNatClampNeg) :: rest))) : W p l e R s m args below meth c H locs cells slots Q (F0 m pc ls (.int i :: .ref a :: rest)) := by
  have hlt : i.toNatClampNeg < n := Nat.not_le.mp fun q => hin (Or.inr q)
  exact W.aald (v := va_rf (f i.toNatClampNeg)) (ty := .array .int) hexec hb ha (hA n (fun j => va_rf (f j))) rfl (fun q => by cases q) (by show ¬ (i < 0 ∨ (arrV _ _ _).slots.size ≤ _); rw [arrV_size]; exact hin) (by show (arrV _ _ _).slots[_]? = _; rw [arrV_read _ _ hlt]) rfl rfl hdg kk
theorem q_copy (hexec : p.tables.exec = Jvm.exec) (hb : c.code = cc) (hml : c.maxLocals = ls.size) {own : String} {index : Nat} (hown : s.vm.findClass own = some m.cls) (hlink : (Cond.methodLink own index arraycopyName).before args s = true) (hnat : (Cond.native arraycopyName).before args s = true) (hstat : (Cond.static arraycopyName).before args s = true) (hini : (Cond.initialized "java/lang/System").before args s = true)
    {a0 : Nat} {c0 : ClassId} (hA0 : ArrOfT s c0 .int) {n0 n1 : Nat} {f g : Nat → Int32} (ha0 : H[a0]? = some (vp_cell c0 (n0, .inl f))) (ha1 : H[a]? = some (vp_cell c0 (n1, .inl g)))
    {sp dp n : Int32} (h1 : ¬ sp < 0) (h2 : ¬ dp < 0) (h3 : ¬ n < 0) (h4 : sp.toNatClampNeg + n.toNatClampNeg ≤ n0) (h5 : dp.toNatClampNeg + n.toNatClampNeg ≤ n1)
    (hframes : 1 ≤ R.frames) (hlocals : (rest.map fun v => v.category).sum + (nativeFrameWords "java/lang/System" "arraycopy" 5 + 11) ≤ R.locals) (hdg : decode cc pc = .ok (.invokestatic index, 3))
    (kk : ∀ (H1 : Heap) (L : List Loc), (∀ q ∈ L, q.base = a) → H1.size = H.size → (∀ q : Nat, q ≠ a → H1[q]? = H[q]?) → H1[a]? = some (vp_cell c0 (n1, .inl (va_cpy f g sp.toNatClampNeg dp.toNatClampNeg n.toNatClampNeg))) → W p l e R s m args below meth c H1 (locs ++ L) cells slots Q (F0 m (pc + 3) ls rest)) : W p l e R s m args below meth c H locs cells slots Q (F0 m pc ls (.int n :: .int dp :: .ref a :: .int sp :: .ref a0 :: rest)) := by
  have nn : ∀ z : Int32, ¬ z < 0 → z.toInt = (z.toNatClampNeg : Int) := by
    intro z hz
    have hz0 : (0 : Int) ≤ z.toInt := by
      have := Int32.not_lt.mp hz
      simpa using Int32.le_iff_toInt_le.mp this
    show z.toInt = ((z.toInt.toNat : Nat) : Int)
    omega
  intro T hT X
  obtain ⟨-, k0, hk0, cm0, hkk0⟩ := hA0 n0 (fun j => .int (f j))
  obtain ⟨-, k1, hk1, cm1, hkk1⟩ := hA0 n1 (fun j => .int (g j))
  obtain ⟨vm', X', step⟩ := X.arraycopy hexec hown hlink hnat hstat hini (src := a0) (dst := a) (cs := vp_cell c0 (n0, .inl f)) (cd := vp_cell c0 (n1, .inl g)) (srcPos := sp) (destPos := dp) (n := n) (by rw [hT]; exact ha0) (by rw [hT]; exact ha1)
    (fun _ h => by cases h) (fun _ h => by cases h) (fun h => by cases h) (fun h => by cases h) hk0 hk1 hkk0 hkk1 (by simp [refKind]) h1 h2 h3
    (by rw [nn sp h1, nn n h3]; show ¬ _ > ((arrV c0 n0 (fun j => .int (f j))).slots.size : Int); rw [arrV_size]; omega)
    (by rw [nn dp h2, nn n h3]; show ¬ _ > ((arrV c0 n1 (fun j => .int (g j))).slots.size : Int); rw [arrV_size]; omega)
    (fun vm₁ _ i hi => by
      have e : (vp_cell c0 (n0, .inl f)).slots.getD (sp.toNatClampNeg + i) .null = .int (f (sp.toNatClampNeg + i)) := by
        show (arrV c0 n0 (fun j => .int (f j))).slots.getD _ _ = _
        rw [Array.getD_eq_getD_getElem?, arrV_read _ _ (by omega)]
        rfl
      refine ⟨?_, ?_⟩
      · rw [e]
        rfl
      · rw [e]
        exact trivial)
    (g := F0 m pc ls (.int n :: .int dp :: .ref a :: .int sp :: .ref a0 :: rest)) rfl (by rw [hml]) (rest := rest) rfl (by rw [hb]; exact hdg) hframes (by show 2 * 0 + _ + _ ≤ _; omega)
  have e1 : copied (vp_cell c0 (n0, .inl f)) (vp_cell c0 (n1, .inl g)) sp dp n = vp_cell c0 (n1, .inl (va_cpy f g sp.toNatClampNeg dp.toNatClampNeg n.toNatClampNeg)) := va_copied (fun z => .int z) c0 c0 f g h4
  rw [e1] at X' step
  have hl : a < H.size := (Array.getElem?_eq_some_iff.mp ha1).1
  have hheap : ((T.setVm vm').setCell a (vp_cell c0 (n1, .inl (va_cpy f g sp.toNatClampNeg dp.toNatClampNeg n.toNatClampNeg)))).heap = H.setIfInBounds a (vp_cell c0 (n1, .inl (va_cpy f g sp.toNatClampNeg dp.toNatClampNeg n.toNatClampNeg))) := by rw [← hT]; rfl
  have oq : ∀ q : Nat, q ≠ a → (H.setIfInBounds a (vp_cell c0 (n1, .inl (va_cpy f g sp.toNatClampNeg dp.toNatClampNeg n.toNatClampNeg))))[q]? = H[q]? := fun q hq => by simp [Array.getElem?_setIfInBounds, Ne.symm hq]
  obtain ⟨t, a1, b1⟩ := kk _ _ (fun q hq => by
      obtain ⟨z, -, hz⟩ := List.mem_map.mp hq
      rw [← hz]) (by simp) oq (by simp [Array.getElem?_setIfInBounds, hl]) _ hheap X'
  exact ⟨t, step t a1, b1⟩
theorem q_mna {own : String} {index : Nat} (hexec : p.tables.exec = Jvm.exec) (hb : c.code = cc) {cA cy : ClassId} (hown : s.vm.findClass own = some m.cls) (hclink : (Cond.classLink own index "[[I").before args s = true) (hover : va_AOA .int s) (harr : (Cond.arrayClass .int).before args s = true) (hcy : s.vm.findClass ("[" ++ (FieldType.int).toString) = some cy) (hcA : s.vm.findClass ("[" ++ (FieldType.array .int).toString) = some cA)
    {n k : Int32} {N K : Nat} (hn : ¬ n < 0) (hk : ¬ k < 0) (hN : n.toNatClampNeg = N) (hM : k.toNatClampNeg = K) (hb1 : N ≤ 65536) (hb2 : K ≤ 65536) (hcells : cells + (1 + N) ≤ R.cells) (hslots : slots + (N + N * K) ≤ R.slots) (hdg : decode cc pc = .ok (.multianewarray index 2, 4))
    (kk : ∀ (H1 : Heap), H1.size = H.size + 1 + N → (∀ q : Nat, q < H.size → H1[q]? = H[q]?) → H1[H.size]? = some (vp_cell cA (N, .inr (.inr (.inr (.inr (fun i => if i < N then some (H.size + 1 + i) else none)))))) → (∀ i : Nat, i < N → H1[H.size + 1 + i]? = some (vp_cell cy (K, .inl (fun _ => 0)))) →
      W p l e R s m args below meth c H1 locs (cells + 1 + N) (slots + N + N * K) Q (F0 m (pc + 4) ls (.ref H.size :: rest))) : W p l e R s m args below meth c H locs cells slots Q (F0 m pc ls (.int k :: .int n :: rest)) := by
  subst hN
  subst hM
  intro T hT X
  have c4 : componentBytes .int = 4 := rfl
  obtain ⟨vm₁, cA', cy', -, fA, fC, -, -, X', step⟩ := X.multianewarray2F hexec hown (show (Cond.classLink own index ("[" ++ (FieldType.array .int).toString)).before args s = true from hclink) (va_AOA.use hover) harr (g := F0 m pc ls (.int k :: .int n :: rest)) rfl (by rw [hb]; exact hdg) rfl hn hk (by omega) (by rw [c4]; omega) (by omega) rfl rfl hcells hslots
  cases Option.some.inj (fA.symm.trans hcA)
  have fC2 : s.vm.findClass ("[" ++ (FieldType.int).toString) = some cy' := fC
  cases Option.some.inj (fC2.symm.trans hcy)
  have hTh : (T.setVm vm₁).heap = H := hT
  obtain ⟨F, hF⟩ : ∃ F, F = Jvm.Free.Multi.fill (T.setVm vm₁) cA cy n.toNatClampNeg k.toNatClampNeg (defaultValue .int) n.toNatClampNeg := ⟨_, rfl⟩
  obtain ⟨f1, f2, f3, f4⟩ := Jvm.Free.Multi.fill_facts (T.setVm vm₁) cA cy n.toNatClampNeg k.toNatClampNeg (defaultValue .int) n.toNatClampNeg
  rw [← hF, hTh] at f1 f2
  have hold : ∀ q : Nat, q < H.size → F.heap[q]? = H[q]? := fun q hq => by
    have := Jvm.Free.Multi.fill_old (T.setVm vm₁) cA cy n.toNatClampNeg k.toNatClampNeg (defaultValue .int) (a := q) (by rw [hTh]; exact hq) n.toNatClampNeg
    rw [← hF, hTh] at this
    exact this
  have hrow : ∀ j : Nat, j < n.toNatClampNeg → F.heap[H.size + 1 + j]? = some (Jvm.Free.Multi.innerC cy k.toNatClampNeg (defaultValue .int)) := fun j hj => by
    have := Jvm.Free.Multi.fill_inner (T.setVm vm₁) cA cy n.toNatClampNeg k.toNatClampNeg (defaultValue .int) n.toNatClampNeg j hj
    rw [← hF, hTh] at this
    exact this
  have hz : Jvm.Free.Multi.innerC cy k.toNatClampNeg (defaultValue .int) = vp_cell cy (k.toNatClampNeg, .inl (fun _ => 0)) := by
    rw [vp_cell_i]
    exact arrV_new _ _ _
  have hout : Jvm.Free.Multi.outerC cA n.toNatClampNeg H.size n.toNatClampNeg = vp_cell cA (n.toNatClampNeg, .inr (.inr (.inr (.inr (fun i => if i < n.toNatClampNeg then some (H.size + 1 + i) else none))))) := by
    rw [vp_cell_q]
    exact vr_outer cA n.toNatClampNeg H.size n.toNatClampNeg
  rw [hout] at f2
  rw [← hF] at X' step
  obtain ⟨t, a1, b1⟩ := kk F.heap (by rw [f1]) hold f2 (fun i hi => by rw [hrow i hi, hz]) F rfl X'
  refine ⟨t, step t ?_, b1⟩
  have e : T.heap.size = H.size := by rw [hT]
  rw [e]
  exact a1
end Rows
end
-- 15.step.lean.txt
section
/-! Each step of the second machine is a step of the true one. -/
noncomputable def c_lenI : Instr → Option Nat
  | .iconst _ => some 1
  | .bipush _ => some 2
  | .sipush _ => some 3
  | .ldc _ => some 2
  | .ldc_w _ => some 3
  | .iload_n _ => some 1
  | .aload_n _ => some 1
  | .istore_n _ => some 1
  | .astore_n _ => some 1
  | .iload _ => some 2
  | .aload _ => some 2
  | .istore _ => some 2
  | .astore _ => some 2
  | .iinc _ _ => some 3
  | .ifCond _ _ => some 3
  | .if_icmp _ _ => some 3
  | .goto _ => some 3
  | .tableswitch _ _ _ _ => none
  | .lookupswitch _ _ => none
  | .ldc2_w _ => none
  | .lload _ => none
  | .lstore _ => none
  | .ifnull _ => none
  | .ifnonnull _ => none
  | .getfield _ => some 3
  | .putfield _ => some 3
  | .new _ => some 3
  | .newarray _ => some 2
  | .multianewarray _ _ => some 4
  | .invokestatic _ => some 3
  | .invokevirtual _ => some 3
  | .invokespecial _ => some 3
  | _ => some 1
/-- what rows are made -/
noncomputable def c_naI : Instr → Bool
  | .newarray .float => false
  | .newarray .double => false
  | .newarray .short => false
  | _ => true
noncomputable def c_len (k : Nat) : Bool := (List.range (mN k)).all (fun pc => match ins k pc with
  | none => true
  | some q => c_naI q.1 && (match c_lenI q.1 with
    | none => true
    | some n => Nat.beq q.2.1 (pc + n)))
set_option maxRecDepth 1000000 in
theorem c_len0 : ∀ k, k < 60 → c_len (0 + k) = true := by decide +kernel
set_option maxRecDepth 1000000 in
theorem c_len1 : ∀ k, k < 60 → c_len (60 + k) = true := by decide +kernel
set_option maxRecDepth 1000000 in
theorem c_len2 : ∀ k, k < 60 → c_len (120 + k) = true := by decide +kernel
set_option maxRecDepth 1000000 in
theorem c_len3 : ∀ k, k < 60 → c_len (180 + k) = true := by decide +kernel
set_option maxRecDepth 1000000 in
theorem c_len4 : ∀ k, k < 60 → c_len (240 + k) = true := by decide +kernel
set_option maxRecDepth 1000000 in
theorem c_len5 : ∀ k, k < 4 → c_len (300 + k) = true := by decide +kernel
theorem c_lenA (k : Nat) (hk : k < 304) : c_len k = true := by
  by_cases h0 : k < 60
  · have := c_len0 (k - 0) (by omega); rwa [show 0 + (k - 0) = k by omega] at this
  by_cases h1 : k < 120
  · have := c_len1 (k - 60) (by omega); rwa [show 60 + (k - 60) = k by omega] at this
  by_cases h2 : k < 180
  · have := c_len2 (k - 120) (by omega); rwa [show 120 + (k - 120) = k by omega] at this
  by_cases h3 : k < 240
  · have := c_len3 (k - 180) (by omega); rwa [show 180 + (k - 180) = k by omega] at this
  by_cases h4 : k < 300
  · have := c_len4 (k - 240) (by omega); rwa [show 240 + (k - 240) = k by omega] at this
  by_cases h5 : k < 304
  · have := c_len5 (k - 300) (by omega); rwa [show 300 + (k - 300) = k by omega] at this
  omega
theorem q_blt {a b : Nat} (h : Nat.blt a b = true) : a < b := Nat.le_of_ble_eq_true h
theorem q_ins {k pc : Nat} {q : pR} (hi : ins k pc = some q) : k < 304 ∧ pc < mN k := by
  unfold ins at hi
  cases h1 : Nat.blt k nMth with
  | false => rw [h1] at hi; cases hi
  | true =>
    rw [h1] at hi
    cases h2 : Nat.blt pc (mth k).2.2.1 with
    | false => rw [h2] at hi; cases hi
    | true => exact ⟨q_blt h1, q_blt h2⟩
theorem q_rowI {k pc : Nat} {q : pR} (hi : ins k pc = some q) : pc < q.2.1 ∧ decode (mC k) pc = .ok (q.1, q.2.1 - pc) ∧ c_I k pc q = true ∧ (∀ n, c_lenI q.1 = some n → q.2.1 = pc + n) ∧ c_naI q.1 = true := by
  obtain ⟨hk, hp⟩ := q_ins hi
  have h2 := c_rows k hk pc hp
  simp only [c_row, hi, Bool.and_eq_true, decide_eq_true_eq] at h2
  have h3 := List.all_eq_true.mp (c_lenA k hk) pc (List.mem_range.mpr hp)
  simp only [hi, Bool.and_eq_true] at h3
  refine ⟨q_blt h2.1.1, h2.1.2, h2.2, fun n hn => ?_, h3.1⟩
  have h4 := h3.2
  simp only [hn] at h4
  exact Nat.eq_of_beq_eq_true h4
theorem q_dec {k pc n : Nat} {q : pR} (hi : ins k pc = some q) (hn : c_lenI q.1 = some n) : q.2.1 = pc + n ∧ decode (mC k) pc = .ok (q.1, n) := by
  obtain ⟨h1, h2, h3, h4, -⟩ := q_rowI hi
  have e := h4 n hn
  refine ⟨e, ?_⟩
  rw [h2, e]
  congr 2
  omega
theorem q_dec2 {k pc n : Nat} {q : pR} (hi : ins k pc = some q) (e : q.2.1 = pc + n) : decode (mC k) pc = .ok (q.1, n) := by
  obtain ⟨h1, h2, -⟩ := q_rowI hi
  rw [h2, e]
  congr 2
  omega
theorem q_meth {k : Nat} (hk : k < 303) (hp : c_plain k = true) : c_M k = true := by
  have h := c_all k hk
  simp only [c_meth, Bool.and_eq_true, Bool.or_eq_true] at h
  rcases h.1 with h1 | h1
  · rw [hp] at h1
    cases h1
  · exact h1
theorem s_in32S {z : Int} (h : s_in32 (z, z) = true) : (Int32.ofInt z).toInt = z := by
  simp only [s_in32, Bool.and_eq_true] at h
  have h1 : -2147483648 ≤ z := s_le_iff.mp h.1
  have h2 : z ≤ 2147483647 := s_le_iff.mp h.2
  exact Int32.toInt_ofInt_of_le (by omega) (by omega)
noncomputable def q_Ctx (p : Program) (R : Room) (s : State) (m : MethodId) (args : Array Value) (meth : Method) (c : Code) (dC : Nat → ClassId) (dI : Nat → Nat → Nat) (dA : FieldType → ClassId) (Hb : Heap) (k : Nat) : Prop :=
  p.tables.exec = Jvm.exec ∧ c.code = mC k ∧ c.maxLocals = mL k ∧ s.vm.findClass (mY k).cls = some m.cls ∧ (∀ w ∈ tb, w.before args s = true) ∧ q_K dC dI dA Hb s ∧ ((mY k).name = "<init>" → meth.name = "<init>") ∧ 8 ≤ R.frames ∧ 400 ≤ R.locals
noncomputable def q_Fr (dC : Nat → ClassId) (dI : Nat → Nat → Nat) (dA : FieldType → ClassId) (rs : List Int) (ad : Nat → Nat) (Hb H0 : Heap) (nL : Nat) (f : sG) (ls : Array Slot) (vs : List Value) (H : Heap) (locs : List Loc) : Prop :=
  q_Lo rs ad f.2.1 ls nL ∧ q_L rs ad f.2.2.1 vs ∧ q_E rs f.2.2.2.1 ∧ q_G dC dI dA rs ad Hb H0 f.2.2.2.1 f.2.2.2.2 H ∧ ∀ q ∈ locs, Hb.size ≤ q.base
section Step
variable {p : Program} {l : Launch} {e : Env} {R : Room} {s : State} {m : MethodId} {args : Array Value} {below : List Frame} {meth : Method} {c : Code} {H : Heap} {locs : List Loc} {cells slots : Nat} {Q : State → Prop}
variable {dC : Nat → ClassId} {dI : Nat → Nat → Nat} {dA : FieldType → ClassId} {rs : List Int} {ad : Nat → Nat} {Hb H0 : Heap} {k pc nx a1 a2 a3 : Nat} {z : Int} {lo : sL} {st : List sA} {E : sE} {h : sH} {ls : Array Slot} {vs : List Value} {l0 : List (Nat × Nat × sG)}
/-- what is to be shown behind a step -/
noncomputable abbrev q_KK (p : Program) (l : Launch) (e : Env) (R : Room) (s : State) (m : MethodId) (args : Array Value) (below : List Frame) (meth : Method) (c : Code) (cells slots : Nat) (Q : State → Prop) (dC : Nat → ClassId) (dI : Nat → Nat → Nat) (dA : FieldType → ClassId) (rs : List Int) (ad : Nat → Nat) (Hb H0 : Heap) (k : Nat) (l0 : List (Nat × Nat × sG)) : Prop :=
  ∀ q ∈ l0, ∀ (x : List Int) (ls : Array Slot) (vs : List Value) (H : Heap) (locs : List Loc), q_Fr dC dI dA (rs ++ x) ad Hb H0 (mL k) q.2.2 ls vs H locs → W p l e R s m args below meth c H locs (cells + q.1) (slots + q.2.1) Q (F0 m q.2.2.1 ls vs)
theorem q_goE {x : List Int} {st' : List sA} {lo' : sL} {E' : sE} {h' : sH} {ls' : Array Slot} {vs' : List Value} {H' : Heap} {locs' : List Loc} (hs : s_go nx lo' st' E' h' = some (.inl l0)) (kk : q_KK p l e R s m args below meth c cells slots Q dC dI dA rs ad Hb H0 k l0) (F' : q_Fr dC dI dA (rs ++ x) ad Hb H0 (mL k) (nx, lo', st', E', h') ls' vs' H' locs') : W p l e R s m args below meth c H' locs' cells slots Q (F0 m nx ls' vs') := by
  cases hs
  exact kk _ (List.mem_singleton.mpr rfl) x ls' vs' H' locs' F'
theorem q_go {st' : List sA} {lo' : sL} {E' : sE} {h' : sH} {ls' : Array Slot} {vs' : List Value} {H' : Heap} {locs' : List Loc} (hs : s_go nx lo' st' E' h' = some (.inl l0)) (kk : q_KK p l e R s m args below meth c cells slots Q dC dI dA rs ad Hb H0 k l0) (F' : q_Fr dC dI dA rs ad Hb H0 (mL k) (nx, lo', st', E', h') ls' vs' H' locs') : W p l e R s m args below meth c H' locs' cells slots Q (F0 m nx ls' vs') :=
  q_goE (x := []) hs kk (by rw [List.append_nil]; exact F')
theorem q_gox {st' : List sA} {X : sX} {y : Int32} {vs' : List Value} (hs : s_gox nx lo st' X h = some (.inl l0)) (kk : q_KK p l e R s m args below meth c cells slots Q dC dI dA rs ad Hb H0 k l0) (hR : q_R rs E X y) (hlo : q_Lo rs ad lo ls (mL k)) (hst : q_L rs ad st' vs') (hG : q_G dC dI dA rs ad Hb H0 E h H) (hlc : ∀ q ∈ locs, Hb.size ≤ q.base) : W p l e R s m args below meth c H locs cells slots Q (F0 m nx ls (.int y :: vs')) := by
  cases hs
  obtain ⟨x, h1, h2, h3⟩ := hR
  exact kk _ (List.mem_singleton.mpr rfl) x ls _ H locs ⟨hlo.mono x, ⟨_, _, rfl, ⟨_, rfl, h2⟩, hst.mono x⟩, h1, (hG.mono x).env h3, hlc⟩
theorem q_iconst {cz : Int} (C : q_Ctx p R s m args meth c dC dI dA Hb k) (hi : ins k pc = some (.iconst cz, nx, a1, a2, a3, z)) (hs : (bif s_in32 (cz, cz) then s_go nx lo (.inl (s_num cz) :: st) E h else none : Option sS) = some (.inl l0)) (F : q_Fr dC dI dA rs ad Hb H0 (mL k) (pc, lo, st, E, h) ls vs H locs) (kk : q_KK p l e R s m args below meth c cells slots Q dC dI dA rs ad Hb H0 k l0) : W p l e R s m args below meth c H locs cells slots Q (F0 m pc ls vs) := by
  obtain ⟨hx, hb, hml, hown, hts, hK, hnm, hRf, hRl⟩ := C
  obtain ⟨hlo, hst, hE, hG, hlc⟩ := F
  obtain ⟨en, hd⟩ := q_dec (n := 1) hi rfl
  subst en
  cases hc : s_in32 (cz, cz) with
  | false => rw [hc] at hs; cases hs
  | true =>
    rw [hc] at hs
    exact lv_iconst hx hb hd rfl (q_go hs kk ⟨hlo, ⟨_, _, rfl, ⟨_, rfl, by rw [s_in32S hc]; exact s_numS _⟩, hst⟩, hE, hG, hlc⟩)
theorem q_bipush {cz : Int} (C : q_Ctx p R s m args meth c dC dI dA Hb k) (hi : ins k pc = some (.bipush cz, nx, a1, a2, a3, z)) (hs : (s_go nx lo (.inl (s_num (Int8.ofInt cz).toInt32.toInt) :: st) E h : Option sS) = some (.inl l0)) (F : q_Fr dC dI dA rs ad Hb H0 (mL k) (pc, lo, st, E, h) ls vs H locs) (kk : q_KK p l e R s m args below meth c cells slots Q dC dI dA rs ad Hb H0 k l0) : W p l e R s m args below meth c H locs cells slots Q (F0 m pc ls vs) := by
  obtain ⟨hx, hb, hml, hown, hts, hK, hnm, hRf, hRl⟩ := C
  obtain ⟨hlo, hst, hE, hG, hlc⟩ := F
  obtain ⟨en, hd⟩ := q_dec (n := 2) hi rfl
  subst en
  exact lv_bipush hx hb hd rfl (q_go hs kk ⟨hlo, ⟨_, _, rfl, ⟨_, rfl, s_numS _⟩, hst⟩, hE, hG, hlc⟩)
theorem q_sipush {cz : Int} (C : q_Ctx p R s m args meth c dC dI dA Hb k) (hi : ins k pc = some (.sipush cz, nx, a1, a2, a3, z)) (hs : (s_go nx lo (.inl (s_num (Int16.ofInt cz).toInt32.toInt) :: st) E h : Option sS) = some (.inl l0)) (F : q_Fr dC dI dA rs ad Hb H0 (mL k) (pc, lo, st, E, h) ls vs H locs) (kk : q_KK p l e R s m args below meth c cells slots Q dC dI dA rs ad Hb H0 k l0) : W p l e R s m args below meth c H locs cells slots Q (F0 m pc ls vs) := by
  obtain ⟨hx, hb, hml, hown, hts, hK, hnm, hRf, hRl⟩ := C
  obtain ⟨hlo, hst, hE, hG, hlc⟩ := F
  obtain ⟨en, hd⟩ := q_dec (n := 3) hi rfl
  subst en
  exact lv_sipush hx hb hd rfl (q_go hs kk ⟨hlo, ⟨_, _, rfl, ⟨_, rfl, s_numS _⟩, hst⟩, hE, hG, hlc⟩)
theorem q_ldc {ci : Nat} (C : q_Ctx p R s m args meth c dC dI dA Hb k) (hi : ins k pc = some (.ldc ci, nx, a1, a2, a3, z)) (hs : (bif Nat.beq a1 0 && s_in32 (z, z) then s_go nx lo (.inl (s_num z) :: st) E h else none : Option sS) = some (.inl l0)) (F : q_Fr dC dI dA rs ad Hb H0 (mL k) (pc, lo, st, E, h) ls vs H locs) (kk : q_KK p l e R s m args below meth c cells slots Q dC dI dA rs ad Hb H0 k l0) : W p l e R s m args below meth c H locs cells slots Q (F0 m pc ls vs) := by
  obtain ⟨hx, hb, hml, hown, hts, hK, hnm, hRf, hRl⟩ := C
  obtain ⟨hlo, hst, hE, hG, hlc⟩ := F
  obtain ⟨en, hd⟩ := q_dec (n := 2) hi rfl
  have hc := (q_rowI hi).2.2.1
  subst en
  cases ha : Nat.beq a1 0 with
  | false => rw [ha] at hs; cases hs
  | true =>
    cases hz : s_in32 (z, z) with
    | false => rw [ha, hz] at hs; cases hs
    | true =>
      rw [ha, hz] at hs
      simp only [c_I, ha, Bool.not_true, Bool.false_or] at hc
      exact lv_ldc hx hb hown (hts _ (wAt_mem hc)) hd (q_go hs kk ⟨hlo, ⟨_, _, rfl, ⟨_, rfl, by rw [s_in32S hz]; exact s_numS _⟩, hst⟩, hE, hG, hlc⟩)
theorem q_ldcw {ci : Nat} (C : q_Ctx p R s m args meth c dC dI dA Hb k) (hi : ins k pc = some (.ldc_w ci, nx, a1, a2, a3, z)) (hs : (bif Nat.beq a1 0 && s_in32 (z, z) then s_go nx lo (.inl (s_num z) :: st) E h else none : Option sS) = some (.inl l0)) (F : q_Fr dC dI dA rs ad Hb H0 (mL k) (pc, lo, st, E, h) ls vs H locs) (kk : q_KK p l e R s m args below meth c cells slots Q dC dI dA rs ad Hb H0 k l0) : W p l e R s m args below meth c H locs cells slots Q (F0 m pc ls vs) := by
  obtain ⟨hx, hb, hml, hown, hts, hK, hnm, hRf, hRl⟩ := C
  obtain ⟨hlo, hst, hE, hG, hlc⟩ := F
  obtain ⟨en, hd⟩ := q_dec (n := 3) hi rfl
  have hc := (q_rowI hi).2.2.1
  subst en
  cases ha : Nat.beq a1 0 with
  | false => rw [ha] at hs; cases hs
  | true =>
    cases hz : s_in32 (z, z) with
    | false => rw [ha, hz] at hs; cases hs
    | true =>
      rw [ha, hz] at hs
      simp only [c_I, ha, Bool.not_true, Bool.false_or] at hc
      exact lv_ldcw hx hb hown (hts _ (wAt_mem hc)) hd (q_go hs kk ⟨hlo, ⟨_, _, rfl, ⟨_, rfl, by rw [s_in32S hz]; exact s_numS _⟩, hst⟩, hE, hG, hlc⟩)
theorem q_ldc2 {ci : Nat} (C : q_Ctx p R s m args meth c dC dI dA Hb k) (hi : ins k pc = some (.ldc2_w ci, nx, a1, a2, a3, z)) (hs : (bif Nat.beq a1 0 && Nat.beq nx (pc + 3) then s_go nx lo (.inr (.inr (.inl (some z))) :: st) E h else none : Option sS) = some (.inl l0)) (F : q_Fr dC dI dA rs ad Hb H0 (mL k) (pc, lo, st, E, h) ls vs H locs) (kk : q_KK p l e R s m args below meth c cells slots Q dC dI dA rs ad Hb H0 k l0) : W p l e R s m args below meth c H locs cells slots Q (F0 m pc ls vs) := by
  obtain ⟨hx, hb, hml, hown, hts, hK, hnm, hRf, hRl⟩ := C
  obtain ⟨hlo, hst, hE, hG, hlc⟩ := F
  have hc := (q_rowI hi).2.2.1
  cases ha : Nat.beq a1 0 with
  | false => rw [ha] at hs; cases hs
  | true =>
    cases hn : Nat.beq nx (pc + 3) with
    | false => rw [ha, hn] at hs; cases hs
    | true =>
      rw [ha, hn] at hs
      have en := Nat.eq_of_beq_eq_true hn
      subst en
      have hd := q_dec2 (n := 3) hi rfl
      simp only [c_I, ha, Bool.not_true, Bool.false_or] at hc
      exact lv_ldc2 hx hb hown (hts _ (wAt_mem hc)) hd (q_go hs kk ⟨hlo, ⟨_, _, rfl, ⟨_, rfl, fun q hq => by cases hq; rfl⟩, hst⟩, hE, hG, hlc⟩)
theorem q_lconst {cf : Fin 2} (C : q_Ctx p R s m args meth c dC dI dA Hb k) (hi : ins k pc = some (.lconst cf, nx, a1, a2, a3, z)) (hs : (s_go nx lo (.inr (.inr (.inl none)) :: st) E h : Option sS) = some (.inl l0)) (F : q_Fr dC dI dA rs ad Hb H0 (mL k) (pc, lo, st, E, h) ls vs H locs) (kk : q_KK p l e R s m args below meth c cells slots Q dC dI dA rs ad Hb H0 k l0) : W p l e R s m args below meth c H locs cells slots Q (F0 m pc ls vs) := by
  obtain ⟨hx, hb, hml, hown, hts, hK, hnm, hRf, hRl⟩ := C
  obtain ⟨hlo, hst, hE, hG, hlc⟩ := F
  obtain ⟨en, hd⟩ := q_dec (n := 1) hi rfl
  subst en
  exact lv_lconst hx hb hd rfl (q_go hs kk ⟨hlo, ⟨_, _, rfl, ⟨_, rfl, fun q hq => by cases hq⟩, hst⟩, hE, hG, hlc⟩)
theorem q_iload_n {ci : Fin 4} (C : q_Ctx p R s m args meth c dC dI dA Hb k) (hi : ins k pc = some (.iload_n ci, nx, a1, a2, a3, z)) (hs : (s_gets lo ci.val 0 nx st E h : Option sS) = some (.inl l0)) (F : q_Fr dC dI dA rs ad Hb H0 (mL k) (pc, lo, st, E, h) ls vs H locs) (kk : q_KK p l e R s m args below meth c cells slots Q dC dI dA rs ad Hb H0 k l0) : W p l e R s m args below meth c H locs cells slots Q (F0 m pc ls vs) := by
  obtain ⟨hx, hb, hml, hown, hts, hK, hnm, hRf, hRl⟩ := C
  obtain ⟨hlo, hst, hE, hG, hlc⟩ := F
  obtain ⟨en, hd⟩ := q_dec (n := 1) hi rfl
  subst en
  unfold s_gets at hs
  split at hs
  · rename_i v hg
    simp only [Nat.beq, cond_true, cond_false] at hs
    obtain ⟨w, hw, y, rfl, hy⟩ := hlo.get hg
    exact lv_iload_n hx hb hd rfl hw (q_go hs kk ⟨hlo, ⟨_, _, rfl, ⟨y, rfl, hy⟩, hst⟩, hE, hG, hlc⟩)
  · rename_i v hg
    simp only [Nat.beq, cond_true, cond_false] at hs
    cases hs
  · rename_i v hg
    simp only [Nat.beq, cond_true, cond_false] at hs
    cases hs
  · cases hs
theorem q_iload {ci : Nat} (C : q_Ctx p R s m args meth c dC dI dA Hb k) (hi : ins k pc = some (.iload ci, nx, a1, a2, a3, z)) (hs : (s_gets lo ci 0 nx st E h : Option sS) = some (.inl l0)) (F : q_Fr dC dI dA rs ad Hb H0 (mL k) (pc, lo, st, E, h) ls vs H locs) (kk : q_KK p l e R s m args below meth c cells slots Q dC dI dA rs ad Hb H0 k l0) : W p l e R s m args below meth c H locs cells slots Q (F0 m pc ls vs) := by
  obtain ⟨hx, hb, hml, hown, hts, hK, hnm, hRf, hRl⟩ := C
  obtain ⟨hlo, hst, hE, hG, hlc⟩ := F
  obtain ⟨en, hd⟩ := q_dec (n := 2) hi rfl
  subst en
  unfold s_gets at hs
  split at hs
  · rename_i v hg
    simp only [Nat.beq, cond_true, cond_false] at hs
    obtain ⟨w, hw, y, rfl, hy⟩ := hlo.get hg
    exact lv_iload hx hb hd hw (q_go hs kk ⟨hlo, ⟨_, _, rfl, ⟨y, rfl, hy⟩, hst⟩, hE, hG, hlc⟩)
  · rename_i v hg
    simp only [Nat.beq, cond_true, cond_false] at hs
    cases hs
  · rename_i v hg
    simp only [Nat.beq, cond_true, cond_false] at hs
    cases hs
  · cases hs
theorem q_aload_n {ci : Fin 4} (C : q_Ctx p R s m args meth c dC dI dA Hb k) (hi : ins k pc = some (.aload_n ci, nx, a1, a2, a3, z)) (hs : (s_gets lo ci.val 1 nx st E h : Option sS) = some (.inl l0)) (F : q_Fr dC dI dA rs ad Hb H0 (mL k) (pc, lo, st, E, h) ls vs H locs) (kk : q_KK p l e R s m args below meth c cells slots Q dC dI dA rs ad Hb H0 k l0) : W p l e R s m args below meth c H locs cells slots Q (F0 m pc ls vs) := by
  obtain ⟨hx, hb, hml, hown, hts, hK, hnm, hRf, hRl⟩ := C
  obtain ⟨hlo, hst, hE, hG, hlc⟩ := F
  obtain ⟨en, hd⟩ := q_dec (n := 1) hi rfl
  subst en
  unfold s_gets at hs
  split at hs
  · rename_i v hg
    simp only [Nat.beq, cond_true, cond_false] at hs
    cases hs
  · rename_i v hg
    simp only [Nat.beq, cond_true, cond_false] at hs
    obtain ⟨w, hw, hy⟩ := hlo.get hg
    have hy2 : w = q_rf ad _ := hy
    subst hy2
    rcases v with _ | o
    · exact lv_aload_nN hx hb hd rfl hw (q_go hs kk ⟨hlo, ⟨_, _, rfl, rfl, hst⟩, hE, hG, hlc⟩)
    · exact lv_aload_n hx hb hd rfl hw (q_go hs kk ⟨hlo, ⟨_, _, rfl, rfl, hst⟩, hE, hG, hlc⟩)
  · rename_i v hg
    simp only [Nat.beq, cond_true, cond_false] at hs
    cases hs
  · cases hs
theorem q_aload {ci : Nat} (C : q_Ctx p R s m args meth c dC dI dA Hb k) (hi : ins k pc = some (.aload ci, nx, a1, a2, a3, z)) (hs : (s_gets lo ci 1 nx st E h : Option sS) = some (.inl l0)) (F : q_Fr dC dI dA rs ad Hb H0 (mL k) (pc, lo, st, E, h) ls vs H locs) (kk : q_KK p l e R s m args below meth c cells slots Q dC dI dA rs ad Hb H0 k l0) : W p l e R s m args below meth c H locs cells slots Q (F0 m pc ls vs) := by
  obtain ⟨hx, hb, hml, hown, hts, hK, hnm, hRf, hRl⟩ := C
  obtain ⟨hlo, hst, hE, hG, hlc⟩ := F
  obtain ⟨en, hd⟩ := q_dec (n := 2) hi rfl
  subst en
  unfold s_gets at hs
  split at hs
  · rename_i v hg
    simp only [Nat.beq, cond_true, cond_false] at hs
    cases hs
  · rename_i v hg
    simp only [Nat.beq, cond_true, cond_false] at hs
    obtain ⟨w, hw, hy⟩ := hlo.get hg
    have hy2 : w = q_rf ad _ := hy
    subst hy2
    rcases v with _ | o
    · exact lv_aloadN hx hb hd hw (q_go hs kk ⟨hlo, ⟨_, _, rfl, rfl, hst⟩, hE, hG, hlc⟩)
    · exact lv_aload hx hb hd hw (q_go hs kk ⟨hlo, ⟨_, _, rfl, rfl, hst⟩, hE, hG, hlc⟩)
  · rename_i v hg
    simp only [Nat.beq, cond_true, cond_false] at hs
    cases hs
  · cases hs
theorem q_lload_n {ci : Fin 4} (C : q_Ctx p R s m args meth c dC dI dA Hb k) (hi : ins k pc = some (.lload_n ci, nx, a1, a2, a3, z)) (hs : (s_gets lo ci.val 2 nx st E h : Option sS) = some (.inl l0)) (F : q_Fr dC dI dA rs ad Hb H0 (mL k) (pc, lo, st, E, h) ls vs H locs) (kk : q_KK p l e R s m args below meth c cells slots Q dC dI dA rs ad Hb H0 k l0) : W p l e R s m args below meth c H locs cells slots Q (F0 m pc ls vs) := by
  obtain ⟨hx, hb, hml, hown, hts, hK, hnm, hRf, hRl⟩ := C
  obtain ⟨hlo, hst, hE, hG, hlc⟩ := F
  obtain ⟨en, hd⟩ := q_dec (n := 1) hi rfl
  subst en
  unfold s_gets at hs
  split at hs
  · rename_i v hg
    simp only [Nat.beq, cond_true, cond_false] at hs
    cases hs
  · rename_i v hg
    simp only [Nat.beq, cond_true, cond_false] at hs
    cases hs
  · rename_i v hg
    simp only [Nat.beq, cond_true, cond_false] at hs
    obtain ⟨w, hw, y, rfl, hy⟩ := hlo.get hg
    exact lv_lload_n hx hb hd rfl hw (q_go hs kk ⟨hlo, ⟨_, _, rfl, ⟨y, rfl, hy⟩, hst⟩, hE, hG, hlc⟩)
  · cases hs
theorem q_lload {ci : Nat} (C : q_Ctx p R s m args meth c dC dI dA Hb k) (hi : ins k pc = some (.lload ci, nx, a1, a2, a3, z)) (hs : (bif Nat.beq nx (pc + 2) then s_gets lo ci 2 nx st E h else none : Option sS) = some (.inl l0)) (F : q_Fr dC dI dA rs ad Hb H0 (mL k) (pc, lo, st, E, h) ls vs H locs) (kk : q_KK p l e R s m args below meth c cells slots Q dC dI dA rs ad Hb H0 k l0) : W p l e R s m args below meth c H locs cells slots Q (F0 m pc ls vs) := by
  obtain ⟨hx, hb, hml, hown, hts, hK, hnm, hRf, hRl⟩ := C
  obtain ⟨hlo, hst, hE, hG, hlc⟩ := F
  cases hn : Nat.beq nx (pc + 2) with
  | false => rw [hn] at hs; cases hs
  | true =>
  have en := Nat.eq_of_beq_eq_true hn
  rw [hn] at hs
  subst en
  have hd := q_dec2 (n := 2) hi rfl
  simp only [cond_true] at hs
  unfold s_gets at hs
  split at hs
  · rename_i v hg
    simp only [Nat.beq, cond_true, cond_false] at hs
    cases hs
  · rename_i v hg
    simp only [Nat.beq, cond_true, cond_false] at hs
    cases hs
  · rename_i v hg
    simp only [Nat.beq, cond_true, cond_false] at hs
    obtain ⟨w, hw, y, rfl, hy⟩ := hlo.get hg
    exact lv_lload hx hb hd hw (q_go hs kk ⟨hlo, ⟨_, _, rfl, ⟨y, rfl, hy⟩, hst⟩, hE, hG, hlc⟩)
  · cases hs
theorem q_istore_n {ci : Fin 4} (C : q_Ctx p R s m args meth c dC dI dA Hb k) (hi : ins k pc = some (.istore_n ci, nx, a1, a2, a3, z)) (hs : (s_puts lo ci.val 0 nx (mL k) st E h : Option sS) = some (.inl l0)) (F : q_Fr dC dI dA rs ad Hb H0 (mL k) (pc, lo, st, E, h) ls vs H locs) (kk : q_KK p l e R s m args below meth c cells slots Q dC dI dA rs ad Hb H0 k l0) : W p l e R s m args below meth c H locs cells slots Q (F0 m pc ls vs) := by
  obtain ⟨hx, hb, hml, hown, hts, hK, hnm, hRf, hRl⟩ := C
  obtain ⟨hlo, hst, hE, hG, hlc⟩ := F
  obtain ⟨en, hd⟩ := q_dec (n := 1) hi rfl
  subst en
  unfold s_puts at hs
  split at hs
  · rename_i v rr
    simp only [Nat.beq, Bool.true_and, Bool.false_and, cond_false] at hs
    cases hn0 : Nat.blt (ci.val) (mL k) with
    | false => rw [hn0] at hs; cases hs
    | true =>
      have hn : ci.val < mL k := q_blt hn0
      rw [hn0] at hs
      obtain ⟨w, vs', rfl, ⟨y, rfl, hy⟩, hst'⟩ := hst
      exact lv_istore_n hx hb hd rfl hlo.has hn rfl (fun ls' h' => q_go hs kk ⟨hlo.put ⟨y, rfl, hy⟩ h', hst', hE, hG, hlc⟩)
  · rename_i v rr
    simp only [Nat.beq, Bool.true_and, Bool.false_and, cond_false] at hs
    cases hs
  · rename_i v rr
    simp only [Nat.beq, Bool.true_and, Bool.false_and, cond_false] at hs
    cases hs
  · cases hs
theorem q_istore {ci : Nat} (C : q_Ctx p R s m args meth c dC dI dA Hb k) (hi : ins k pc = some (.istore ci, nx, a1, a2, a3, z)) (hs : (s_puts lo ci 0 nx (mL k) st E h : Option sS) = some (.inl l0)) (F : q_Fr dC dI dA rs ad Hb H0 (mL k) (pc, lo, st, E, h) ls vs H locs) (kk : q_KK p l e R s m args below meth c cells slots Q dC dI dA rs ad Hb H0 k l0) : W p l e R s m args below meth c H locs cells slots Q (F0 m pc ls vs) := by
  obtain ⟨hx, hb, hml, hown, hts, hK, hnm, hRf, hRl⟩ := C
  obtain ⟨hlo, hst, hE, hG, hlc⟩ := F
  obtain ⟨en, hd⟩ := q_dec (n := 2) hi rfl
  subst en
  unfold s_puts at hs
  split at hs
  · rename_i v rr
    simp only [Nat.beq, Bool.true_and, Bool.false_and, cond_false] at hs
    cases hn0 : Nat.blt (ci) (mL k) with
    | false => rw [hn0] at hs; cases hs
    | true =>
      have hn : ci < mL k := q_blt hn0
      rw [hn0] at hs
      obtain ⟨w, vs', rfl, ⟨y, rfl, hy⟩, hst'⟩ := hst
      exact lv_istore hx hb hd hlo.has hn rfl (fun ls' h' => q_go hs kk ⟨hlo.put ⟨y, rfl, hy⟩ h', hst', hE, hG, hlc⟩)
  · rename_i v rr
    simp only [Nat.beq, Bool.true_and, Bool.false_and, cond_false] at hs
    cases hs
  · rename_i v rr
    simp only [Nat.beq, Bool.true_and, Bool.false_and, cond_false] at hs
    cases hs
  · cases hs
theorem q_astore_n {ci : Fin 4} (C : q_Ctx p R s m args meth c dC dI dA Hb k) (hi : ins k pc = some (.astore_n ci, nx, a1, a2, a3, z)) (hs : (s_puts lo ci.val 1 nx (mL k) st E h : Option sS) = some (.inl l0)) (F : q_Fr dC dI dA rs ad Hb H0 (mL k) (pc, lo, st, E, h) ls vs H locs) (kk : q_KK p l e R s m args below meth c cells slots Q dC dI dA rs ad Hb H0 k l0) : W p l e R s m args below meth c H locs cells slots Q (F0 m pc ls vs) := by
  obtain ⟨hx, hb, hml, hown, hts, hK, hnm, hRf, hRl⟩ := C
  obtain ⟨hlo, hst, hE, hG, hlc⟩ := F
  obtain ⟨en, hd⟩ := q_dec (n := 1) hi rfl
  subst en
  unfold s_puts at hs
  split at hs
  · rename_i v rr
    simp only [Nat.beq, Bool.true_and, Bool.false_and, cond_false] at hs
    cases hs
  · rename_i v rr
    simp only [Nat.beq, Bool.true_and, Bool.false_and, cond_false] at hs
    cases hn0 : Nat.blt (ci.val) (mL k) with
    | false => rw [hn0] at hs; cases hs
    | true =>
      have hn : ci.val < mL k := q_blt hn0
      rw [hn0] at hs
      obtain ⟨w, vs', rfl, hy, hst'⟩ := hst
      have hy2 : w = q_rf ad _ := hy
      subst hy2
      rcases v with _ | o
      · exact lv_astore_nN hx hb hd rfl hlo.has hn rfl (fun ls' h' => q_go hs kk ⟨hlo.put (a := .inr (.inl none)) rfl h', hst', hE, hG, hlc⟩)
      · exact lv_astore_n hx hb hd rfl hlo.has hn rfl (fun ls' h' => q_go hs kk ⟨hlo.put (a := .inr (.inl (some o))) rfl h', hst', hE, hG, hlc⟩)
  · rename_i v rr
    simp only [Nat.beq, Bool.true_and, Bool.false_and, cond_false] at hs
    cases hs
  · cases hs
theorem q_astore {ci : Nat} (C : q_Ctx p R s m args meth c dC dI dA Hb k) (hi : ins k pc = some (.astore ci, nx, a1, a2, a3, z)) (hs : (s_puts lo ci 1 nx (mL k) st E h : Option sS) = some (.inl l0)) (F : q_Fr dC dI dA rs ad Hb H0 (mL k) (pc, lo, st, E, h) ls vs H locs) (kk : q_KK p l e R s m args below meth c cells slots Q dC dI dA rs ad Hb H0 k l0) : W p l e R s m args below meth c H locs cells slots Q (F0 m pc ls vs) := by
  obtain ⟨hx, hb, hml, hown, hts, hK, hnm, hRf, hRl⟩ := C
  obtain ⟨hlo, hst, hE, hG, hlc⟩ := F
  obtain ⟨en, hd⟩ := q_dec (n := 2) hi rfl
  subst en
  unfold s_puts at hs
  split at hs
  · rename_i v rr
    simp only [Nat.beq, Bool.true_and, Bool.false_and, cond_false] at hs
    cases hs
  · rename_i v rr
    simp only [Nat.beq, Bool.true_and, Bool.false_and, cond_false] at hs
    cases hn0 : Nat.blt (ci) (mL k) with
    | false => rw [hn0] at hs; cases hs
    | true =>
      have hn : ci < mL k := q_blt hn0
      rw [hn0] at hs
      obtain ⟨w, vs', rfl, hy, hst'⟩ := hst
      have hy2 : w = q_rf ad _ := hy
      subst hy2
      rcases v with _ | o
      · exact lv_astoreN hx hb hd hlo.has hn rfl (fun ls' h' => q_go hs kk ⟨hlo.put (a := .inr (.inl none)) rfl h', hst', hE, hG, hlc⟩)
      · exact lv_astore hx hb hd hlo.has hn rfl (fun ls' h' => q_go hs kk ⟨hlo.put (a := .inr (.inl (some o))) rfl h', hst', hE, hG, hlc⟩)
  · rename_i v rr
    simp only [Nat.beq, Bool.true_and, Bool.false_and, cond_false] at hs
    cases hs
  · cases hs
theorem q_lstore_n {ci : Fin 4} (C : q_Ctx p R s m args meth c dC dI dA Hb k) (hi : ins k pc = some (.lstore_n ci, nx, a1, a2, a3, z)) (hs : (s_puts lo ci.val 2 nx (mL k) st E h : Option sS) = some (.inl l0)) (F : q_Fr dC dI dA rs ad Hb H0 (mL k) (pc, lo, st, E, h) ls vs H locs) (kk : q_KK p l e R s m args below meth c cells slots Q dC dI dA rs ad Hb H0 k l0) : W p l e R s m args below meth c H locs cells slots Q (F0 m pc ls vs) := by
  obtain ⟨hx, hb, hml, hown, hts, hK, hnm, hRf, hRl⟩ := C
  obtain ⟨hlo, hst, hE, hG, hlc⟩ := F
  obtain ⟨en, hd⟩ := q_dec (n := 1) hi rfl
  subst en
  unfold s_puts at hs
  split at hs
  · rename_i v rr
    simp only [Nat.beq, Bool.true_and, Bool.false_and, cond_false] at hs
    cases hs
  · rename_i v rr
    simp only [Nat.beq, Bool.true_and, Bool.false_and, cond_false] at hs
    cases hs
  · rename_i v rr
    simp only [Nat.beq, Bool.true_and, Bool.false_and, cond_false] at hs
    cases hn0 : Nat.blt (ci.val + 1) (mL k) with
    | false => rw [hn0] at hs; cases hs
    | true =>
      have hn : ci.val + 1 < mL k := q_blt hn0
      rw [hn0] at hs
      obtain ⟨w, vs', rfl, ⟨y, rfl, hy⟩, hst'⟩ := hst
      exact lv_lstore_n hx hb hd rfl hlo.has hn rfl (fun ls' h' => q_go hs kk ⟨hlo.put2 ⟨y, rfl, hy⟩ h', hst', hE, hG, hlc⟩)
  · cases hs
theorem q_lstore {ci : Nat} (C : q_Ctx p R s m args meth c dC dI dA Hb k) (hi : ins k pc = some (.lstore ci, nx, a1, a2, a3, z)) (hs : (bif Nat.beq nx (pc + 2) then s_puts lo ci 2 nx (mL k) st E h else none : Option sS) = some (.inl l0)) (F : q_Fr dC dI dA rs ad Hb H0 (mL k) (pc, lo, st, E, h) ls vs H locs) (kk : q_KK p l e R s m args below meth c cells slots Q dC dI dA rs ad Hb H0 k l0) : W p l e R s m args below meth c H locs cells slots Q (F0 m pc ls vs) := by
  obtain ⟨hx, hb, hml, hown, hts, hK, hnm, hRf, hRl⟩ := C
  obtain ⟨hlo, hst, hE, hG, hlc⟩ := F
  cases hn : Nat.beq nx (pc + 2) with
  | false => rw [hn] at hs; cases hs
  | true =>
  have en := Nat.eq_of_beq_eq_true hn
  rw [hn] at hs
  subst en
  have hd := q_dec2 (n := 2) hi rfl
  simp only [cond_true] at hs
  unfold s_puts at hs
  split at hs
  · rename_i v rr
    simp only [Nat.beq, Bool.true_and, Bool.false_and, cond_false] at hs
    cases hs
  · rename_i v rr
    simp only [Nat.beq, Bool.true_and, Bool.false_and, cond_false] at hs
    cases hs
  · rename_i v rr
    simp only [Nat.beq, Bool.true_and, Bool.false_and, cond_false] at hs
    cases hn0 : Nat.blt (ci + 1) (mL k) with
    | false => rw [hn0] at hs; cases hs
    | true =>
      have hn : ci + 1 < mL k := q_blt hn0
      rw [hn0] at hs
      obtain ⟨w, vs', rfl, ⟨y, rfl, hy⟩, hst'⟩ := hst
      exact lv_lstore hx hb hd hlo.has hn rfl (fun ls' h' => q_go hs kk ⟨hlo.put2 ⟨y, rfl, hy⟩ h', hst', hE, hG, hlc⟩)
  · cases hs
theorem q_iinc {ci : Nat} {cz : Int} (C : q_Ctx p R s m args meth c dC dI dA Hb k) (hi : ins k pc = some (.iinc ci cz, nx, a1, a2, a3, z)) (hs : ((match s_lget lo ci with
      | some (.inl v) => bif Nat.blt ci (mL k) && Nat.beq nx (pc + 3) && s_in32 (cz, cz) then (match s_sadd E v (s_num cz) with
        | (E1, w) => s_go nx (s_lset lo ci (.inl w)) st E1 h) else none
      | _ => none) : Option sS) = some (.inl l0)) (F : q_Fr dC dI dA rs ad Hb H0 (mL k) (pc, lo, st, E, h) ls vs H locs) (kk : q_KK p l e R s m args below meth c cells slots Q dC dI dA rs ad Hb H0 k l0) : W p l e R s m args below meth c H locs cells slots Q (F0 m pc ls vs) := by
  obtain ⟨hx, hb, hml, hown, hts, hK, hnm, hRf, hRl⟩ := C
  obtain ⟨hlo, hst, hE, hG, hlc⟩ := F
  obtain ⟨en, hd⟩ := q_dec (n := 3) hi rfl
  subst en
  split at hs
  · rename_i v hg
    cases hn0 : Nat.blt ci (mL k) with
    | false => rw [hn0] at hs; cases hs
    | true =>
      cases hz : s_in32 (cz, cz) with
      | false => rw [hn0, Nat.beq_refl, hz] at hs; cases hs
      | true =>
        have hn : ci < mL k := q_blt hn0
        rw [hn0, Nat.beq_refl, hz] at hs
        simp only [Bool.and_self, cond_true] at hs
        obtain ⟨w, hw, y, rfl, hy⟩ := hlo.get hg
        obtain ⟨j, hj⟩ := List.getElem?_of_mem (show (ci, Value.int y) ∈ q_lv ls lo from List.mem_map.mpr ⟨(ci, .inl v), q_lget hg, by simp [q_rv, hw]⟩)
        have hR := s_saddR (y := Int32.ofInt cz) (b := s_num cz) hE hy (by rw [s_in32S hz]; exact s_numS _)
        generalize s_sadd E v (s_num cz) = X at hs hR
        obtain ⟨E1, f⟩ := X
        obtain ⟨x, r1, r2, r3⟩ := hR
        exact lv_iinc hx hb hd hlo.has hj rfl hn rfl (fun ls' h' => q_goE (x := x) hs kk ⟨(hlo.mono x).put ⟨_, rfl, r2⟩ h', hst.mono x, r1, (hG.mono x).env r3, hlc⟩)
  · cases hs
theorem q_iadd  (C : q_Ctx p R s m args meth c dC dI dA Hb k) (hi : ins k pc = some (.iadd, nx, a1, a2, a3, z)) (hs : (s_op2 s_sadd nx lo st E h : Option sS) = some (.inl l0)) (F : q_Fr dC dI dA rs ad Hb H0 (mL k) (pc, lo, st, E, h) ls vs H locs) (kk : q_KK p l e R s m args below meth c cells slots Q dC dI dA rs ad Hb H0 k l0) : W p l e R s m args below meth c H locs cells slots Q (F0 m pc ls vs) := by
  obtain ⟨hx, hb, hml, hown, hts, hK, hnm, hRf, hRl⟩ := C
  obtain ⟨hlo, hst, hE, hG, hlc⟩ := F
  obtain ⟨en, hd⟩ := q_dec (n := 1) hi rfl
  subst en
  unfold s_op2 at hs
  split at hs
  · obtain ⟨w, vs', rfl, ⟨y, rfl, hy⟩, w2, vs2, rfl, ⟨x, rfl, hxx⟩, hst'⟩ := hst
    exact lv_iadd hx hb hd (q_gox hs kk (s_saddR hE hxx hy) hlo hst' hG hlc)
  · cases hs
theorem q_isub  (C : q_Ctx p R s m args meth c dC dI dA Hb k) (hi : ins k pc = some (.isub, nx, a1, a2, a3, z)) (hs : (s_op2 s_ssub nx lo st E h : Option sS) = some (.inl l0)) (F : q_Fr dC dI dA rs ad Hb H0 (mL k) (pc, lo, st, E, h) ls vs H locs) (kk : q_KK p l e R s m args below meth c cells slots Q dC dI dA rs ad Hb H0 k l0) : W p l e R s m args below meth c H locs cells slots Q (F0 m pc ls vs) := by
  obtain ⟨hx, hb, hml, hown, hts, hK, hnm, hRf, hRl⟩ := C
  obtain ⟨hlo, hst, hE, hG, hlc⟩ := F
  obtain ⟨en, hd⟩ := q_dec (n := 1) hi rfl
  subst en
  unfold s_op2 at hs
  split at hs
  · obtain ⟨w, vs', rfl, ⟨y, rfl, hy⟩, w2, vs2, rfl, ⟨x, rfl, hxx⟩, hst'⟩ := hst
    exact lv_isub hx hb hd (q_gox hs kk (s_ssubR hE hxx hy) hlo hst' hG hlc)
  · cases hs
theorem q_imul  (C : q_Ctx p R s m args meth c dC dI dA Hb k) (hi : ins k pc = some (.imul, nx, a1, a2, a3, z)) (hs : (s_op2 s_smul nx lo st E h : Option sS) = some (.inl l0)) (F : q_Fr dC dI dA rs ad Hb H0 (mL k) (pc, lo, st, E, h) ls vs H locs) (kk : q_KK p l e R s m args below meth c cells slots Q dC dI dA rs ad Hb H0 k l0) : W p l e R s m args below meth c H locs cells slots Q (F0 m pc ls vs) := by
  obtain ⟨hx, hb, hml, hown, hts, hK, hnm, hRf, hRl⟩ := C
  obtain ⟨hlo, hst, hE, hG, hlc⟩ := F
  obtain ⟨en, hd⟩ := q_dec (n := 1) hi rfl
  subst en
  unfold s_op2 at hs
  split at hs
  · obtain ⟨w, vs', rfl, ⟨y, rfl, hy⟩, w2, vs2, rfl, ⟨x, rfl, hxx⟩, hst'⟩ := hst
    exact lv_imul hx hb hd (q_gox hs kk (s_smulR hE hxx hy) hlo hst' hG hlc)
  · cases hs
theorem q_ior  (C : q_Ctx p R s m args meth c dC dI dA Hb k) (hi : ins k pc = some (.ior, nx, a1, a2, a3, z)) (hs : (s_op2 s_sor nx lo st E h : Option sS) = some (.inl l0)) (F : q_Fr dC dI dA rs ad Hb H0 (mL k) (pc, lo, st, E, h) ls vs H locs) (kk : q_KK p l e R s m args below meth c cells slots Q dC dI dA rs ad Hb H0 k l0) : W p l e R s m args below meth c H locs cells slots Q (F0 m pc ls vs) := by
  obtain ⟨hx, hb, hml, hown, hts, hK, hnm, hRf, hRl⟩ := C
  obtain ⟨hlo, hst, hE, hG, hlc⟩ := F
  obtain ⟨en, hd⟩ := q_dec (n := 1) hi rfl
  subst en
  unfold s_op2 at hs
  split at hs
  · obtain ⟨w, vs', rfl, ⟨y, rfl, hy⟩, w2, vs2, rfl, ⟨x, rfl, hxx⟩, hst'⟩ := hst
    exact lv_ior hx hb hd (q_gox hs kk (s_sorR hE hxx hy) hlo hst' hG hlc)
  · cases hs
theorem q_ixor  (C : q_Ctx p R s m args meth c dC dI dA Hb k) (hi : ins k pc = some (.ixor, nx, a1, a2, a3, z)) (hs : (s_op2 s_sxor nx lo st E h : Option sS) = some (.inl l0)) (F : q_Fr dC dI dA rs ad Hb H0 (mL k) (pc, lo, st, E, h) ls vs H locs) (kk : q_KK p l e R s m args below meth c cells slots Q dC dI dA rs ad Hb H0 k l0) : W p l e R s m args below meth c H locs cells slots Q (F0 m pc ls vs) := by
  obtain ⟨hx, hb, hml, hown, hts, hK, hnm, hRf, hRl⟩ := C
  obtain ⟨hlo, hst, hE, hG, hlc⟩ := F
  obtain ⟨en, hd⟩ := q_dec (n := 1) hi rfl
  subst en
  unfold s_op2 at hs
  split at hs
  · obtain ⟨w, vs', rfl, ⟨y, rfl, hy⟩, w2, vs2, rfl, ⟨x, rfl, hxx⟩, hst'⟩ := hst
    exact lv_ixor hx hb hd (q_gox hs kk (s_sxorR hE hxx hy) hlo hst' hG hlc)
  · cases hs
theorem q_ishl  (C : q_Ctx p R s m args meth c dC dI dA Hb k) (hi : ins k pc = some (.ishl, nx, a1, a2, a3, z)) (hs : (s_op2 s_sshl nx lo st E h : Option sS) = some (.inl l0)) (F : q_Fr dC dI dA rs ad Hb H0 (mL k) (pc, lo, st, E, h) ls vs H locs) (kk : q_KK p l e R s m args below meth c cells slots Q dC dI dA rs ad Hb H0 k l0) : W p l e R s m args below meth c H locs cells slots Q (F0 m pc ls vs) := by
  obtain ⟨hx, hb, hml, hown, hts, hK, hnm, hRf, hRl⟩ := C
  obtain ⟨hlo, hst, hE, hG, hlc⟩ := F
  obtain ⟨en, hd⟩ := q_dec (n := 1) hi rfl
  subst en
  unfold s_op2 at hs
  split at hs
  · obtain ⟨w, vs', rfl, ⟨y, rfl, hy⟩, w2, vs2, rfl, ⟨x, rfl, hxx⟩, hst'⟩ := hst
    exact lv_ishl hx hb hd (q_gox hs kk (s_sshlR hE hxx hy) hlo hst' hG hlc)
  · cases hs
theorem q_ishr  (C : q_Ctx p R s m args meth c dC dI dA Hb k) (hi : ins k pc = some (.ishr, nx, a1, a2, a3, z)) (hs : (s_op2 s_sshr2 nx lo st E h : Option sS) = some (.inl l0)) (F : q_Fr dC dI dA rs ad Hb H0 (mL k) (pc, lo, st, E, h) ls vs H locs) (kk : q_KK p l e R s m args below meth c cells slots Q dC dI dA rs ad Hb H0 k l0) : W p l e R s m args below meth c H locs cells slots Q (F0 m pc ls vs) := by
  obtain ⟨hx, hb, hml, hown, hts, hK, hnm, hRf, hRl⟩ := C
  obtain ⟨hlo, hst, hE, hG, hlc⟩ := F
  obtain ⟨en, hd⟩ := q_dec (n := 1) hi rfl
  subst en
  unfold s_op2 at hs
  split at hs
  · obtain ⟨w, vs', rfl, ⟨y, rfl, hy⟩, w2, vs2, rfl, ⟨x, rfl, hxx⟩, hst'⟩ := hst
    exact lv_ishr hx hb hd (q_gox hs kk (s_sshr2R hE hxx hy) hlo hst' hG hlc)
  · cases hs
theorem q_iushr  (C : q_Ctx p R s m args meth c dC dI dA Hb k) (hi : ins k pc = some (.iushr, nx, a1, a2, a3, z)) (hs : (s_op2 s_ushr nx lo st E h : Option sS) = some (.inl l0)) (F : q_Fr dC dI dA rs ad Hb H0 (mL k) (pc, lo, st, E, h) ls vs H locs) (kk : q_KK p l e R s m args below meth c cells slots Q dC dI dA rs ad Hb H0 k l0) : W p l e R s m args below meth c H locs cells slots Q (F0 m pc ls vs) := by
  obtain ⟨hx, hb, hml, hown, hts, hK, hnm, hRf, hRl⟩ := C
  obtain ⟨hlo, hst, hE, hG, hlc⟩ := F
  obtain ⟨en, hd⟩ := q_dec (n := 1) hi rfl
  subst en
  unfold s_op2 at hs
  split at hs
  · obtain ⟨w, vs', rfl, ⟨y, rfl, hy⟩, w2, vs2, rfl, ⟨x, rfl, hxx⟩, hst'⟩ := hst
    exact lv_iushr hx hb hd rfl (q_gox hs kk (s_ushrR hE hxx hy) hlo hst' hG hlc)
  · cases hs
theorem q_idiv  (C : q_Ctx p R s m args meth c dC dI dA Hb k) (hi : ins k pc = some (.idiv, nx, a1, a2, a3, z)) (hs : (s_op2o s_sdiv nx lo st E h : Option sS) = some (.inl l0)) (F : q_Fr dC dI dA rs ad Hb H0 (mL k) (pc, lo, st, E, h) ls vs H locs) (kk : q_KK p l e R s m args below meth c cells slots Q dC dI dA rs ad Hb H0 k l0) : W p l e R s m args below meth c H locs cells slots Q (F0 m pc ls vs) := by
  obtain ⟨hx, hb, hml, hown, hts, hK, hnm, hRf, hRl⟩ := C
  obtain ⟨hlo, hst, hE, hG, hlc⟩ := F
  obtain ⟨en, hd⟩ := q_dec (n := 1) hi rfl
  subst en
  unfold s_op2o at hs
  split at hs
  · obtain ⟨w, vs', rfl, ⟨y, rfl, hy⟩, w2, vs2, rfl, ⟨x, rfl, hxx⟩, hst'⟩ := hst
    split at hs
    · rename_i X hX
      obtain ⟨hne, hR⟩ := s_sdivR hE hxx hy hX
      exact lv_idiv hx hb hd hne (q_gox hs kk hR hlo hst' hG hlc)
    · cases hs
  · cases hs
theorem q_irem  (C : q_Ctx p R s m args meth c dC dI dA Hb k) (hi : ins k pc = some (.irem, nx, a1, a2, a3, z)) (hs : (s_op2o s_srem nx lo st E h : Option sS) = some (.inl l0)) (F : q_Fr dC dI dA rs ad Hb H0 (mL k) (pc, lo, st, E, h) ls vs H locs) (kk : q_KK p l e R s m args below meth c cells slots Q dC dI dA rs ad Hb H0 k l0) : W p l e R s m args below meth c H locs cells slots Q (F0 m pc ls vs) := by
  obtain ⟨hx, hb, hml, hown, hts, hK, hnm, hRf, hRl⟩ := C
  obtain ⟨hlo, hst, hE, hG, hlc⟩ := F
  obtain ⟨en, hd⟩ := q_dec (n := 1) hi rfl
  subst en
  unfold s_op2o at hs
  split at hs
  · obtain ⟨w, vs', rfl, ⟨y, rfl, hy⟩, w2, vs2, rfl, ⟨x, rfl, hxx⟩, hst'⟩ := hst
    split at hs
    · rename_i X hX
      obtain ⟨hne, hR⟩ := s_sremR hE hxx hy hX
      exact lv_irem hx hb hd hne (q_gox hs kk hR hlo hst' hG hlc)
    · cases hs
  · cases hs
theorem q_ineg  (C : q_Ctx p R s m args meth c dC dI dA Hb k) (hi : ins k pc = some (.ineg, nx, a1, a2, a3, z)) (hs : (s_op1 s_sneg nx lo st E h : Option sS) = some (.inl l0)) (F : q_Fr dC dI dA rs ad Hb H0 (mL k) (pc, lo, st, E, h) ls vs H locs) (kk : q_KK p l e R s m args below meth c cells slots Q dC dI dA rs ad Hb H0 k l0) : W p l e R s m args below meth c H locs cells slots Q (F0 m pc ls vs) := by
  obtain ⟨hx, hb, hml, hown, hts, hK, hnm, hRf, hRl⟩ := C
  obtain ⟨hlo, hst, hE, hG, hlc⟩ := F
  obtain ⟨en, hd⟩ := q_dec (n := 1) hi rfl
  subst en
  unfold s_op1 at hs
  split at hs
  · obtain ⟨w, vs', rfl, ⟨x, rfl, hxx⟩, hst'⟩ := hst
    exact lv_ineg hx hb hd (q_gox hs kk (s_snegR hE hxx) hlo hst' hG hlc)
  · cases hs
theorem q_i2bB (x : Int32) : (-128 : Int) ≤ (x.toInt8.toInt32).toInt ∧ (x.toInt8.toInt32).toInt ≤ 127 ∧ ((-128 : Int) ≤ x.toInt → x.toInt ≤ 127 → x.toInt8.toInt32 = x) := by
  have e : (x.toInt8.toInt32).toInt = Int.bmod x.toInt 256 := by
    rw [Int8.toInt_toInt32, Int32.toInt_toInt8]
  have b := Int.bmod_def x.toInt 256
  refine ⟨by rw [e, b]; split <;> omega, by rw [e, b]; split <;> omega, fun h1 h2 => Int32.toInt_inj.mp ?_⟩
  rw [e, b]
  split <;> omega
theorem q_i2sB (x : Int32) : (-32768 : Int) ≤ (x.toInt16.toInt32).toInt ∧ (x.toInt16.toInt32).toInt ≤ 32767 ∧ ((-32768 : Int) ≤ x.toInt → x.toInt ≤ 32767 → x.toInt16.toInt32 = x) := by
  have e : (x.toInt16.toInt32).toInt = Int.bmod x.toInt 65536 := by
    rw [Int16.toInt_toInt32, Int32.toInt_toInt16]
  have b := Int.bmod_def x.toInt 65536
  refine ⟨by rw [e, b]; split <;> omega, by rw [e, b]; split <;> omega, fun h1 h2 => Int32.toInt_inj.mp ?_⟩
  rw [e, b]
  split <;> omega
theorem q_i2cB (x : Int32) : (0 : Int) ≤ ((x.toUInt32 % 65536).toInt32).toInt ∧ ((x.toUInt32 % 65536).toInt32).toInt ≤ 65535 ∧ ((0 : Int) ≤ x.toInt → x.toInt ≤ 65535 → (x.toUInt32 % 65536).toInt32 = x) := by
  have eN : ((x.toUInt32 % 65536).toInt32).toBitVec.toNat = x.toBitVec.toNat % 65536 := by
    show (x.toUInt32 % 65536).toBitVec.toNat = _
    rw [UInt32.toBitVec_mod, BitVec.toNat_umod]
    rfl
  have e := s_ofnat (z := (x.toUInt32 % 65536).toInt32) (by rw [eN]; omega)
  rw [eN] at e
  refine ⟨by omega, by omega, fun h1 h2 => Int32.toInt_inj.mp ?_⟩
  obtain ⟨x1, x2⟩ := s_nat h1
  rw [e]
  omega
theorem q_i2b  (C : q_Ctx p R s m args meth c dC dI dA Hb k) (hi : ins k pc = some (.i2b, nx, a1, a2, a3, z)) (hs : (s_op1 (s_conv (-128) 127) nx lo st E h : Option sS) = some (.inl l0)) (F : q_Fr dC dI dA rs ad Hb H0 (mL k) (pc, lo, st, E, h) ls vs H locs) (kk : q_KK p l e R s m args below meth c cells slots Q dC dI dA rs ad Hb H0 k l0) : W p l e R s m args below meth c H locs cells slots Q (F0 m pc ls vs) := by
  obtain ⟨hx, hb, hml, hown, hts, hK, hnm, hRf, hRl⟩ := C
  obtain ⟨hlo, hst, hE, hG, hlc⟩ := F
  obtain ⟨en, hd⟩ := q_dec (n := 1) hi rfl
  subst en
  unfold s_op1 at hs
  split at hs
  · obtain ⟨w, vs', rfl, ⟨x, rfl, hxx⟩, hst'⟩ := hst
    exact lv_i2b hx hb hd rfl (q_gox hs kk (s_convR (f := fun x => x.toInt8.toInt32) hE hxx (q_i2bB x).1 (q_i2bB x).2.1 (q_i2bB x).2.2) hlo hst' hG hlc)
  · cases hs
theorem q_i2s  (C : q_Ctx p R s m args meth c dC dI dA Hb k) (hi : ins k pc = some (.i2s, nx, a1, a2, a3, z)) (hs : (s_op1 (s_conv (-32768) 32767) nx lo st E h : Option sS) = some (.inl l0)) (F : q_Fr dC dI dA rs ad Hb H0 (mL k) (pc, lo, st, E, h) ls vs H locs) (kk : q_KK p l e R s m args below meth c cells slots Q dC dI dA rs ad Hb H0 k l0) : W p l e R s m args below meth c H locs cells slots Q (F0 m pc ls vs) := by
  obtain ⟨hx, hb, hml, hown, hts, hK, hnm, hRf, hRl⟩ := C
  obtain ⟨hlo, hst, hE, hG, hlc⟩ := F
  obtain ⟨en, hd⟩ := q_dec (n := 1) hi rfl
  subst en
  unfold s_op1 at hs
  split at hs
  · obtain ⟨w, vs', rfl, ⟨x, rfl, hxx⟩, hst'⟩ := hst
    exact lv_i2s hx hb hd rfl (q_gox hs kk (s_convR (f := fun x => x.toInt16.toInt32) hE hxx (q_i2sB x).1 (q_i2sB x).2.1 (q_i2sB x).2.2) hlo hst' hG hlc)
  · cases hs
theorem q_i2c  (C : q_Ctx p R s m args meth c dC dI dA Hb k) (hi : ins k pc = some (.i2c, nx, a1, a2, a3, z)) (hs : (s_op1 (s_conv 0 65535) nx lo st E h : Option sS) = some (.inl l0)) (F : q_Fr dC dI dA rs ad Hb H0 (mL k) (pc, lo, st, E, h) ls vs H locs) (kk : q_KK p l e R s m args below meth c cells slots Q dC dI dA rs ad Hb H0 k l0) : W p l e R s m args below meth c H locs cells slots Q (F0 m pc ls vs) := by
  obtain ⟨hx, hb, hml, hown, hts, hK, hnm, hRf, hRl⟩ := C
  obtain ⟨hlo, hst, hE, hG, hlc⟩ := F
  obtain ⟨en, hd⟩ := q_dec (n := 1) hi rfl
  subst en
  unfold s_op1 at hs
  split at hs
  · obtain ⟨w, vs', rfl, ⟨x, rfl, hxx⟩, hst'⟩ := hst
    exact lv_i2c hx hb hd rfl (q_gox hs kk (s_convR (f := fun x => (x.toUInt32 % 65536).toInt32) hE hxx (q_i2cB x).1 (q_i2cB x).2.1 (q_i2cB x).2.2) hlo hst' hG hlc)
  · cases hs
theorem q_i2l  (C : q_Ctx p R s m args meth c dC dI dA Hb k) (hi : ins k pc = some (.i2l, nx, a1, a2, a3, z)) (hs : ((match st with
      | .inl _ :: r => s_go nx lo (.inr (.inr (.inl none)) :: r) E h
      | _ => none) : Option sS) = some (.inl l0)) (F : q_Fr dC dI dA rs ad Hb H0 (mL k) (pc, lo, st, E, h) ls vs H locs) (kk : q_KK p l e R s m args below meth c cells slots Q dC dI dA rs ad Hb H0 k l0) : W p l e R s m args below meth c H locs cells slots Q (F0 m pc ls vs) := by
  obtain ⟨hx, hb, hml, hown, hts, hK, hnm, hRf, hRl⟩ := C
  obtain ⟨hlo, hst, hE, hG, hlc⟩ := F
  obtain ⟨en, hd⟩ := q_dec (n := 1) hi rfl
  subst en
  split at hs
  · obtain ⟨w, vs', rfl, ⟨x, rfl, hxx⟩, hst'⟩ := hst
    exact lv_i2l hx hb hd rfl (q_go hs kk ⟨hlo, ⟨_, _, rfl, ⟨_, rfl, fun q hq => by cases hq⟩, hst'⟩, hE, hG, hlc⟩)
  · cases hs
theorem q_l2i  (C : q_Ctx p R s m args meth c dC dI dA Hb k) (hi : ins k pc = some (.l2i, nx, a1, a2, a3, z)) (hs : ((match st with
      | .inr (.inr (.inl _)) :: r => s_gox nx lo r (s_new E s_any) h
      | _ => none) : Option sS) = some (.inl l0)) (F : q_Fr dC dI dA rs ad Hb H0 (mL k) (pc, lo, st, E, h) ls vs H locs) (kk : q_KK p l e R s m args below meth c cells slots Q dC dI dA rs ad Hb H0 k l0) : W p l e R s m args below meth c H locs cells slots Q (F0 m pc ls vs) := by
  obtain ⟨hx, hb, hml, hown, hts, hK, hnm, hRf, hRl⟩ := C
  obtain ⟨hlo, hst, hE, hG, hlc⟩ := F
  obtain ⟨en, hd⟩ := q_dec (n := 1) hi rfl
  subst en
  split at hs
  · obtain ⟨w, vs', rfl, ⟨x, rfl, hxx⟩, hst'⟩ := hst
    exact lv_l2i hx hb hd rfl (q_gox hs kk (s_anyR hE) hlo hst' hG hlc)
  · cases hs
theorem q_ladd  (C : q_Ctx p R s m args meth c dC dI dA Hb k) (hi : ins k pc = some (.ladd, nx, a1, a2, a3, z)) (hs : (s_lop2 nx lo st E h : Option sS) = some (.inl l0)) (F : q_Fr dC dI dA rs ad Hb H0 (mL k) (pc, lo, st, E, h) ls vs H locs) (kk : q_KK p l e R s m args below meth c cells slots Q dC dI dA rs ad Hb H0 k l0) : W p l e R s m args below meth c H locs cells slots Q (F0 m pc ls vs) := by
  obtain ⟨hx, hb, hml, hown, hts, hK, hnm, hRf, hRl⟩ := C
  obtain ⟨hlo, hst, hE, hG, hlc⟩ := F
  obtain ⟨en, hd⟩ := q_dec (n := 1) hi rfl
  subst en
  unfold s_lop2 at hs
  split at hs
  · obtain ⟨w, vs', rfl, ⟨y, rfl, -⟩, w2, vs2, rfl, ⟨x, rfl, -⟩, hst'⟩ := hst
    exact lv_ladd hx hb hd (q_go hs kk ⟨hlo, ⟨_, _, rfl, ⟨_, rfl, fun q hq => by cases hq⟩, hst'⟩, hE, hG, hlc⟩)
  · cases hs
theorem q_lmul  (C : q_Ctx p R s m args meth c dC dI dA Hb k) (hi : ins k pc = some (.lmul, nx, a1, a2, a3, z)) (hs : (s_lop2 nx lo st E h : Option sS) = some (.inl l0)) (F : q_Fr dC dI dA rs ad Hb H0 (mL k) (pc, lo, st, E, h) ls vs H locs) (kk : q_KK p l e R s m args below meth c cells slots Q dC dI dA rs ad Hb H0 k l0) : W p l e R s m args below meth c H locs cells slots Q (F0 m pc ls vs) := by
  obtain ⟨hx, hb, hml, hown, hts, hK, hnm, hRf, hRl⟩ := C
  obtain ⟨hlo, hst, hE, hG, hlc⟩ := F
  obtain ⟨en, hd⟩ := q_dec (n := 1) hi rfl
  subst en
  unfold s_lop2 at hs
  split at hs
  · obtain ⟨w, vs', rfl, ⟨y, rfl, -⟩, w2, vs2, rfl, ⟨x, rfl, -⟩, hst'⟩ := hst
    exact lv_lmul hx hb hd (q_go hs kk ⟨hlo, ⟨_, _, rfl, ⟨_, rfl, fun q hq => by cases hq⟩, hst'⟩, hE, hG, hlc⟩)
  · cases hs
theorem q_ldiv  (C : q_Ctx p R s m args meth c dC dI dA Hb k) (hi : ins k pc = some (.ldiv, nx, a1, a2, a3, z)) (hs : (s_ldv nx lo st E h : Option sS) = some (.inl l0)) (F : q_Fr dC dI dA rs ad Hb H0 (mL k) (pc, lo, st, E, h) ls vs H locs) (kk : q_KK p l e R s m args below meth c cells slots Q dC dI dA rs ad Hb H0 k l0) : W p l e R s m args below meth c H locs cells slots Q (F0 m pc ls vs) := by
  obtain ⟨hx, hb, hml, hown, hts, hK, hnm, hRf, hRl⟩ := C
  obtain ⟨hlo, hst, hE, hG, hlc⟩ := F
  obtain ⟨en, hd⟩ := q_dec (n := 1) hi rfl
  subst en
  unfold s_ldv at hs
  split at hs
  · rename_i zz zo rr
    obtain ⟨w, vs', rfl, ⟨y, rfl, hy⟩, w2, vs2, rfl, ⟨x, rfl, -⟩, hst'⟩ := hst
    cases h0 : decide (Int64.ofInt zz = 0) with
    | true => rw [h0] at hs; cases hs
    | false =>
      rw [h0] at hs
      have hne : ¬ y = 0 := by
        rw [hy zz rfl]
        exact of_decide_eq_false h0
      exact lv_ldiv hx hb hd hne (q_go hs kk ⟨hlo, ⟨_, _, rfl, ⟨_, rfl, fun q hq => by cases hq⟩, hst'⟩, hE, hG, hlc⟩)
  · cases hs
theorem q_lrem  (C : q_Ctx p R s m args meth c dC dI dA Hb k) (hi : ins k pc = some (.lrem, nx, a1, a2, a3, z)) (hs : (s_ldv nx lo st E h : Option sS) = some (.inl l0)) (F : q_Fr dC dI dA rs ad Hb H0 (mL k) (pc, lo, st, E, h) ls vs H locs) (kk : q_KK p l e R s m args below meth c cells slots Q dC dI dA rs ad Hb H0 k l0) : W p l e R s m args below meth c H locs cells slots Q (F0 m pc ls vs) := by
  obtain ⟨hx, hb, hml, hown, hts, hK, hnm, hRf, hRl⟩ := C
  obtain ⟨hlo, hst, hE, hG, hlc⟩ := F
  obtain ⟨en, hd⟩ := q_dec (n := 1) hi rfl
  subst en
  unfold s_ldv at hs
  split at hs
  · rename_i zz zo rr
    obtain ⟨w, vs', rfl, ⟨y, rfl, hy⟩, w2, vs2, rfl, ⟨x, rfl, -⟩, hst'⟩ := hst
    cases h0 : decide (Int64.ofInt zz = 0) with
    | true => rw [h0] at hs; cases hs
    | false =>
      rw [h0] at hs
      have hne : ¬ y = 0 := by
        rw [hy zz rfl]
        exact of_decide_eq_false h0
      exact lv_lrem hx hb hd hne (q_go hs kk ⟨hlo, ⟨_, _, rfl, ⟨_, rfl, fun q hq => by cases hq⟩, hst'⟩, hE, hG, hlc⟩)
  · cases hs
end Step
end
