/-! THE MADE CELLS BY THEIR NUMBERS -/
set_option maxHeartbeats 16000000 in
set_option maxRecDepth 100000 in
theorem rc_sim {L : Nat} {xs : Nat → Int32} : Sim (rH3 L xs) rc0 := by
  have s0 : Sim (h_ini L xs) (h_ini 0 (fun _ => 0)) := Sim.ini
  have s1 := s0.lnw (t := 4) (k := 18) (n := 15) (m := 15) rfl rfl
  clear s0
  have s2 := s1.lnw (t := 5) (k := 2) (n := 2000) (m := 2015) rfl rfl
  clear s1
  have s3 := s2.sR (a := 4) (j := 0) (r := 5)
  clear s2
  have s4 := s3.sI (a := 4) (j := 1) (v := 0) (by decide)
  clear s3
  have s5 := s4.sI (a := 4) (j := 2) (v := (-1)) (by decide)
  clear s4
  have s6 := s5.lnw (t := 6) (k := 14) (n := 16) (m := 2031) rfl rfl
  clear s5
  have s7 := s6.lnw (t := 7) (k := 4) (n := 16) (m := 2047) rfl rfl
  clear s6
  have s8 := s7.sR (a := 6) (j := 9) (r := 7)
  clear s7
  have s9 := s8.lnw (t := 8) (k := 1) (n := 402) (m := 2449) rfl rfl
  clear s8
  have s10 := s9.sR (a := 6) (j := 10) (r := 8)
  clear s9
  have s11 := s10.lnw (t := 9) (k := 1) (n := 402) (m := 2851) rfl rfl
  clear s10
  have s12 := s11.sR (a := 6) (j := 11) (r := 9)
  clear s11
  have s13 := s12.lnw (t := 10) (k := 4) (n := 402) (m := 3253) rfl rfl
  clear s12
  have s14 := s13.sR (a := 6) (j := 12) (r := 10)
  clear s13
  have s15 := s14.lnw (t := 11) (k := 1) (n := 32) (m := 3285) rfl rfl
  clear s14
  have s16 := s15.sR (a := 6) (j := 13) (r := 11)
  clear s15
  have s17 := s16.lnw (t := 12) (k := 4) (n := 8) (m := 3293) rfl rfl
  clear s16
  have s18 := s17.sR (a := 6) (j := 14) (r := 12)
  clear s17
  have s19 := s18.lnw (t := 13) (k := 4) (n := 6) (m := 3299) rfl rfl
  clear s18
  have s20 := s19.sR (a := 6) (j := 15) (r := 13)
  clear s19
  have s21 := s20.lA (a := 7) (g := wdG 77)
  clear s20
  have s22 := s21.sR (a := 4) (j := 3) (r := 6)
  clear s21
  have s23 := s22.lnw (t := 14) (k := 15) (n := 18) (m := 3317) rfl rfl
  clear s22
  have s24 := s23.sI (a := 14) (j := 6) (v := 1) (by decide)
  clear s23
  have s25 := s24.sI (a := 14) (j := 8) (v := 1) (by decide)
  clear s24
  have s26 := s25.lnw (t := 15) (k := 1) (n := 8) (m := 3325) rfl rfl
  clear s25
  have s27 := s26.sR (a := 14) (j := 9) (r := 15)
  clear s26
  have s28 := s27.lnw (t := 16) (k := 1) (n := 8) (m := 3333) rfl rfl
  clear s27
  have s29 := s28.sR (a := 14) (j := 10) (r := 16)
  clear s28
  have s30 := s29.lnw (t := 17) (k := 1) (n := 8) (m := 3341) rfl rfl
  clear s29
  have s31 := s30.sR (a := 14) (j := 11) (r := 17)
  clear s30
  have s32 := s31.lnw (t := 18) (k := 1) (n := 8) (m := 3349) rfl rfl
  clear s31
  have s33 := s32.sR (a := 14) (j := 12) (r := 18)
  clear s32
  have s34 := s33.lnw (t := 19) (k := 1) (n := 6) (m := 3355) rfl rfl
  clear s33
  have s35 := s34.sR (a := 14) (j := 13) (r := 19)
  clear s34
  have s36 := s35.lnw (t := 20) (k := 1) (n := 6) (m := 3361) rfl rfl
  clear s35
  have s37 := s36.sR (a := 14) (j := 14) (r := 20)
  clear s36
  have s38 := s37.lnw (t := 21) (k := 1) (n := 6) (m := 3367) rfl rfl
  clear s37
  have s39 := s38.sR (a := 14) (j := 15) (r := 21)
  clear s38
  have s40 := s39.lnw (t := 22) (k := 1) (n := 36) (m := 3403) rfl rfl
  clear s39
  have s41 := s40.sR (a := 14) (j := 16) (r := 22)
  clear s40
  have s42 := s41.lnw (t := 23) (k := 1) (n := 512) (m := 3915) rfl rfl
  clear s41
  have s43 := s42.sR (a := 14) (j := 17) (r := 23)
  clear s42
  have s44 := s43.sR (a := 4) (j := 4) (r := 14)
  clear s43
  have s45 := s44.lnw (t := 24) (k := 15) (n := 18) (m := 3933) rfl rfl
  clear s44
  have s46 := s45.sI (a := 24) (j := 6) (v := 1) (by decide)
  clear s45
  have s47 := s46.sI (a := 24) (j := 8) (v := 1) (by decide)
  clear s46
  have s48 := s47.lnw (t := 25) (k := 1) (n := 8) (m := 3941) rfl rfl
  clear s47
  have s49 := s48.sR (a := 24) (j := 9) (r := 25)
  clear s48
  have s50 := s49.lnw (t := 26) (k := 1) (n := 8) (m := 3949) rfl rfl
  clear s49
  have s51 := s50.sR (a := 24) (j := 10) (r := 26)
  clear s50
  have s52 := s51.lnw (t := 27) (k := 1) (n := 8) (m := 3957) rfl rfl
  clear s51
  have s53 := s52.sR (a := 24) (j := 11) (r := 27)
  clear s52
  have s54 := s53.lnw (t := 28) (k := 1) (n := 8) (m := 3965) rfl rfl
  clear s53
  have s55 := s54.sR (a := 24) (j := 12) (r := 28)
  clear s54
  have s56 := s55.lnw (t := 29) (k := 1) (n := 6) (m := 3971) rfl rfl
  clear s55
  have s57 := s56.sR (a := 24) (j := 13) (r := 29)
  clear s56
  have s58 := s57.lnw (t := 30) (k := 1) (n := 6) (m := 3977) rfl rfl
  clear s57
  have s59 := s58.sR (a := 24) (j := 14) (r := 30)
  clear s58
  have s60 := s59.lnw (t := 31) (k := 1) (n := 6) (m := 3983) rfl rfl
  clear s59
  have s61 := s60.sR (a := 24) (j := 15) (r := 31)
  clear s60
  have s62 := s61.lnw (t := 32) (k := 1) (n := 36) (m := 4019) rfl rfl
  clear s61
  have s63 := s62.sR (a := 24) (j := 16) (r := 32)
  clear s62
  have s64 := s63.lnw (t := 33) (k := 1) (n := 512) (m := 4531) rfl rfl
  clear s63
  have s65 := s64.sR (a := 24) (j := 17) (r := 33)
  clear s64
  have s66 := s65.sR (a := 4) (j := 5) (r := 24)
  clear s65
  have s67 := s66.lnw (t := 34) (k := 13) (n := 6) (m := 4537) rfl rfl
  clear s66
  have s68 := s67.lnw (t := 35) (k := 1) (n := 32) (m := 4569) rfl rfl
  clear s67
  have s69 := s68.sR (a := 34) (j := 1) (r := 35)
  clear s68
  have s70 := s69.lnw (t := 36) (k := 1) (n := 301) (m := 4870) rfl rfl
  clear s69
  have s71 := s70.sR (a := 34) (j := 2) (r := 36)
  clear s70
  have s72 := s71.lnw (t := 37) (k := 1) (n := 8) (m := 4878) rfl rfl
  clear s71
  have s73 := s72.sR (a := 34) (j := 3) (r := 37)
  clear s72
  have s74 := s73.lnw (t := 38) (k := 1) (n := 6) (m := 4884) rfl rfl
  clear s73
  have s75 := s74.sR (a := 34) (j := 4) (r := 38)
  clear s74
  have s76 := s75.sR (a := 34) (j := 0) (r := 14)
  clear s75
  have s77 := s76.sR (a := 4) (j := 6) (r := 34)
  clear s76
  have s78 := s77.lnw (t := 39) (k := 1) (n := 20) (m := 4904) rfl rfl
  clear s77
  have s79 := s78.sR (a := 4) (j := 7) (r := 39)
  clear s78
  have s80 := s79.lnw (t := 40) (k := 12) (n := 3) (m := 4907) rfl rfl
  clear s79
  have s81 := s80.lnw (t := 41) (k := 1) (n := 1000) (m := 5907) rfl rfl
  clear s80
  have s82 := s81.sR (a := 40) (j := 2) (r := 41)
  clear s81
  have s83 := s82.sR (a := 4) (j := 8) (r := 40)
  clear s82
  have s84 := s83.lnw (t := 42) (k := 1) (n := 60) (m := 5967) rfl rfl
  clear s83
  have s85 := s84.sR (a := 4) (j := 9) (r := 42)
  clear s84
  have s86 := s85.sI (a := 4) (j := 10) (v := 0) (by decide)
  clear s85
  have s87 := s86.lnw (t := 43) (k := 17) (n := 7) (m := 5974) rfl rfl
  clear s86
  have s88 := s87.lnw (t := 44) (k := 1) (n := 20) (m := 5994) rfl rfl
  clear s87
  have s89 := s88.sR (a := 43) (j := 2) (r := 44)
  clear s88
  have s90 := s89.lnw (t := 45) (k := 1) (n := 6) (m := 6000) rfl rfl
  clear s89
  have s91 := s90.sR (a := 43) (j := 3) (r := 45)
  clear s90
  have s92 := s91.lnw (t := 46) (k := 1) (n := 1) (m := 6001) rfl rfl
  clear s91
  have s93 := s92.sR (a := 43) (j := 4) (r := 46)
  clear s92
  have s94 := s93.lnw (t := 47) (k := 1) (n := 1) (m := 6002) rfl rfl
  clear s93
  have s95 := s94.sR (a := 43) (j := 5) (r := 47)
  clear s94
  have s96 := s95.lnw (t := 48) (k := 1) (n := 1) (m := 6003) rfl rfl
  clear s95
  have s97 := s96.sR (a := 43) (j := 6) (r := 48)
  clear s96
  have s98 := s97.sR (a := 43) (j := 1) (r := 34)
  clear s97
  have s99 := s98.sR (a := 4) (j := 11) (r := 43)
  clear s98
  have s100 := s99.lnw (t := 49) (k := 16) (n := 6) (m := 6009) rfl rfl
  clear s99
  have s101 := s100.lnw (t := 50) (k := 1) (n := 20) (m := 6029) rfl rfl
  clear s100
  have s102 := s101.sR (a := 49) (j := 3) (r := 50)
  clear s101
  have s103 := s102.lnw (t := 51) (k := 1) (n := 6) (m := 6035) rfl rfl
  clear s102
  have s104 := s103.sR (a := 49) (j := 4) (r := 51)
  clear s103
  have s105 := s104.lnw (t := 52) (k := 4) (n := 1) (m := 6036) rfl rfl
  clear s104
  have s106 := s105.sR (a := 49) (j := 5) (r := 52)
  clear s105
  have s107 := s106.sR (a := 49) (j := 2) (r := 34)
  clear s106
  have s108 := s107.sR (a := 4) (j := 12) (r := 49)
  clear s107
  have s109 := s108.lnw (t := 53) (k := 10) (n := 6) (m := 6042) rfl rfl
  clear s108
  have s110 := s109.sI (a := 53) (j := 0) (v := (-1)) (by decide)
  clear s109
  have s111 := s110.lnw (t := 54) (k := 1) (n := 20) (m := 6062) rfl rfl
  clear s110
  have s112 := s111.sR (a := 53) (j := 2) (r := 54)
  clear s111
  have s113 := s112.lnw (t := 55) (k := 1) (n := 20) (m := 6082) rfl rfl
  clear s112
  have s114 := s113.sR (a := 53) (j := 3) (r := 55)
  clear s113
  have s115 := s114.lnw (t := 56) (k := 1) (n := 301) (m := 6383) rfl rfl
  clear s114
  have s116 := s115.sR (a := 53) (j := 4) (r := 56)
  clear s115
  have s117 := s116.lnw (t := 57) (k := 1) (n := 301) (m := 6684) rfl rfl
  clear s116
  have s118 := s117.sR (a := 53) (j := 5) (r := 57)
  clear s117
  have s119 := s118.sR (a := 53) (j := 1) (r := 34)
  clear s118
  have s120 := s119.sR (a := 4) (j := 13) (r := 53)
  clear s119
  have s121 := s120.lnw (t := 58) (k := 11) (n := 13) (m := 6697) rfl rfl
  clear s120
  have s122 := s121.lnw (t := 59) (k := 1) (n := 20) (m := 6717) rfl rfl
  clear s121
  have s123 := s122.sR (a := 58) (j := 2) (r := 59)
  clear s122
  have s124 := s123.lnw (t := 60) (k := 1) (n := 20) (m := 6737) rfl rfl
  clear s123
  have s125 := s124.sR (a := 58) (j := 3) (r := 60)
  clear s124
  have s126 := s125.lnw (t := 61) (k := 1) (n := 20) (m := 6757) rfl rfl
  clear s125
  have s127 := s126.sR (a := 58) (j := 4) (r := 61)
  clear s126
  have s128 := s127.lnw (t := 62) (k := 1) (n := 20) (m := 6777) rfl rfl
  clear s127
  have s129 := s128.sR (a := 58) (j := 5) (r := 62)
  clear s128
  have s130 := s129.lnw (t := 63) (k := 1) (n := 5) (m := 6782) rfl rfl
  clear s129
  have s131 := s130.sR (a := 58) (j := 6) (r := 63)
  clear s130
  have s132 := s131.sI (a := 58) (j := 7) (v := (-1)) (by decide)
  clear s131
  have s133 := s132.lnw (t := 64) (k := 1) (n := 1) (m := 6783) rfl rfl
  clear s132
  have s134 := s133.sR (a := 58) (j := 8) (r := 64)
  clear s133
  have s135 := s134.lnw (t := 65) (k := 1) (n := 1) (m := 6784) rfl rfl
  clear s134
  have s136 := s135.sR (a := 58) (j := 9) (r := 65)
  clear s135
  have s137 := s136.lnw (t := 66) (k := 1) (n := 1) (m := 6785) rfl rfl
  clear s136
  have s138 := s137.sR (a := 58) (j := 10) (r := 66)
  clear s137
  have s139 := s138.lnw (t := 67) (k := 1) (n := 1) (m := 6786) rfl rfl
  clear s138
  have s140 := s139.sR (a := 58) (j := 11) (r := 67)
  clear s139
  have s141 := s140.lnw (t := 68) (k := 1) (n := 1) (m := 6787) rfl rfl
  clear s140
  have s142 := s141.sR (a := 58) (j := 12) (r := 68)
  clear s141
  have s143 := s142.sR (a := 58) (j := 1) (r := 34)
  clear s142
  have s144 := s143.sR (a := 4) (j := 14) (r := 58)
  clear s143
  have s145 := s144.lnw (t := 69) (k := 19) (n := 78) (m := 6865) rfl rfl
  clear s144
  have s146 := s145.lnw (t := 70) (k := 2) (n := 2000) (m := 8865) rfl rfl
  clear s145
  have s147 := s146.sR (a := 69) (j := 1) (r := 70)
  clear s146
  have s148 := s147.lnw (t := 71) (k := 2) (n := 2000) (m := 10865) rfl rfl
  clear s147
  have s149 := s148.sR (a := 69) (j := 3) (r := 71)
  clear s148
  have s150 := s149.lnw (t := 72) (k := 1) (n := 403) (m := 11268) rfl rfl
  clear s149
  have s151 := s150.sR (a := 69) (j := 5) (r := 72)
  clear s150
  have s152 := s151.lnw (t := 73) (k := 1) (n := 403) (m := 11671) rfl rfl
  clear s151
  have s153 := s152.sR (a := 69) (j := 6) (r := 73)
  clear s152
  have s154 := s153.lnw (t := 74) (k := 1) (n := 403) (m := 12074) rfl rfl
  clear s153
  have s155 := s154.sR (a := 69) (j := 7) (r := 74)
  clear s154
  have s156 := s155.lnw (t := 75) (k := 4) (n := 403) (m := 12477) rfl rfl
  clear s155
  have s157 := s156.sR (a := 69) (j := 8) (r := 75)
  clear s156
  have s158 := s157.lnw (t := 76) (k := 4) (n := 16) (m := 12493) rfl rfl
  clear s157
  have s159 := s158.sR (a := 69) (j := 9) (r := 76)
  clear s158
  have s160 := s159.sI (a := 69) (j := 17) (v := (-1)) (by decide)
  clear s159
  have s161 := s160.lnw (t := 77) (k := 4) (n := 14) (m := 12507) rfl rfl
  clear s160
  have s162 := s161.sR (a := 69) (j := 21) (r := 77)
  clear s161
  have s163 := s162.lnw (t := 78) (k := 1) (n := 14) (m := 12521) rfl rfl
  clear s162
  have s164 := s163.sR (a := 69) (j := 22) (r := 78)
  clear s163
  have s165 := s164.lnw (t := 79) (k := 1) (n := 2) (m := 12523) rfl rfl
  clear s164
  have s166 := s165.sR (a := 69) (j := 23) (r := 79)
  clear s165
  have s167 := s166.lnw (t := 80) (k := 1) (n := 16) (m := 12539) rfl rfl
  clear s166
  have s168 := s167.sR (a := 69) (j := 24) (r := 80)
  clear s167
  have s169 := s168.lnw (t := 81) (k := 1) (n := 16) (m := 12555) rfl rfl
  clear s168
  have s170 := s169.sR (a := 69) (j := 25) (r := 81)
  clear s169
  have s171 := s170.lnw (t := 82) (k := 1) (n := 16) (m := 12571) rfl rfl
  clear s170
  have s172 := s171.sR (a := 69) (j := 26) (r := 82)
  clear s171
  have s173 := s172.lnw (t := 83) (k := 1) (n := 2) (m := 12573) rfl rfl
  clear s172
  have s174 := s173.sR (a := 69) (j := 27) (r := 83)
  clear s173
  have s175 := s174.lnw (t := 84) (k := 1) (n := 2) (m := 12575) rfl rfl
  clear s174
  have s176 := s175.sR (a := 69) (j := 28) (r := 84)
  clear s175
  have s177 := s176.lnw (t := 85) (k := 1) (n := 12) (m := 12587) rfl rfl
  clear s176
  have s178 := s177.sR (a := 69) (j := 29) (r := 85)
  clear s177
  have s179 := s178.lnw (t := 86) (k := 1) (n := 12) (m := 12599) rfl rfl
  clear s178
  have s180 := s179.sR (a := 69) (j := 30) (r := 86)
  clear s179
  have s181 := s180.lnw (t := 87) (k := 1) (n := 12) (m := 12611) rfl rfl
  clear s180
  have s182 := s181.sR (a := 69) (j := 31) (r := 87)
  clear s181
  have s183 := s182.lnw (t := 88) (k := 1) (n := 72) (m := 12683) rfl rfl
  clear s182
  have s184 := s183.sR (a := 69) (j := 33) (r := 88)
  clear s183
  have s185 := s184.lnw (t := 89) (k := 1) (n := 72) (m := 12755) rfl rfl
  clear s184
  have s186 := s185.sR (a := 69) (j := 34) (r := 89)
  clear s185
  have s187 := s186.lnw (t := 90) (k := 1) (n := 72) (m := 12827) rfl rfl
  clear s186
  have s188 := s187.sR (a := 69) (j := 35) (r := 90)
  clear s187
  have s189 := s188.lnw (t := 91) (k := 1) (n := 72) (m := 12899) rfl rfl
  clear s188
  have s190 := s189.sR (a := 69) (j := 36) (r := 91)
  clear s189
  have s191 := s190.lnw (t := 92) (k := 1) (n := 2) (m := 12901) rfl rfl
  clear s190
  have s192 := s191.sR (a := 69) (j := 37) (r := 92)
  clear s191
  have s193 := s192.lnw (t := 93) (k := 1) (n := 2) (m := 12903) rfl rfl
  clear s192
  have s194 := s193.sR (a := 69) (j := 38) (r := 93)
  clear s193
  have s195 := s194.lnw (t := 94) (k := 1) (n := 400) (m := 13303) rfl rfl
  clear s194
  have s196 := s195.sR (a := 69) (j := 40) (r := 94)
  clear s195
  have s197 := s196.lnw (t := 95) (k := 1) (n := 400) (m := 13703) rfl rfl
  clear s196
  have s198 := s197.sR (a := 69) (j := 41) (r := 95)
  clear s197
  have s199 := s198.lnw (t := 96) (k := 1) (n := 16) (m := 13719) rfl rfl
  clear s198
  have s200 := s199.sR (a := 69) (j := 43) (r := 96)
  clear s199
  have s201 := s200.lnw (t := 97) (k := 1) (n := 16) (m := 13735) rfl rfl
  clear s200
  have s202 := s201.sR (a := 69) (j := 44) (r := 97)
  clear s201
  have s203 := s202.lnw (t := 98) (k := 3) (n := 260) (m := 13995) rfl rfl
  clear s202
  have s204 := s203.sR (a := 69) (j := 46) (r := 98)
  clear s203
  have s205 := s204.lnw (t := 99) (k := 1) (n := 260) (m := 14255) rfl rfl
  clear s204
  have s206 := s205.sR (a := 69) (j := 47) (r := 99)
  clear s205
  have s207 := s206.lnw (t := 100) (k := 1) (n := 260) (m := 14515) rfl rfl
  clear s206
  have s208 := s207.sR (a := 69) (j := 48) (r := 100)
  clear s207
  have s209 := s208.lnw (t := 101) (k := 1) (n := 260) (m := 14775) rfl rfl
  clear s208
  have s210 := s209.sR (a := 69) (j := 49) (r := 101)
  clear s209
  have s211 := s210.lnw (t := 102) (k := 1) (n := 260) (m := 15035) rfl rfl
  clear s210
  have s212 := s211.sR (a := 69) (j := 50) (r := 102)
  clear s211
  have s213 := s212.lnw (t := 103) (k := 1) (n := 840) (m := 15875) rfl rfl
  clear s212
  have s214 := s213.sR (a := 69) (j := 52) (r := 103)
  clear s213
  have s215 := s214.lnw (t := 104) (k := 1) (n := 840) (m := 16715) rfl rfl
  clear s214
  have s216 := s215.sR (a := 69) (j := 53) (r := 104)
  clear s215
  have s217 := s216.lnw (t := 105) (k := 1) (n := 64) (m := 16779) rfl rfl
  clear s216
  have s218 := s217.sR (a := 69) (j := 54) (r := 105)
  clear s217
  have s219 := s218.lnw (t := 106) (k := 1) (n := 16) (m := 16795) rfl rfl
  clear s218
  have s220 := s219.sR (a := 69) (j := 56) (r := 106)
  clear s219
  have s221 := s220.lnw (t := 107) (k := 1) (n := 400) (m := 17195) rfl rfl
  clear s220
  have s222 := s221.sR (a := 69) (j := 57) (r := 107)
  clear s221
  have s223 := s222.lnw (t := 108) (k := 1) (n := 20) (m := 17215) rfl rfl
  clear s222
  have s224 := s223.sR (a := 69) (j := 59) (r := 108)
  clear s223
  have s225 := s224.lnw (t := 109) (k := 1) (n := 20) (m := 17235) rfl rfl
  clear s224
  have s226 := s225.sR (a := 69) (j := 60) (r := 109)
  clear s225
  have s227 := s226.lnw (t := 110) (k := 1) (n := 6) (m := 17241) rfl rfl
  clear s226
  have s228 := s227.sR (a := 69) (j := 62) (r := 110)
  clear s227
  have s229 := s228.lnw (t := 111) (k := 1) (n := 301) (m := 17542) rfl rfl
  clear s228
  have s230 := s229.sR (a := 69) (j := 63) (r := 111)
  clear s229
  have s231 := s230.lnw (t := 112) (k := 1) (n := 8) (m := 17550) rfl rfl
  clear s230
  have s232 := s231.sR (a := 69) (j := 64) (r := 112)
  clear s231
  have s233 := s232.lnw (t := 113) (k := 1) (n := 1000) (m := 18550) rfl rfl
  clear s232
  have s234 := s233.sR (a := 69) (j := 66) (r := 113)
  clear s233
  have s235 := s234.lnw (t := 114) (k := 1) (n := 301) (m := 18851) rfl rfl
  clear s234
  have s236 := s235.sR (a := 69) (j := 67) (r := 114)
  clear s235
  have s237 := s236.lnw (t := 115) (k := 1) (n := 2000) (m := 20851) rfl rfl
  clear s236
  have s238 := s237.sR (a := 69) (j := 68) (r := 115)
  clear s237
  have s239 := s238.lnw (t := 116) (k := 1) (n := 6) (m := 20857) rfl rfl
  clear s238
  have s240 := s239.sR (a := 69) (j := 69) (r := 116)
  clear s239
  have s241 := s240.lnw (t := 117) (k := 1) (n := 15625) (m := 36482) rfl rfl
  clear s240
  have s242 := s241.sR (a := 69) (j := 70) (r := 117)
  clear s241
  have s243 := s242.lnw (t := 118) (k := 1) (n := 20) (m := 36502) rfl rfl
  clear s242
  have s244 := s243.sR (a := 69) (j := 72) (r := 118)
  clear s243
  have s245 := s244.lnw (t := 119) (k := 1) (n := 20) (m := 36522) rfl rfl
  clear s244
  have s246 := s245.sR (a := 69) (j := 73) (r := 119)
  clear s245
  have s247 := s246.lnw (t := 120) (k := 1) (n := 20) (m := 36542) rfl rfl
  clear s246
  have s248 := s247.sR (a := 69) (j := 74) (r := 120)
  clear s247
  have s249 := s248.lnw (t := 121) (k := 1) (n := 30) (m := 36572) rfl rfl
  clear s248
  have s250 := s249.sR (a := 69) (j := 75) (r := 121)
  clear s249
  have s251 := s250.lnw (t := 122) (k := 3) (n := 3) (m := 36575) rfl rfl
  clear s250
  have s252 := s251.sR (a := 69) (j := 76) (r := 122)
  clear s251
  have s253 := s252.lnw (t := 123) (k := 1) (n := 60) (m := 36635) rfl rfl
  clear s252
  have s254 := s253.sR (a := 69) (j := 77) (r := 123)
  clear s253
  have s255 := s254.sL (a := 76) (j := 0) (w := (wrd 102 97 99 116 0 0 0))
  clear s254
  have s256 := s255.sL (a := 76) (j := 1) (w := (wrd 103 111 101 115 0 0 0))
  clear s255
  have s257 := s256.sL (a := 76) (j := 2) (w := (wrd 112 97 103 101 0 0 0))
  clear s256
  have s258 := s257.sL (a := 76) (j := 3) (w := (wrd 97 108 108 0 0 0 0))
  clear s257
  have s259 := s258.sL (a := 76) (j := 4) (w := (wrd 115 111 109 101 0 0 0))
  clear s258
  have s260 := s259.sL (a := 76) (j := 5) (w := (wrd 112 97 114 116 0 0 0))
  clear s259
  have s261 := s260.sL (a := 76) (j := 6) (w := (wrd 97 110 100 0 0 0 0))
  clear s260
  have s262 := s261.sL (a := 76) (j := 7) (w := (wrd 115 108 105 112 115 0 0))
  clear s261
  have s263 := s262.sL (a := 76) (j := 8) (w := (wrd 115 101 101 100 0 0 0))
  clear s262
  have s264 := s263.sL (a := 76) (j := 9) (w := (wrd 105 102 0 0 0 0 0))
  clear s263
  have s265 := s264.sL (a := 76) (j := 10) (w := (wrd 116 104 101 110 0 0 0))
  clear s264
  have s266 := s265.sL (a := 76) (j := 11) (w := (wrd 101 108 115 101 0 0 0))
  clear s265
  have s267 := s266.sL (a := 76) (j := 12) (w := (wrd 109 105 110 101 0 0 0))
  clear s266
  have s268 := s267.sL (a := 76) (j := 13) (w := (wrd 121 111 117 114 115 0 0))
  clear s267
  have s269 := s268.sL (a := 76) (j := 14) (w := (wrd 116 104 105 115 0 0 0))
  clear s268
  have s270 := s269.sL (a := 76) (j := 15) (w := (wrd 100 97 121 0 0 0 0))
  clear s269
  have s271 := s270.sI (a := 83) (j := 0) (v := 1) (by decide)
  clear s270
  unfold rc0 rcp8 rcp7 rcp6 rcp5 rcp4 rcp3 rcp2 rcp1 rcp0 rH3 rH2 rH1 cH scH prH paH woH stH ahH beH rdH rdH0
  exact s271
