/-! THE SCRIPT STANDS AS IT WAS GIVEN -/
def Sc0 (xs : Nat → Int32) (L : Nat) (h : XH) : Prop := xI h 0 = xs ∧ xN h 0 = L ∧ 1 ≤ xT h
section SC0
variable {xs : Nat → Int32} {L : Nat} {h : XH} {a j k n r : Nat} {v : Int32} {w : Int64} {g : Nat → Int64}
theorem Sc0.nw (s : Sc0 xs L h) : Sc0 xs L (xnew h k n) := by
  obtain ⟨s1, s2, s3⟩ := s
  refine ⟨?_, ?_, ?_⟩
  · show up (xI h) (xT h) (fun _ => 0) 0 = xs
    rw [up_ne (by omega)]
    exact s1
  · show up (xN h) (xT h) n 0 = L
    rw [up_ne (by omega)]
    exact s2
  · show 1 ≤ xT h + 1
    omega
theorem Sc0.sI (s : Sc0 xs L h) (ha : 0 ≠ a) : Sc0 xs L (xsI h a j v) := ⟨by rw [xI_n ha]; exact s.1, s.2.1, s.2.2⟩
theorem Sc0.sR (s : Sc0 xs L h) : Sc0 xs L (xsR h a j r) := s
theorem Sc0.sL (s : Sc0 xs L h) : Sc0 xs L (xsL h a j w) := s
theorem Sc0.lA (s : Sc0 xs L h) : Sc0 xs L (xLA h a g) := s
theorem Sc0.ini : Sc0 xs L (h_ini L xs) := ⟨rfl, rfl, show 1 ≤ 4 by decide⟩
end SC0
theorem rc_K0 : xK rc0 0 = 1 := by decide +kernel
set_option maxHeartbeats 16000000 in
set_option maxRecDepth 100000 in
theorem rc_c0 {L : Nat} {xs : Nat → Int32} : Sc0 xs L (rH3 L xs) := by
  have s0 : Sc0 xs L (h_ini L xs) := Sc0.ini
  have s1 := s0.nw (k := 18) (n := 15)
  clear s0
  have s2 := s1.nw (k := 2) (n := 2000)
  clear s1
  have s3 := s2.sR (a := 4) (j := 0) (r := 5)
  clear s2
  have s4 := s3.sI (a := 4) (j := 1) (v := 0) (by decide)
  clear s3
  have s5 := s4.sI (a := 4) (j := 2) (v := (-1)) (by decide)
  clear s4
  have s6 := s5.nw (k := 14) (n := 16)
  clear s5
  have s7 := s6.nw (k := 4) (n := 16)
  clear s6
  have s8 := s7.sR (a := 6) (j := 9) (r := 7)
  clear s7
  have s9 := s8.nw (k := 1) (n := 402)
  clear s8
  have s10 := s9.sR (a := 6) (j := 10) (r := 8)
  clear s9
  have s11 := s10.nw (k := 1) (n := 402)
  clear s10
  have s12 := s11.sR (a := 6) (j := 11) (r := 9)
  clear s11
  have s13 := s12.nw (k := 4) (n := 402)
  clear s12
  have s14 := s13.sR (a := 6) (j := 12) (r := 10)
  clear s13
  have s15 := s14.nw (k := 1) (n := 32)
  clear s14
  have s16 := s15.sR (a := 6) (j := 13) (r := 11)
  clear s15
  have s17 := s16.nw (k := 4) (n := 8)
  clear s16
  have s18 := s17.sR (a := 6) (j := 14) (r := 12)
  clear s17
  have s19 := s18.nw (k := 4) (n := 6)
  clear s18
  have s20 := s19.sR (a := 6) (j := 15) (r := 13)
  clear s19
  have s21 := s20.lA (a := 7) (g := wdG 77)
  clear s20
  have s22 := s21.sR (a := 4) (j := 3) (r := 6)
  clear s21
  have s23 := s22.nw (k := 15) (n := 18)
  clear s22
  have s24 := s23.sI (a := 14) (j := 6) (v := 1) (by decide)
  clear s23
  have s25 := s24.sI (a := 14) (j := 8) (v := 1) (by decide)
  clear s24
  have s26 := s25.nw (k := 1) (n := 8)
  clear s25
  have s27 := s26.sR (a := 14) (j := 9) (r := 15)
  clear s26
  have s28 := s27.nw (k := 1) (n := 8)
  clear s27
  have s29 := s28.sR (a := 14) (j := 10) (r := 16)
  clear s28
  have s30 := s29.nw (k := 1) (n := 8)
  clear s29
  have s31 := s30.sR (a := 14) (j := 11) (r := 17)
  clear s30
  have s32 := s31.nw (k := 1) (n := 8)
  clear s31
  have s33 := s32.sR (a := 14) (j := 12) (r := 18)
  clear s32
  have s34 := s33.nw (k := 1) (n := 6)
  clear s33
  have s35 := s34.sR (a := 14) (j := 13) (r := 19)
  clear s34
  have s36 := s35.nw (k := 1) (n := 6)
  clear s35
  have s37 := s36.sR (a := 14) (j := 14) (r := 20)
  clear s36
  have s38 := s37.nw (k := 1) (n := 6)
  clear s37
  have s39 := s38.sR (a := 14) (j := 15) (r := 21)
  clear s38
  have s40 := s39.nw (k := 1) (n := 36)
  clear s39
  have s41 := s40.sR (a := 14) (j := 16) (r := 22)
  clear s40
  have s42 := s41.nw (k := 1) (n := 512)
  clear s41
  have s43 := s42.sR (a := 14) (j := 17) (r := 23)
  clear s42
  have s44 := s43.sR (a := 4) (j := 4) (r := 14)
  clear s43
  have s45 := s44.nw (k := 15) (n := 18)
  clear s44
  have s46 := s45.sI (a := 24) (j := 6) (v := 1) (by decide)
  clear s45
  have s47 := s46.sI (a := 24) (j := 8) (v := 1) (by decide)
  clear s46
  have s48 := s47.nw (k := 1) (n := 8)
  clear s47
  have s49 := s48.sR (a := 24) (j := 9) (r := 25)
  clear s48
  have s50 := s49.nw (k := 1) (n := 8)
  clear s49
  have s51 := s50.sR (a := 24) (j := 10) (r := 26)
  clear s50
  have s52 := s51.nw (k := 1) (n := 8)
  clear s51
  have s53 := s52.sR (a := 24) (j := 11) (r := 27)
  clear s52
  have s54 := s53.nw (k := 1) (n := 8)
  clear s53
  have s55 := s54.sR (a := 24) (j := 12) (r := 28)
  clear s54
  have s56 := s55.nw (k := 1) (n := 6)
  clear s55
  have s57 := s56.sR (a := 24) (j := 13) (r := 29)
  clear s56
  have s58 := s57.nw (k := 1) (n := 6)
  clear s57
  have s59 := s58.sR (a := 24) (j := 14) (r := 30)
  clear s58
  have s60 := s59.nw (k := 1) (n := 6)
  clear s59
  have s61 := s60.sR (a := 24) (j := 15) (r := 31)
  clear s60
  have s62 := s61.nw (k := 1) (n := 36)
  clear s61
  have s63 := s62.sR (a := 24) (j := 16) (r := 32)
  clear s62
  have s64 := s63.nw (k := 1) (n := 512)
  clear s63
  have s65 := s64.sR (a := 24) (j := 17) (r := 33)
  clear s64
  have s66 := s65.sR (a := 4) (j := 5) (r := 24)
  clear s65
  have s67 := s66.nw (k := 13) (n := 6)
  clear s66
  have s68 := s67.nw (k := 1) (n := 32)
  clear s67
  have s69 := s68.sR (a := 34) (j := 1) (r := 35)
  clear s68
  have s70 := s69.nw (k := 1) (n := 301)
  clear s69
  have s71 := s70.sR (a := 34) (j := 2) (r := 36)
  clear s70
  have s72 := s71.nw (k := 1) (n := 8)
  clear s71
  have s73 := s72.sR (a := 34) (j := 3) (r := 37)
  clear s72
  have s74 := s73.nw (k := 1) (n := 6)
  clear s73
  have s75 := s74.sR (a := 34) (j := 4) (r := 38)
  clear s74
  have s76 := s75.sR (a := 34) (j := 0) (r := 14)
  clear s75
  have s77 := s76.sR (a := 4) (j := 6) (r := 34)
  clear s76
  have s78 := s77.nw (k := 1) (n := 20)
  clear s77
  have s79 := s78.sR (a := 4) (j := 7) (r := 39)
  clear s78
  have s80 := s79.nw (k := 12) (n := 3)
  clear s79
  have s81 := s80.nw (k := 1) (n := 1000)
  clear s80
  have s82 := s81.sR (a := 40) (j := 2) (r := 41)
  clear s81
  have s83 := s82.sR (a := 4) (j := 8) (r := 40)
  clear s82
  have s84 := s83.nw (k := 1) (n := 60)
  clear s83
  have s85 := s84.sR (a := 4) (j := 9) (r := 42)
  clear s84
  have s86 := s85.sI (a := 4) (j := 10) (v := 0) (by decide)
  clear s85
  have s87 := s86.nw (k := 17) (n := 7)
  clear s86
  have s88 := s87.nw (k := 1) (n := 20)
  clear s87
  have s89 := s88.sR (a := 43) (j := 2) (r := 44)
  clear s88
  have s90 := s89.nw (k := 1) (n := 6)
  clear s89
  have s91 := s90.sR (a := 43) (j := 3) (r := 45)
  clear s90
  have s92 := s91.nw (k := 1) (n := 1)
  clear s91
  have s93 := s92.sR (a := 43) (j := 4) (r := 46)
  clear s92
  have s94 := s93.nw (k := 1) (n := 1)
  clear s93
  have s95 := s94.sR (a := 43) (j := 5) (r := 47)
  clear s94
  have s96 := s95.nw (k := 1) (n := 1)
  clear s95
  have s97 := s96.sR (a := 43) (j := 6) (r := 48)
  clear s96
  have s98 := s97.sR (a := 43) (j := 1) (r := 34)
  clear s97
  have s99 := s98.sR (a := 4) (j := 11) (r := 43)
  clear s98
  have s100 := s99.nw (k := 16) (n := 6)
  clear s99
  have s101 := s100.nw (k := 1) (n := 20)
  clear s100
  have s102 := s101.sR (a := 49) (j := 3) (r := 50)
  clear s101
  have s103 := s102.nw (k := 1) (n := 6)
  clear s102
  have s104 := s103.sR (a := 49) (j := 4) (r := 51)
  clear s103
  have s105 := s104.nw (k := 4) (n := 1)
  clear s104
  have s106 := s105.sR (a := 49) (j := 5) (r := 52)
  clear s105
  have s107 := s106.sR (a := 49) (j := 2) (r := 34)
  clear s106
  have s108 := s107.sR (a := 4) (j := 12) (r := 49)
  clear s107
  have s109 := s108.nw (k := 10) (n := 6)
  clear s108
  have s110 := s109.sI (a := 53) (j := 0) (v := (-1)) (by decide)
  clear s109
  have s111 := s110.nw (k := 1) (n := 20)
  clear s110
  have s112 := s111.sR (a := 53) (j := 2) (r := 54)
  clear s111
  have s113 := s112.nw (k := 1) (n := 20)
  clear s112
  have s114 := s113.sR (a := 53) (j := 3) (r := 55)
  clear s113
  have s115 := s114.nw (k := 1) (n := 301)
  clear s114
  have s116 := s115.sR (a := 53) (j := 4) (r := 56)
  clear s115
  have s117 := s116.nw (k := 1) (n := 301)
  clear s116
  have s118 := s117.sR (a := 53) (j := 5) (r := 57)
  clear s117
  have s119 := s118.sR (a := 53) (j := 1) (r := 34)
  clear s118
  have s120 := s119.sR (a := 4) (j := 13) (r := 53)
  clear s119
  have s121 := s120.nw (k := 11) (n := 13)
  clear s120
  have s122 := s121.nw (k := 1) (n := 20)
  clear s121
  have s123 := s122.sR (a := 58) (j := 2) (r := 59)
  clear s122
  have s124 := s123.nw (k := 1) (n := 20)
  clear s123
  have s125 := s124.sR (a := 58) (j := 3) (r := 60)
  clear s124
  have s126 := s125.nw (k := 1) (n := 20)
  clear s125
  have s127 := s126.sR (a := 58) (j := 4) (r := 61)
  clear s126
  have s128 := s127.nw (k := 1) (n := 20)
  clear s127
  have s129 := s128.sR (a := 58) (j := 5) (r := 62)
  clear s128
  have s130 := s129.nw (k := 1) (n := 5)
  clear s129
  have s131 := s130.sR (a := 58) (j := 6) (r := 63)
  clear s130
  have s132 := s131.sI (a := 58) (j := 7) (v := (-1)) (by decide)
  clear s131
  have s133 := s132.nw (k := 1) (n := 1)
  clear s132
  have s134 := s133.sR (a := 58) (j := 8) (r := 64)
  clear s133
  have s135 := s134.nw (k := 1) (n := 1)
  clear s134
  have s136 := s135.sR (a := 58) (j := 9) (r := 65)
  clear s135
  have s137 := s136.nw (k := 1) (n := 1)
  clear s136
  have s138 := s137.sR (a := 58) (j := 10) (r := 66)
  clear s137
  have s139 := s138.nw (k := 1) (n := 1)
  clear s138
  have s140 := s139.sR (a := 58) (j := 11) (r := 67)
  clear s139
  have s141 := s140.nw (k := 1) (n := 1)
  clear s140
  have s142 := s141.sR (a := 58) (j := 12) (r := 68)
  clear s141
  have s143 := s142.sR (a := 58) (j := 1) (r := 34)
  clear s142
  have s144 := s143.sR (a := 4) (j := 14) (r := 58)
  clear s143
  have s145 := s144.nw (k := 19) (n := 78)
  clear s144
  have s146 := s145.nw (k := 2) (n := 2000)
  clear s145
  have s147 := s146.sR (a := 69) (j := 1) (r := 70)
  clear s146
  have s148 := s147.nw (k := 2) (n := 2000)
  clear s147
  have s149 := s148.sR (a := 69) (j := 3) (r := 71)
  clear s148
  have s150 := s149.nw (k := 1) (n := 403)
  clear s149
  have s151 := s150.sR (a := 69) (j := 5) (r := 72)
  clear s150
  have s152 := s151.nw (k := 1) (n := 403)
  clear s151
  have s153 := s152.sR (a := 69) (j := 6) (r := 73)
  clear s152
  have s154 := s153.nw (k := 1) (n := 403)
  clear s153
  have s155 := s154.sR (a := 69) (j := 7) (r := 74)
  clear s154
  have s156 := s155.nw (k := 4) (n := 403)
  clear s155
  have s157 := s156.sR (a := 69) (j := 8) (r := 75)
  clear s156
  have s158 := s157.nw (k := 4) (n := 16)
  clear s157
  have s159 := s158.sR (a := 69) (j := 9) (r := 76)
  clear s158
  have s160 := s159.sI (a := 69) (j := 17) (v := (-1)) (by decide)
  clear s159
  have s161 := s160.nw (k := 4) (n := 14)
  clear s160
  have s162 := s161.sR (a := 69) (j := 21) (r := 77)
  clear s161
  have s163 := s162.nw (k := 1) (n := 14)
  clear s162
  have s164 := s163.sR (a := 69) (j := 22) (r := 78)
  clear s163
  have s165 := s164.nw (k := 1) (n := 2)
  clear s164
  have s166 := s165.sR (a := 69) (j := 23) (r := 79)
  clear s165
  have s167 := s166.nw (k := 1) (n := 16)
  clear s166
  have s168 := s167.sR (a := 69) (j := 24) (r := 80)
  clear s167
  have s169 := s168.nw (k := 1) (n := 16)
  clear s168
  have s170 := s169.sR (a := 69) (j := 25) (r := 81)
  clear s169
  have s171 := s170.nw (k := 1) (n := 16)
  clear s170
  have s172 := s171.sR (a := 69) (j := 26) (r := 82)
  clear s171
  have s173 := s172.nw (k := 1) (n := 2)
  clear s172
  have s174 := s173.sR (a := 69) (j := 27) (r := 83)
  clear s173
  have s175 := s174.nw (k := 1) (n := 2)
  clear s174
  have s176 := s175.sR (a := 69) (j := 28) (r := 84)
  clear s175
  have s177 := s176.nw (k := 1) (n := 12)
  clear s176
  have s178 := s177.sR (a := 69) (j := 29) (r := 85)
  clear s177
  have s179 := s178.nw (k := 1) (n := 12)
  clear s178
  have s180 := s179.sR (a := 69) (j := 30) (r := 86)
  clear s179
  have s181 := s180.nw (k := 1) (n := 12)
  clear s180
  have s182 := s181.sR (a := 69) (j := 31) (r := 87)
  clear s181
  have s183 := s182.nw (k := 1) (n := 72)
  clear s182
  have s184 := s183.sR (a := 69) (j := 33) (r := 88)
  clear s183
  have s185 := s184.nw (k := 1) (n := 72)
  clear s184
  have s186 := s185.sR (a := 69) (j := 34) (r := 89)
  clear s185
  have s187 := s186.nw (k := 1) (n := 72)
  clear s186
  have s188 := s187.sR (a := 69) (j := 35) (r := 90)
  clear s187
  have s189 := s188.nw (k := 1) (n := 72)
  clear s188
  have s190 := s189.sR (a := 69) (j := 36) (r := 91)
  clear s189
  have s191 := s190.nw (k := 1) (n := 2)
  clear s190
  have s192 := s191.sR (a := 69) (j := 37) (r := 92)
  clear s191
  have s193 := s192.nw (k := 1) (n := 2)
  clear s192
  have s194 := s193.sR (a := 69) (j := 38) (r := 93)
  clear s193
  have s195 := s194.nw (k := 1) (n := 400)
  clear s194
  have s196 := s195.sR (a := 69) (j := 40) (r := 94)
  clear s195
  have s197 := s196.nw (k := 1) (n := 400)
  clear s196
  have s198 := s197.sR (a := 69) (j := 41) (r := 95)
  clear s197
  have s199 := s198.nw (k := 1) (n := 16)
  clear s198
  have s200 := s199.sR (a := 69) (j := 43) (r := 96)
  clear s199
  have s201 := s200.nw (k := 1) (n := 16)
  clear s200
  have s202 := s201.sR (a := 69) (j := 44) (r := 97)
  clear s201
  have s203 := s202.nw (k := 3) (n := 260)
  clear s202
  have s204 := s203.sR (a := 69) (j := 46) (r := 98)
  clear s203
  have s205 := s204.nw (k := 1) (n := 260)
  clear s204
  have s206 := s205.sR (a := 69) (j := 47) (r := 99)
  clear s205
  have s207 := s206.nw (k := 1) (n := 260)
  clear s206
  have s208 := s207.sR (a := 69) (j := 48) (r := 100)
  clear s207
  have s209 := s208.nw (k := 1) (n := 260)
  clear s208
  have s210 := s209.sR (a := 69) (j := 49) (r := 101)
  clear s209
  have s211 := s210.nw (k := 1) (n := 260)
  clear s210
  have s212 := s211.sR (a := 69) (j := 50) (r := 102)
  clear s211
  have s213 := s212.nw (k := 1) (n := 840)
  clear s212
  have s214 := s213.sR (a := 69) (j := 52) (r := 103)
  clear s213
  have s215 := s214.nw (k := 1) (n := 840)
  clear s214
  have s216 := s215.sR (a := 69) (j := 53) (r := 104)
  clear s215
  have s217 := s216.nw (k := 1) (n := 64)
  clear s216
  have s218 := s217.sR (a := 69) (j := 54) (r := 105)
  clear s217
  have s219 := s218.nw (k := 1) (n := 16)
  clear s218
  have s220 := s219.sR (a := 69) (j := 56) (r := 106)
  clear s219
  have s221 := s220.nw (k := 1) (n := 400)
  clear s220
  have s222 := s221.sR (a := 69) (j := 57) (r := 107)
  clear s221
  have s223 := s222.nw (k := 1) (n := 20)
  clear s222
  have s224 := s223.sR (a := 69) (j := 59) (r := 108)
  clear s223
  have s225 := s224.nw (k := 1) (n := 20)
  clear s224
  have s226 := s225.sR (a := 69) (j := 60) (r := 109)
  clear s225
  have s227 := s226.nw (k := 1) (n := 6)
  clear s226
  have s228 := s227.sR (a := 69) (j := 62) (r := 110)
  clear s227
  have s229 := s228.nw (k := 1) (n := 301)
  clear s228
  have s230 := s229.sR (a := 69) (j := 63) (r := 111)
  clear s229
  have s231 := s230.nw (k := 1) (n := 8)
  clear s230
  have s232 := s231.sR (a := 69) (j := 64) (r := 112)
  clear s231
  have s233 := s232.nw (k := 1) (n := 1000)
  clear s232
  have s234 := s233.sR (a := 69) (j := 66) (r := 113)
  clear s233
  have s235 := s234.nw (k := 1) (n := 301)
  clear s234
  have s236 := s235.sR (a := 69) (j := 67) (r := 114)
  clear s235
  have s237 := s236.nw (k := 1) (n := 2000)
  clear s236
  have s238 := s237.sR (a := 69) (j := 68) (r := 115)
  clear s237
  have s239 := s238.nw (k := 1) (n := 6)
  clear s238
  have s240 := s239.sR (a := 69) (j := 69) (r := 116)
  clear s239
  have s241 := s240.nw (k := 1) (n := 15625)
  clear s240
  have s242 := s241.sR (a := 69) (j := 70) (r := 117)
  clear s241
  have s243 := s242.nw (k := 1) (n := 20)
  clear s242
  have s244 := s243.sR (a := 69) (j := 72) (r := 118)
  clear s243
  have s245 := s244.nw (k := 1) (n := 20)
  clear s244
  have s246 := s245.sR (a := 69) (j := 73) (r := 119)
  clear s245
  have s247 := s246.nw (k := 1) (n := 20)
  clear s246
  have s248 := s247.sR (a := 69) (j := 74) (r := 120)
  clear s247
  have s249 := s248.nw (k := 1) (n := 30)
  clear s248
  have s250 := s249.sR (a := 69) (j := 75) (r := 121)
  clear s249
  have s251 := s250.nw (k := 3) (n := 3)
  clear s250
  have s252 := s251.sR (a := 69) (j := 76) (r := 122)
  clear s251
  have s253 := s252.nw (k := 1) (n := 60)
  clear s252
  have s254 := s253.sR (a := 69) (j := 77) (r := 123)
  clear s253
  have s255 := s254.sL (a := 76) (j := 0) (w := (wrd 102 97 99 116 0 0 0))
  clear s254
  have s256 := s255.sL (a := 76) (j := 1) (w := (wrd 103 111 101 115 0 0 0))
  clear s255
  have s257 := s256.sL (a := 76) (j := 2) (w := (wrd 112 97 103 101 0 0 0))
  clear s256
  have s258 := s257.sL (a := 76) (j := 3) (w := (wrd 97 108 108 0 0 0 0))
  clear s257
  have s259 := s258.sL (a := 76) (j := 4) (w := (wrd 115 111 109 101 0 0 0))
  clear s258
  have s260 := s259.sL (a := 76) (j := 5) (w := (wrd 112 97 114 116 0 0 0))
  clear s259
  have s261 := s260.sL (a := 76) (j := 6) (w := (wrd 97 110 100 0 0 0 0))
  clear s260
  have s262 := s261.sL (a := 76) (j := 7) (w := (wrd 115 108 105 112 115 0 0))
  clear s261
  have s263 := s262.sL (a := 76) (j := 8) (w := (wrd 115 101 101 100 0 0 0))
  clear s262
  have s264 := s263.sL (a := 76) (j := 9) (w := (wrd 105 102 0 0 0 0 0))
  clear s263
  have s265 := s264.sL (a := 76) (j := 10) (w := (wrd 116 104 101 110 0 0 0))
  clear s264
  have s266 := s265.sL (a := 76) (j := 11) (w := (wrd 101 108 115 101 0 0 0))
  clear s265
  have s267 := s266.sL (a := 76) (j := 12) (w := (wrd 109 105 110 101 0 0 0))
  clear s266
  have s268 := s267.sL (a := 76) (j := 13) (w := (wrd 121 111 117 114 115 0 0))
  clear s267
  have s269 := s268.sL (a := 76) (j := 14) (w := (wrd 116 104 105 115 0 0 0))
  clear s268
  have s270 := s269.sL (a := 76) (j := 15) (w := (wrd 100 97 121 0 0 0 0))
  clear s269
  have s271 := s270.sI (a := 83) (j := 0) (v := 1) (by decide)
  clear s270
  unfold rH3 rH2 rH1 cH scH prH paH woH stH ahH beH rdH rdH0
  exact s271
