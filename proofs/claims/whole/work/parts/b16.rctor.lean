/-! CONSTRUCTORS: the other side -/
def apx (v : Int64) (c : Int32) : Int64 := if ¬ c = 0 then (27 * v) + (((c - 97) + 1) : Int32).toInt64 else v
def wrd (a b c d e f g : Int32) : Int64 := apx (apx (apx (apx (apx (apx (apx 0 a) b) c) d) e) f) g
theorem c_apx {v : Int64} {c : Int32} {h : XH} {K : Int64 → XH → Prop} (k : K (apx v c) h) : ClL 160 [.long v, .int c] h K := by
  show Ev 160 0 (x_ini 160 [.long v, .int c]) [] h _
  rw [show x_ini 160 [.long v, .int c] = [.long v, .null, .int c] from x_inid ml_160 rfl]
  unfold apx at k
  refine e_il o_160_0 rfl ?_
  refine e_i0_1 o_160_1 (fun z => ?_) (fun z => ?_)
  · rw [if_pos z] at k
    refine e_lc 27 o_160_8 rfl ?_
    refine e_ll o_160_11 rfl ?_
    refine e_lbin o_160_12 rfl ?_
    refine e_il o_160_13 rfl ?_
    refine e_c 97 o_160_14 rfl ?_
    refine e_bin o_160_16 rfl ?_
    refine e_c 1 o_160_17 rfl ?_
    refine e_bin o_160_18 rfl ?_
    refine e_i2l o_160_19 ?_
    refine e_lbin o_160_20 rfl ?_
    exact e_retL o_160_21 ⟨_, rfl, k⟩
  · rw [if_neg z] at k
    refine e_ll o_160_4 rfl ?_
    refine e_go o_160_5 ?_
    exact e_retL o_160_21 ⟨_, rfl, k⟩
theorem c_wrd {a b c d e f g : Int32} {h : XH} {K : Int64 → XH → Prop} (k : K (wrd a b c d e f g) h) : ClL 159 [.int a, .int b, .int c, .int d, .int e, .int f, .int g] h K := by
  show Ev 159 0 (x_ini 159 [.int a, .int b, .int c, .int d, .int e, .int f, .int g]) [] h _
  rw [show x_ini 159 [.int a, .int b, .int c, .int d, .int e, .int f, .int g] = [.int a, .int b, .int c, .int d, .int e, .int f, .int g] from x_inid ml_159 rfl]
  refine e_lc 0 o_159_0 rfl ?_
  refine e_il o_159_1 rfl ?_
  refine e_clL (as := [.long (0 : Int64), .int a]) (rest := []) (K := fun v h1 => v = apx (0 : Int64) a ∧ h1 = h) o_159_2 rfl rfl (x_okd cl_159_160 ml_160 (Nat.le_of_ble_eq_true rfl) (Nat.le_of_ble_eq_true rfl)) rfl (c_apx ⟨rfl, rfl⟩) ?_
  rintro v h1 ⟨rfl, e1⟩
  rw [e1]
  refine e_il o_159_5 rfl ?_
  refine e_clL (as := [.long (apx (0 : Int64) a), .int b]) (rest := []) (K := fun v h1 => v = apx (apx (0 : Int64) a) b ∧ h1 = h) o_159_6 rfl rfl (x_okd cl_159_160 ml_160 (Nat.le_of_ble_eq_true rfl) (Nat.le_of_ble_eq_true rfl)) rfl (c_apx ⟨rfl, rfl⟩) ?_
  rintro v h1 ⟨rfl, e1⟩
  rw [e1]
  refine e_il o_159_9 rfl ?_
  refine e_clL (as := [.long (apx (apx (0 : Int64) a) b), .int c]) (rest := []) (K := fun v h1 => v = apx (apx (apx (0 : Int64) a) b) c ∧ h1 = h) o_159_10 rfl rfl (x_okd cl_159_160 ml_160 (Nat.le_of_ble_eq_true rfl) (Nat.le_of_ble_eq_true rfl)) rfl (c_apx ⟨rfl, rfl⟩) ?_
  rintro v h1 ⟨rfl, e1⟩
  rw [e1]
  refine e_il o_159_13 rfl ?_
  refine e_clL (as := [.long (apx (apx (apx (0 : Int64) a) b) c), .int d]) (rest := []) (K := fun v h1 => v = apx (apx (apx (apx (0 : Int64) a) b) c) d ∧ h1 = h) o_159_14 rfl rfl (x_okd cl_159_160 ml_160 (Nat.le_of_ble_eq_true rfl) (Nat.le_of_ble_eq_true rfl)) rfl (c_apx ⟨rfl, rfl⟩) ?_
  rintro v h1 ⟨rfl, e1⟩
  rw [e1]
  refine e_il o_159_17 rfl ?_
  refine e_clL (as := [.long (apx (apx (apx (apx (0 : Int64) a) b) c) d), .int e]) (rest := []) (K := fun v h1 => v = apx (apx (apx (apx (apx (0 : Int64) a) b) c) d) e ∧ h1 = h) o_159_19 rfl rfl (x_okd cl_159_160 ml_160 (Nat.le_of_ble_eq_true rfl) (Nat.le_of_ble_eq_true rfl)) rfl (c_apx ⟨rfl, rfl⟩) ?_
  rintro v h1 ⟨rfl, e1⟩
  rw [e1]
  refine e_il o_159_22 rfl ?_
  refine e_clL (as := [.long (apx (apx (apx (apx (apx (0 : Int64) a) b) c) d) e), .int f]) (rest := []) (K := fun v h1 => v = apx (apx (apx (apx (apx (apx (0 : Int64) a) b) c) d) e) f ∧ h1 = h) o_159_24 rfl rfl (x_okd cl_159_160 ml_160 (Nat.le_of_ble_eq_true rfl) (Nat.le_of_ble_eq_true rfl)) rfl (c_apx ⟨rfl, rfl⟩) ?_
  rintro v h1 ⟨rfl, e1⟩
  rw [e1]
  refine e_il o_159_27 rfl ?_
  refine e_clL (as := [.long (apx (apx (apx (apx (apx (apx (0 : Int64) a) b) c) d) e) f), .int g]) (rest := []) (K := fun v h1 => v = apx (apx (apx (apx (apx (apx (apx (0 : Int64) a) b) c) d) e) f) g ∧ h1 = h) o_159_29 rfl rfl (x_okd cl_159_160 ml_160 (Nat.le_of_ble_eq_true rfl) (Nat.le_of_ble_eq_true rfl)) rfl (c_apx ⟨rfl, rfl⟩) ?_
  rintro v h1 ⟨rfl, e1⟩
  rw [e1]
  exact e_retL o_159_32 ⟨_, rfl, k⟩
def rH1 (L : Nat) (xs : Nat → Int32) : XH := (xsR (xnew (xsR (xnew (xsR (xnew (xsR (xnew (xsR (xnew (xsR (xnew (xsR (xnew (xsR (xnew (xsR (xnew (xsR (xnew (xsR (xnew (xsR (xnew (xsR (xnew (xsR (xnew (xsR (xnew (xsR (xnew (xsR (xnew (xsR (xnew (xsR (xnew (xsR (xnew (xsR (xnew (xsR (xnew (xsR (xnew (xsR (xnew (xsR (xnew (xsR (xnew (xsR (xnew (xsR (xnew (xsR (xnew (xsR (xnew (xsR (xnew (xsR (xnew (xsR (xnew (xsR (xnew (xsR (xnew (xsR (xnew (xsR (xnew (xsR (xnew (xsR (xnew (xsR (xnew (xsR (xnew (xsR (xnew (xsR (xnew (xsR (xnew (xsR (xnew (xsR (xnew (xsR (xnew (xsI (xsR (xnew (xsR (xnew (xsR (xnew (xsR (xnew (xsR (xnew (xsR (xnew (xsR (xnew (xnew (cH L xs) 19 (x_nf 9)) 2 2000) 69 1 70) 2 2000) 69 3 71) 1 403) 69 5 72) 1 403) 69 6 73) 1 403) 69 7 74) 4 403) 69 8 75) 4 16) 69 9 76) 69 17 (-1)) 4 14) 69 21 77) 1 14) 69 22 78) 1 2) 69 23 79) 1 16) 69 24 80) 1 16) 69 25 81) 1 16) 69 26 82) 1 2) 69 27 83) 1 2) 69 28 84) 1 12) 69 29 85) 1 12) 69 30 86) 1 12) 69 31 87) 1 72) 69 33 88) 1 72) 69 34 89) 1 72) 69 35 90) 1 72) 69 36 91) 1 2) 69 37 92) 1 2) 69 38 93) 1 400) 69 40 94) 1 400) 69 41 95) 1 16) 69 43 96) 1 16) 69 44 97) 3 260) 69 46 98) 1 260) 69 47 99) 1 260) 69 48 100) 1 260) 69 49 101) 1 260) 69 50 102) 1 840) 69 52 103) 1 840) 69 53 104) 1 64) 69 54 105) 1 16) 69 56 106) 1 400) 69 57 107) 1 20) 69 59 108) 1 20) 69 60 109) 1 6) 69 62 110) 1 301) 69 63 111) 1 8) 69 64 112) 1 1000) 69 66 113) 1 301) 69 67 114) 1 2000) 69 68 115) 1 6) 69 69 116) 1 15625) 69 70 117) 1 20) 69 72 118) 1 20) 69 73 119) 1 20) 69 74 120) 1 30) 69 75 121) 3 3) 69 76 122) 1 60) 69 77 123)
set_option maxHeartbeats 16000000 in
set_option maxRecDepth 100000 in
theorem K_158a {L : Nat} {xs : Nat → Int32} {Q : Value → XH → Prop} (k : Ev 158 456 [.ref 69] [] (rH1 L xs) Q) : Ev 158 0 (x_ini 158 [.ref 69]) [] (xnew (cH L xs) 19 (x_nf 9)) Q := by
  rw [show x_ini 158 [.ref 69] = [.ref 69] from x_inid ml_158 rfl]
  refine e_al o_158_0 rfl ?_
  refine e_obj o_158_1 (Nat.le_of_ble_eq_true rfl) ?_
  refine e_al o_158_4 rfl ?_
  refine e_c 2000 o_158_5 rfl ?_
  refine s_na (N := 2000) (t := 70) (a := 69) (c := 19) o_158_8 (by decide) rfl ⟨rfl, rfl, by decide⟩ (fun h1 e1 _ => ?_)
  subst e1
  refine e_pR o_158_10 rfl (by decide) ?_
  refine e_al o_158_13 rfl ?_
  refine e_c 2000 o_158_14 rfl ?_
  refine s_na (N := 2000) (t := 71) (a := 69) (c := 19) o_158_17 (by decide) rfl ⟨rfl, rfl, by decide⟩ (fun h1 e1 _ => ?_)
  subst e1
  refine e_pR o_158_19 rfl (by decide) ?_
  refine e_al o_158_22 rfl ?_
  refine e_c 403 o_158_23 rfl ?_
  refine s_na (N := 403) (t := 72) (a := 69) (c := 19) o_158_26 (by decide) rfl ⟨rfl, rfl, by decide⟩ (fun h1 e1 _ => ?_)
  subst e1
  refine e_pR o_158_28 rfl (by decide) ?_
  refine e_al o_158_31 rfl ?_
  refine e_c 403 o_158_32 rfl ?_
  refine s_na (N := 403) (t := 73) (a := 69) (c := 19) o_158_35 (by decide) rfl ⟨rfl, rfl, by decide⟩ (fun h1 e1 _ => ?_)
  subst e1
  refine e_pR o_158_37 rfl (by decide) ?_
  refine e_al o_158_40 rfl ?_
  refine e_c 403 o_158_41 rfl ?_
  refine s_na (N := 403) (t := 74) (a := 69) (c := 19) o_158_44 (by decide) rfl ⟨rfl, rfl, by decide⟩ (fun h1 e1 _ => ?_)
  subst e1
  refine e_pR o_158_46 rfl (by decide) ?_
  refine e_al o_158_49 rfl ?_
  refine e_c 403 o_158_50 rfl ?_
  refine s_na (N := 403) (t := 75) (a := 69) (c := 19) o_158_53 (by decide) rfl ⟨rfl, rfl, by decide⟩ (fun h1 e1 _ => ?_)
  subst e1
  refine e_pR o_158_55 rfl (by decide) ?_
  refine e_al o_158_58 rfl ?_
  refine e_c 16 o_158_59 rfl ?_
  refine s_na (N := 16) (t := 76) (a := 69) (c := 19) o_158_61 (by decide) rfl ⟨rfl, rfl, by decide⟩ (fun h1 e1 _ => ?_)
  subst e1
  refine e_pR o_158_63 rfl (by decide) ?_
  refine e_al o_158_66 rfl ?_
  refine e_c (-1) o_158_67 rfl ?_
  refine e_pI o_158_68 rfl ?_
  refine e_al o_158_71 rfl ?_
  refine e_c 14 o_158_72 rfl ?_
  refine s_na (N := 14) (t := 77) (a := 69) (c := 19) o_158_74 (by decide) rfl ⟨rfl, rfl, by decide⟩ (fun h1 e1 _ => ?_)
  subst e1
  refine e_pR o_158_76 rfl (by decide) ?_
  refine e_al o_158_79 rfl ?_
  refine e_c 14 o_158_80 rfl ?_
  refine s_na (N := 14) (t := 78) (a := 69) (c := 19) o_158_82 (by decide) rfl ⟨rfl, rfl, by decide⟩ (fun h1 e1 _ => ?_)
  subst e1
  refine e_pR o_158_84 rfl (by decide) ?_
  refine e_al o_158_87 rfl ?_
  refine e_c 2 o_158_88 rfl ?_
  refine s_na (N := 2) (t := 79) (a := 69) (c := 19) o_158_89 (by decide) rfl ⟨rfl, rfl, by decide⟩ (fun h1 e1 _ => ?_)
  subst e1
  refine e_pR o_158_91 rfl (by decide) ?_
  refine e_al o_158_94 rfl ?_
  refine e_c 16 o_158_95 rfl ?_
  refine s_na (N := 16) (t := 80) (a := 69) (c := 19) o_158_97 (by decide) rfl ⟨rfl, rfl, by decide⟩ (fun h1 e1 _ => ?_)
  subst e1
  refine e_pR o_158_99 rfl (by decide) ?_
  refine e_al o_158_102 rfl ?_
  refine e_c 16 o_158_103 rfl ?_
  refine s_na (N := 16) (t := 81) (a := 69) (c := 19) o_158_105 (by decide) rfl ⟨rfl, rfl, by decide⟩ (fun h1 e1 _ => ?_)
  subst e1
  refine e_pR o_158_107 rfl (by decide) ?_
  refine e_al o_158_110 rfl ?_
  refine e_c 16 o_158_111 rfl ?_
  refine s_na (N := 16) (t := 82) (a := 69) (c := 19) o_158_113 (by decide) rfl ⟨rfl, rfl, by decide⟩ (fun h1 e1 _ => ?_)
  subst e1
  refine e_pR o_158_115 rfl (by decide) ?_
  refine e_al o_158_118 rfl ?_
  refine e_c 2 o_158_119 rfl ?_
  refine s_na (N := 2) (t := 83) (a := 69) (c := 19) o_158_120 (by decide) rfl ⟨rfl, rfl, by decide⟩ (fun h1 e1 _ => ?_)
  subst e1
  refine e_pR o_158_122 rfl (by decide) ?_
  refine e_al o_158_125 rfl ?_
  refine e_c 2 o_158_126 rfl ?_
  refine s_na (N := 2) (t := 84) (a := 69) (c := 19) o_158_127 (by decide) rfl ⟨rfl, rfl, by decide⟩ (fun h1 e1 _ => ?_)
  subst e1
  refine e_pR o_158_129 rfl (by decide) ?_
  refine e_al o_158_132 rfl ?_
  refine e_c 12 o_158_133 rfl ?_
  refine s_na (N := 12) (t := 85) (a := 69) (c := 19) o_158_135 (by decide) rfl ⟨rfl, rfl, by decide⟩ (fun h1 e1 _ => ?_)
  subst e1
  refine e_pR o_158_137 rfl (by decide) ?_
  refine e_al o_158_140 rfl ?_
  refine e_c 12 o_158_141 rfl ?_
  refine s_na (N := 12) (t := 86) (a := 69) (c := 19) o_158_143 (by decide) rfl ⟨rfl, rfl, by decide⟩ (fun h1 e1 _ => ?_)
  subst e1
  refine e_pR o_158_145 rfl (by decide) ?_
  refine e_al o_158_148 rfl ?_
  refine e_c 12 o_158_149 rfl ?_
  refine s_na (N := 12) (t := 87) (a := 69) (c := 19) o_158_151 (by decide) rfl ⟨rfl, rfl, by decide⟩ (fun h1 e1 _ => ?_)
  subst e1
  refine e_pR o_158_153 rfl (by decide) ?_
  refine e_al o_158_156 rfl ?_
  refine e_c 72 o_158_157 rfl ?_
  refine s_na (N := 72) (t := 88) (a := 69) (c := 19) o_158_159 (by decide) rfl ⟨rfl, rfl, by decide⟩ (fun h1 e1 _ => ?_)
  subst e1
  refine e_pR o_158_161 rfl (by decide) ?_
  refine e_al o_158_164 rfl ?_
  refine e_c 72 o_158_165 rfl ?_
  refine s_na (N := 72) (t := 89) (a := 69) (c := 19) o_158_167 (by decide) rfl ⟨rfl, rfl, by decide⟩ (fun h1 e1 _ => ?_)
  subst e1
  refine e_pR o_158_169 rfl (by decide) ?_
  refine e_al o_158_172 rfl ?_
  refine e_c 72 o_158_173 rfl ?_
  refine s_na (N := 72) (t := 90) (a := 69) (c := 19) o_158_175 (by decide) rfl ⟨rfl, rfl, by decide⟩ (fun h1 e1 _ => ?_)
  subst e1
  refine e_pR o_158_177 rfl (by decide) ?_
  refine e_al o_158_180 rfl ?_
  refine e_c 72 o_158_181 rfl ?_
  refine s_na (N := 72) (t := 91) (a := 69) (c := 19) o_158_183 (by decide) rfl ⟨rfl, rfl, by decide⟩ (fun h1 e1 _ => ?_)
  subst e1
  refine e_pR o_158_185 rfl (by decide) ?_
  refine e_al o_158_188 rfl ?_
  refine e_c 2 o_158_189 rfl ?_
  refine s_na (N := 2) (t := 92) (a := 69) (c := 19) o_158_190 (by decide) rfl ⟨rfl, rfl, by decide⟩ (fun h1 e1 _ => ?_)
  subst e1
  refine e_pR o_158_192 rfl (by decide) ?_
  refine e_al o_158_195 rfl ?_
  refine e_c 2 o_158_196 rfl ?_
  refine s_na (N := 2) (t := 93) (a := 69) (c := 19) o_158_197 (by decide) rfl ⟨rfl, rfl, by decide⟩ (fun h1 e1 _ => ?_)
  subst e1
  refine e_pR o_158_199 rfl (by decide) ?_
  refine e_al o_158_202 rfl ?_
  refine e_c 400 o_158_203 rfl ?_
  refine s_na (N := 400) (t := 94) (a := 69) (c := 19) o_158_206 (by decide) rfl ⟨rfl, rfl, by decide⟩ (fun h1 e1 _ => ?_)
  subst e1
  refine e_pR o_158_208 rfl (by decide) ?_
  refine e_al o_158_211 rfl ?_
  refine e_c 400 o_158_212 rfl ?_
  refine s_na (N := 400) (t := 95) (a := 69) (c := 19) o_158_215 (by decide) rfl ⟨rfl, rfl, by decide⟩ (fun h1 e1 _ => ?_)
  subst e1
  refine e_pR o_158_217 rfl (by decide) ?_
  refine e_al o_158_220 rfl ?_
  refine e_c 16 o_158_221 rfl ?_
  refine s_na (N := 16) (t := 96) (a := 69) (c := 19) o_158_223 (by decide) rfl ⟨rfl, rfl, by decide⟩ (fun h1 e1 _ => ?_)
  subst e1
  refine e_pR o_158_225 rfl (by decide) ?_
  refine e_al o_158_228 rfl ?_
  refine e_c 16 o_158_229 rfl ?_
  refine s_na (N := 16) (t := 97) (a := 69) (c := 19) o_158_231 (by decide) rfl ⟨rfl, rfl, by decide⟩ (fun h1 e1 _ => ?_)
  subst e1
  refine e_pR o_158_233 rfl (by decide) ?_
  refine e_al o_158_236 rfl ?_
  refine e_c 260 o_158_237 rfl ?_
  refine s_na (N := 260) (t := 98) (a := 69) (c := 19) o_158_240 (by decide) rfl ⟨rfl, rfl, by decide⟩ (fun h1 e1 _ => ?_)
  subst e1
  refine e_pR o_158_242 rfl (by decide) ?_
  refine e_al o_158_245 rfl ?_
  refine e_c 260 o_158_246 rfl ?_
  refine s_na (N := 260) (t := 99) (a := 69) (c := 19) o_158_249 (by decide) rfl ⟨rfl, rfl, by decide⟩ (fun h1 e1 _ => ?_)
  subst e1
  refine e_pR o_158_251 rfl (by decide) ?_
  refine e_al o_158_254 rfl ?_
  refine e_c 260 o_158_255 rfl ?_
  refine s_na (N := 260) (t := 100) (a := 69) (c := 19) o_158_258 (by decide) rfl ⟨rfl, rfl, by decide⟩ (fun h1 e1 _ => ?_)
  subst e1
  refine e_pR o_158_260 rfl (by decide) ?_
  refine e_al o_158_263 rfl ?_
  refine e_c 260 o_158_264 rfl ?_
  refine s_na (N := 260) (t := 101) (a := 69) (c := 19) o_158_267 (by decide) rfl ⟨rfl, rfl, by decide⟩ (fun h1 e1 _ => ?_)
  subst e1
  refine e_pR o_158_269 rfl (by decide) ?_
  refine e_al o_158_272 rfl ?_
  refine e_c 260 o_158_273 rfl ?_
  refine s_na (N := 260) (t := 102) (a := 69) (c := 19) o_158_276 (by decide) rfl ⟨rfl, rfl, by decide⟩ (fun h1 e1 _ => ?_)
  subst e1
  refine e_pR o_158_278 rfl (by decide) ?_
  refine e_al o_158_281 rfl ?_
  refine e_c 840 o_158_282 rfl ?_
  refine s_na (N := 840) (t := 103) (a := 69) (c := 19) o_158_285 (by decide) rfl ⟨rfl, rfl, by decide⟩ (fun h1 e1 _ => ?_)
  subst e1
  refine e_pR o_158_287 rfl (by decide) ?_
  refine e_al o_158_290 rfl ?_
  refine e_c 840 o_158_291 rfl ?_
  refine s_na (N := 840) (t := 104) (a := 69) (c := 19) o_158_294 (by decide) rfl ⟨rfl, rfl, by decide⟩ (fun h1 e1 _ => ?_)
  subst e1
  refine e_pR o_158_296 rfl (by decide) ?_
  refine e_al o_158_299 rfl ?_
  refine e_c 64 o_158_300 rfl ?_
  refine s_na (N := 64) (t := 105) (a := 69) (c := 19) o_158_302 (by decide) rfl ⟨rfl, rfl, by decide⟩ (fun h1 e1 _ => ?_)
  subst e1
  refine e_pR o_158_304 rfl (by decide) ?_
  refine e_al o_158_307 rfl ?_
  refine e_c 16 o_158_308 rfl ?_
  refine s_na (N := 16) (t := 106) (a := 69) (c := 19) o_158_310 (by decide) rfl ⟨rfl, rfl, by decide⟩ (fun h1 e1 _ => ?_)
  subst e1
  refine e_pR o_158_312 rfl (by decide) ?_
  refine e_al o_158_315 rfl ?_
  refine e_c 400 o_158_316 rfl ?_
  refine s_na (N := 400) (t := 107) (a := 69) (c := 19) o_158_319 (by decide) rfl ⟨rfl, rfl, by decide⟩ (fun h1 e1 _ => ?_)
  subst e1
  refine e_pR o_158_321 rfl (by decide) ?_
  refine e_al o_158_324 rfl ?_
  refine e_c 20 o_158_325 rfl ?_
  refine s_na (N := 20) (t := 108) (a := 69) (c := 19) o_158_327 (by decide) rfl ⟨rfl, rfl, by decide⟩ (fun h1 e1 _ => ?_)
  subst e1
  refine e_pR o_158_329 rfl (by decide) ?_
  refine e_al o_158_332 rfl ?_
  refine e_c 20 o_158_333 rfl ?_
  refine s_na (N := 20) (t := 109) (a := 69) (c := 19) o_158_335 (by decide) rfl ⟨rfl, rfl, by decide⟩ (fun h1 e1 _ => ?_)
  subst e1
  refine e_pR o_158_337 rfl (by decide) ?_
  refine e_al o_158_340 rfl ?_
  refine e_c 6 o_158_341 rfl ?_
  refine s_na (N := 6) (t := 110) (a := 69) (c := 19) o_158_343 (by decide) rfl ⟨rfl, rfl, by decide⟩ (fun h1 e1 _ => ?_)
  subst e1
  refine e_pR o_158_345 rfl (by decide) ?_
  refine e_al o_158_348 rfl ?_
  refine e_c 301 o_158_349 rfl ?_
  refine s_na (N := 301) (t := 111) (a := 69) (c := 19) o_158_352 (by decide) rfl ⟨rfl, rfl, by decide⟩ (fun h1 e1 _ => ?_)
  subst e1
  refine e_pR o_158_354 rfl (by decide) ?_
  refine e_al o_158_357 rfl ?_
  refine e_c 8 o_158_358 rfl ?_
  refine s_na (N := 8) (t := 112) (a := 69) (c := 19) o_158_360 (by decide) rfl ⟨rfl, rfl, by decide⟩ (fun h1 e1 _ => ?_)
  subst e1
  refine e_pR o_158_362 rfl (by decide) ?_
  refine e_al o_158_365 rfl ?_
  refine e_c 1000 o_158_366 rfl ?_
  refine s_na (N := 1000) (t := 113) (a := 69) (c := 19) o_158_369 (by decide) rfl ⟨rfl, rfl, by decide⟩ (fun h1 e1 _ => ?_)
  subst e1
  refine e_pR o_158_371 rfl (by decide) ?_
  refine e_al o_158_374 rfl ?_
  refine e_c 301 o_158_375 rfl ?_
  refine s_na (N := 301) (t := 114) (a := 69) (c := 19) o_158_378 (by decide) rfl ⟨rfl, rfl, by decide⟩ (fun h1 e1 _ => ?_)
  subst e1
  refine e_pR o_158_380 rfl (by decide) ?_
  refine e_al o_158_383 rfl ?_
  refine e_c 2000 o_158_384 rfl ?_
  refine s_na (N := 2000) (t := 115) (a := 69) (c := 19) o_158_387 (by decide) rfl ⟨rfl, rfl, by decide⟩ (fun h1 e1 _ => ?_)
  subst e1
  refine e_pR o_158_389 rfl (by decide) ?_
  refine e_al o_158_392 rfl ?_
  refine e_c 6 o_158_393 rfl ?_
  refine s_na (N := 6) (t := 116) (a := 69) (c := 19) o_158_395 (by decide) rfl ⟨rfl, rfl, by decide⟩ (fun h1 e1 _ => ?_)
  subst e1
  refine e_pR o_158_397 rfl (by decide) ?_
  refine e_al o_158_400 rfl ?_
  refine e_c 15625 o_158_401 rfl ?_
  refine s_na (N := 15625) (t := 117) (a := 69) (c := 19) o_158_404 (by decide) rfl ⟨rfl, rfl, by decide⟩ (fun h1 e1 _ => ?_)
  subst e1
  refine e_pR o_158_406 rfl (by decide) ?_
  refine e_al o_158_409 rfl ?_
  refine e_c 20 o_158_410 rfl ?_
  refine s_na (N := 20) (t := 118) (a := 69) (c := 19) o_158_412 (by decide) rfl ⟨rfl, rfl, by decide⟩ (fun h1 e1 _ => ?_)
  subst e1
  refine e_pR o_158_414 rfl (by decide) ?_
  refine e_al o_158_417 rfl ?_
  refine e_c 20 o_158_418 rfl ?_
  refine s_na (N := 20) (t := 119) (a := 69) (c := 19) o_158_420 (by decide) rfl ⟨rfl, rfl, by decide⟩ (fun h1 e1 _ => ?_)
  subst e1
  refine e_pR o_158_422 rfl (by decide) ?_
  refine e_al o_158_425 rfl ?_
  refine e_c 20 o_158_426 rfl ?_
  refine s_na (N := 20) (t := 120) (a := 69) (c := 19) o_158_428 (by decide) rfl ⟨rfl, rfl, by decide⟩ (fun h1 e1 _ => ?_)
  subst e1
  refine e_pR o_158_430 rfl (by decide) ?_
  refine e_al o_158_433 rfl ?_
  refine e_c 30 o_158_434 rfl ?_
  refine s_na (N := 30) (t := 121) (a := 69) (c := 19) o_158_436 (by decide) rfl ⟨rfl, rfl, by decide⟩ (fun h1 e1 _ => ?_)
  subst e1
  refine e_pR o_158_438 rfl (by decide) ?_
  refine e_al o_158_441 rfl ?_
  refine e_c 3 o_158_442 rfl ?_
  refine s_na (N := 3) (t := 122) (a := 69) (c := 19) o_158_443 (by decide) rfl ⟨rfl, rfl, by decide⟩ (fun h1 e1 _ => ?_)
  subst e1
  refine e_pR o_158_445 rfl (by decide) ?_
  refine e_al o_158_448 rfl ?_
  refine e_c 60 o_158_449 rfl ?_
  refine s_na (N := 60) (t := 123) (a := 69) (c := 19) o_158_451 (by decide) rfl ⟨rfl, rfl, by decide⟩ (fun h1 e1 _ => ?_)
  subst e1
  refine e_pR o_158_453 rfl (by decide) ?_
  exact k
def rH2 (L : Nat) (xs : Nat → Int32) : XH := (xsL (xsL (xsL (xsL (xsL (xsL (xsL (xsL (xsL (xsL (xsL (xsL (xsL (xsL (xsL (xsL (rH1 L xs) 76 0 (wrd 102 97 99 116 0 0 0)) 76 1 (wrd 103 111 101 115 0 0 0)) 76 2 (wrd 112 97 103 101 0 0 0)) 76 3 (wrd 97 108 108 0 0 0 0)) 76 4 (wrd 115 111 109 101 0 0 0)) 76 5 (wrd 112 97 114 116 0 0 0)) 76 6 (wrd 97 110 100 0 0 0 0)) 76 7 (wrd 115 108 105 112 115 0 0)) 76 8 (wrd 115 101 101 100 0 0 0)) 76 9 (wrd 105 102 0 0 0 0 0)) 76 10 (wrd 116 104 101 110 0 0 0)) 76 11 (wrd 101 108 115 101 0 0 0)) 76 12 (wrd 109 105 110 101 0 0 0)) 76 13 (wrd 121 111 117 114 115 0 0)) 76 14 (wrd 116 104 105 115 0 0 0)) 76 15 (wrd 100 97 121 0 0 0 0))
set_option maxHeartbeats 16000000 in
set_option maxRecDepth 100000 in
theorem K_158b {L : Nat} {xs : Nat → Int32} {Q : Value → XH → Prop} (k : Ev 158 783 [.ref 69] [] (rH2 L xs) Q) : Ev 158 456 [.ref 69] [] (rH1 L xs) Q := by
  refine e_al o_158_456 rfl ?_
  refine e_gR (r := 76) o_158_457 rfl rfl (by decide) ?_
  refine e_c 0 o_158_460 rfl ?_
  refine e_c 102 o_158_461 rfl ?_
  refine e_c 97 o_158_463 rfl ?_
  refine e_c 99 o_158_465 rfl ?_
  refine e_c 116 o_158_467 rfl ?_
  refine e_c 0 o_158_469 rfl ?_
  refine e_c 0 o_158_470 rfl ?_
  refine e_c 0 o_158_471 rfl ?_
  refine e_clL (as := [.int 102, .int 97, .int 99, .int 116, .int 0, .int 0, .int 0]) (rest := [.int 0, .ref 76]) (K := fun v h1 => v = (wrd 102 97 99 116 0 0 0) ∧ h1 = _) o_158_472 rfl rfl (x_okd cl_158_159 ml_159 (Nat.le_of_ble_eq_true rfl) (Nat.le_of_ble_eq_true rfl)) rfl (c_wrd ⟨rfl, rfl⟩) ?_
  rintro v h1 ⟨rfl, rfl⟩
  refine e_las (n := 16) o_158_475 rfl rfl (show InB (nI 0) 16 from inb (by decide) (by decide)) ?_
  refine e_al o_158_476 rfl ?_
  refine e_gR (r := 76) o_158_477 rfl rfl (by decide) ?_
  refine e_c 1 o_158_480 rfl ?_
  refine e_c 103 o_158_481 rfl ?_
  refine e_c 111 o_158_483 rfl ?_
  refine e_c 101 o_158_485 rfl ?_
  refine e_c 115 o_158_487 rfl ?_
  refine e_c 0 o_158_489 rfl ?_
  refine e_c 0 o_158_490 rfl ?_
  refine e_c 0 o_158_491 rfl ?_
  refine e_clL (as := [.int 103, .int 111, .int 101, .int 115, .int 0, .int 0, .int 0]) (rest := [.int 1, .ref 76]) (K := fun v h1 => v = (wrd 103 111 101 115 0 0 0) ∧ h1 = _) o_158_492 rfl rfl (x_okd cl_158_159 ml_159 (Nat.le_of_ble_eq_true rfl) (Nat.le_of_ble_eq_true rfl)) rfl (c_wrd ⟨rfl, rfl⟩) ?_
  rintro v h1 ⟨rfl, rfl⟩
  refine e_las (n := 16) o_158_495 rfl rfl (show InB (nI 1) 16 from inb (by decide) (by decide)) ?_
  refine e_al o_158_496 rfl ?_
  refine e_gR (r := 76) o_158_497 rfl rfl (by decide) ?_
  refine e_c 2 o_158_500 rfl ?_
  refine e_c 112 o_158_501 rfl ?_
  refine e_c 97 o_158_503 rfl ?_
  refine e_c 103 o_158_505 rfl ?_
  refine e_c 101 o_158_507 rfl ?_
  refine e_c 0 o_158_509 rfl ?_
  refine e_c 0 o_158_510 rfl ?_
  refine e_c 0 o_158_511 rfl ?_
  refine e_clL (as := [.int 112, .int 97, .int 103, .int 101, .int 0, .int 0, .int 0]) (rest := [.int 2, .ref 76]) (K := fun v h1 => v = (wrd 112 97 103 101 0 0 0) ∧ h1 = _) o_158_512 rfl rfl (x_okd cl_158_159 ml_159 (Nat.le_of_ble_eq_true rfl) (Nat.le_of_ble_eq_true rfl)) rfl (c_wrd ⟨rfl, rfl⟩) ?_
  rintro v h1 ⟨rfl, rfl⟩
  refine e_las (n := 16) o_158_515 rfl rfl (show InB (nI 2) 16 from inb (by decide) (by decide)) ?_
  refine e_al o_158_516 rfl ?_
  refine e_gR (r := 76) o_158_517 rfl rfl (by decide) ?_
  refine e_c 3 o_158_520 rfl ?_
  refine e_c 97 o_158_521 rfl ?_
  refine e_c 108 o_158_523 rfl ?_
  refine e_c 108 o_158_525 rfl ?_
  refine e_c 0 o_158_527 rfl ?_
  refine e_c 0 o_158_528 rfl ?_
  refine e_c 0 o_158_529 rfl ?_
  refine e_c 0 o_158_530 rfl ?_
  refine e_clL (as := [.int 97, .int 108, .int 108, .int 0, .int 0, .int 0, .int 0]) (rest := [.int 3, .ref 76]) (K := fun v h1 => v = (wrd 97 108 108 0 0 0 0) ∧ h1 = _) o_158_531 rfl rfl (x_okd cl_158_159 ml_159 (Nat.le_of_ble_eq_true rfl) (Nat.le_of_ble_eq_true rfl)) rfl (c_wrd ⟨rfl, rfl⟩) ?_
  rintro v h1 ⟨rfl, rfl⟩
  refine e_las (n := 16) o_158_534 rfl rfl (show InB (nI 3) 16 from inb (by decide) (by decide)) ?_
  refine e_al o_158_535 rfl ?_
  refine e_gR (r := 76) o_158_536 rfl rfl (by decide) ?_
  refine e_c 4 o_158_539 rfl ?_
  refine e_c 115 o_158_540 rfl ?_
  refine e_c 111 o_158_542 rfl ?_
  refine e_c 109 o_158_544 rfl ?_
  refine e_c 101 o_158_546 rfl ?_
  refine e_c 0 o_158_548 rfl ?_
  refine e_c 0 o_158_549 rfl ?_
  refine e_c 0 o_158_550 rfl ?_
  refine e_clL (as := [.int 115, .int 111, .int 109, .int 101, .int 0, .int 0, .int 0]) (rest := [.int 4, .ref 76]) (K := fun v h1 => v = (wrd 115 111 109 101 0 0 0) ∧ h1 = _) o_158_551 rfl rfl (x_okd cl_158_159 ml_159 (Nat.le_of_ble_eq_true rfl) (Nat.le_of_ble_eq_true rfl)) rfl (c_wrd ⟨rfl, rfl⟩) ?_
  rintro v h1 ⟨rfl, rfl⟩
  refine e_las (n := 16) o_158_554 rfl rfl (show InB (nI 4) 16 from inb (by decide) (by decide)) ?_
  refine e_al o_158_555 rfl ?_
  refine e_gR (r := 76) o_158_556 rfl rfl (by decide) ?_
  refine e_c 5 o_158_559 rfl ?_
  refine e_c 112 o_158_560 rfl ?_
  refine e_c 97 o_158_562 rfl ?_
  refine e_c 114 o_158_564 rfl ?_
  refine e_c 116 o_158_566 rfl ?_
  refine e_c 0 o_158_568 rfl ?_
  refine e_c 0 o_158_569 rfl ?_
  refine e_c 0 o_158_570 rfl ?_
  refine e_clL (as := [.int 112, .int 97, .int 114, .int 116, .int 0, .int 0, .int 0]) (rest := [.int 5, .ref 76]) (K := fun v h1 => v = (wrd 112 97 114 116 0 0 0) ∧ h1 = _) o_158_571 rfl rfl (x_okd cl_158_159 ml_159 (Nat.le_of_ble_eq_true rfl) (Nat.le_of_ble_eq_true rfl)) rfl (c_wrd ⟨rfl, rfl⟩) ?_
  rintro v h1 ⟨rfl, rfl⟩
  refine e_las (n := 16) o_158_574 rfl rfl (show InB (nI 5) 16 from inb (by decide) (by decide)) ?_
  refine e_al o_158_575 rfl ?_
  refine e_gR (r := 76) o_158_576 rfl rfl (by decide) ?_
  refine e_c 6 o_158_579 rfl ?_
  refine e_c 97 o_158_581 rfl ?_
  refine e_c 110 o_158_583 rfl ?_
  refine e_c 100 o_158_585 rfl ?_
  refine e_c 0 o_158_587 rfl ?_
  refine e_c 0 o_158_588 rfl ?_
  refine e_c 0 o_158_589 rfl ?_
  refine e_c 0 o_158_590 rfl ?_
  refine e_clL (as := [.int 97, .int 110, .int 100, .int 0, .int 0, .int 0, .int 0]) (rest := [.int 6, .ref 76]) (K := fun v h1 => v = (wrd 97 110 100 0 0 0 0) ∧ h1 = _) o_158_591 rfl rfl (x_okd cl_158_159 ml_159 (Nat.le_of_ble_eq_true rfl) (Nat.le_of_ble_eq_true rfl)) rfl (c_wrd ⟨rfl, rfl⟩) ?_
  rintro v h1 ⟨rfl, rfl⟩
  refine e_las (n := 16) o_158_594 rfl rfl (show InB (nI 6) 16 from inb (by decide) (by decide)) ?_
  refine e_al o_158_595 rfl ?_
  refine e_gR (r := 76) o_158_596 rfl rfl (by decide) ?_
  refine e_c 7 o_158_599 rfl ?_
  refine e_c 115 o_158_601 rfl ?_
  refine e_c 108 o_158_603 rfl ?_
  refine e_c 105 o_158_605 rfl ?_
  refine e_c 112 o_158_607 rfl ?_
  refine e_c 115 o_158_609 rfl ?_
  refine e_c 0 o_158_611 rfl ?_
  refine e_c 0 o_158_612 rfl ?_
  refine e_clL (as := [.int 115, .int 108, .int 105, .int 112, .int 115, .int 0, .int 0]) (rest := [.int 7, .ref 76]) (K := fun v h1 => v = (wrd 115 108 105 112 115 0 0) ∧ h1 = _) o_158_613 rfl rfl (x_okd cl_158_159 ml_159 (Nat.le_of_ble_eq_true rfl) (Nat.le_of_ble_eq_true rfl)) rfl (c_wrd ⟨rfl, rfl⟩) ?_
  rintro v h1 ⟨rfl, rfl⟩
  refine e_las (n := 16) o_158_616 rfl rfl (show InB (nI 7) 16 from inb (by decide) (by decide)) ?_
  refine e_al o_158_617 rfl ?_
  refine e_gR (r := 76) o_158_618 rfl rfl (by decide) ?_
  refine e_c 8 o_158_621 rfl ?_
  refine e_c 115 o_158_623 rfl ?_
  refine e_c 101 o_158_625 rfl ?_
  refine e_c 101 o_158_627 rfl ?_
  refine e_c 100 o_158_629 rfl ?_
  refine e_c 0 o_158_631 rfl ?_
  refine e_c 0 o_158_632 rfl ?_
  refine e_c 0 o_158_633 rfl ?_
  refine e_clL (as := [.int 115, .int 101, .int 101, .int 100, .int 0, .int 0, .int 0]) (rest := [.int 8, .ref 76]) (K := fun v h1 => v = (wrd 115 101 101 100 0 0 0) ∧ h1 = _) o_158_634 rfl rfl (x_okd cl_158_159 ml_159 (Nat.le_of_ble_eq_true rfl) (Nat.le_of_ble_eq_true rfl)) rfl (c_wrd ⟨rfl, rfl⟩) ?_
  rintro v h1 ⟨rfl, rfl⟩
  refine e_las (n := 16) o_158_637 rfl rfl (show InB (nI 8) 16 from inb (by decide) (by decide)) ?_
  refine e_al o_158_638 rfl ?_
  refine e_gR (r := 76) o_158_639 rfl rfl (by decide) ?_
  refine e_c 9 o_158_642 rfl ?_
  refine e_c 105 o_158_644 rfl ?_
  refine e_c 102 o_158_646 rfl ?_
  refine e_c 0 o_158_648 rfl ?_
  refine e_c 0 o_158_649 rfl ?_
  refine e_c 0 o_158_650 rfl ?_
  refine e_c 0 o_158_651 rfl ?_
  refine e_c 0 o_158_652 rfl ?_
  refine e_clL (as := [.int 105, .int 102, .int 0, .int 0, .int 0, .int 0, .int 0]) (rest := [.int 9, .ref 76]) (K := fun v h1 => v = (wrd 105 102 0 0 0 0 0) ∧ h1 = _) o_158_653 rfl rfl (x_okd cl_158_159 ml_159 (Nat.le_of_ble_eq_true rfl) (Nat.le_of_ble_eq_true rfl)) rfl (c_wrd ⟨rfl, rfl⟩) ?_
  rintro v h1 ⟨rfl, rfl⟩
  refine e_las (n := 16) o_158_656 rfl rfl (show InB (nI 9) 16 from inb (by decide) (by decide)) ?_
  refine e_al o_158_657 rfl ?_
  refine e_gR (r := 76) o_158_658 rfl rfl (by decide) ?_
  refine e_c 10 o_158_661 rfl ?_
  refine e_c 116 o_158_663 rfl ?_
  refine e_c 104 o_158_665 rfl ?_
  refine e_c 101 o_158_667 rfl ?_
  refine e_c 110 o_158_669 rfl ?_
  refine e_c 0 o_158_671 rfl ?_
  refine e_c 0 o_158_672 rfl ?_
  refine e_c 0 o_158_673 rfl ?_
  refine e_clL (as := [.int 116, .int 104, .int 101, .int 110, .int 0, .int 0, .int 0]) (rest := [.int 10, .ref 76]) (K := fun v h1 => v = (wrd 116 104 101 110 0 0 0) ∧ h1 = _) o_158_674 rfl rfl (x_okd cl_158_159 ml_159 (Nat.le_of_ble_eq_true rfl) (Nat.le_of_ble_eq_true rfl)) rfl (c_wrd ⟨rfl, rfl⟩) ?_
  rintro v h1 ⟨rfl, rfl⟩
  refine e_las (n := 16) o_158_677 rfl rfl (show InB (nI 10) 16 from inb (by decide) (by decide)) ?_
  refine e_al o_158_678 rfl ?_
  refine e_gR (r := 76) o_158_679 rfl rfl (by decide) ?_
  refine e_c 11 o_158_682 rfl ?_
  refine e_c 101 o_158_684 rfl ?_
  refine e_c 108 o_158_686 rfl ?_
  refine e_c 115 o_158_688 rfl ?_
  refine e_c 101 o_158_690 rfl ?_
  refine e_c 0 o_158_692 rfl ?_
  refine e_c 0 o_158_693 rfl ?_
  refine e_c 0 o_158_694 rfl ?_
  refine e_clL (as := [.int 101, .int 108, .int 115, .int 101, .int 0, .int 0, .int 0]) (rest := [.int 11, .ref 76]) (K := fun v h1 => v = (wrd 101 108 115 101 0 0 0) ∧ h1 = _) o_158_695 rfl rfl (x_okd cl_158_159 ml_159 (Nat.le_of_ble_eq_true rfl) (Nat.le_of_ble_eq_true rfl)) rfl (c_wrd ⟨rfl, rfl⟩) ?_
  rintro v h1 ⟨rfl, rfl⟩
  refine e_las (n := 16) o_158_698 rfl rfl (show InB (nI 11) 16 from inb (by decide) (by decide)) ?_
  refine e_al o_158_699 rfl ?_
  refine e_gR (r := 76) o_158_700 rfl rfl (by decide) ?_
  refine e_c 12 o_158_703 rfl ?_
  refine e_c 109 o_158_705 rfl ?_
  refine e_c 105 o_158_707 rfl ?_
  refine e_c 110 o_158_709 rfl ?_
  refine e_c 101 o_158_711 rfl ?_
  refine e_c 0 o_158_713 rfl ?_
  refine e_c 0 o_158_714 rfl ?_
  refine e_c 0 o_158_715 rfl ?_
  refine e_clL (as := [.int 109, .int 105, .int 110, .int 101, .int 0, .int 0, .int 0]) (rest := [.int 12, .ref 76]) (K := fun v h1 => v = (wrd 109 105 110 101 0 0 0) ∧ h1 = _) o_158_716 rfl rfl (x_okd cl_158_159 ml_159 (Nat.le_of_ble_eq_true rfl) (Nat.le_of_ble_eq_true rfl)) rfl (c_wrd ⟨rfl, rfl⟩) ?_
  rintro v h1 ⟨rfl, rfl⟩
  refine e_las (n := 16) o_158_719 rfl rfl (show InB (nI 12) 16 from inb (by decide) (by decide)) ?_
  refine e_al o_158_720 rfl ?_
  refine e_gR (r := 76) o_158_721 rfl rfl (by decide) ?_
  refine e_c 13 o_158_724 rfl ?_
  refine e_c 121 o_158_726 rfl ?_
  refine e_c 111 o_158_728 rfl ?_
  refine e_c 117 o_158_730 rfl ?_
  refine e_c 114 o_158_732 rfl ?_
  refine e_c 115 o_158_734 rfl ?_
  refine e_c 0 o_158_736 rfl ?_
  refine e_c 0 o_158_737 rfl ?_
  refine e_clL (as := [.int 121, .int 111, .int 117, .int 114, .int 115, .int 0, .int 0]) (rest := [.int 13, .ref 76]) (K := fun v h1 => v = (wrd 121 111 117 114 115 0 0) ∧ h1 = _) o_158_738 rfl rfl (x_okd cl_158_159 ml_159 (Nat.le_of_ble_eq_true rfl) (Nat.le_of_ble_eq_true rfl)) rfl (c_wrd ⟨rfl, rfl⟩) ?_
  rintro v h1 ⟨rfl, rfl⟩
  refine e_las (n := 16) o_158_741 rfl rfl (show InB (nI 13) 16 from inb (by decide) (by decide)) ?_
  refine e_al o_158_742 rfl ?_
  refine e_gR (r := 76) o_158_743 rfl rfl (by decide) ?_
  refine e_c 14 o_158_746 rfl ?_
  refine e_c 116 o_158_748 rfl ?_
  refine e_c 104 o_158_750 rfl ?_
  refine e_c 105 o_158_752 rfl ?_
  refine e_c 115 o_158_754 rfl ?_
  refine e_c 0 o_158_756 rfl ?_
  refine e_c 0 o_158_757 rfl ?_
  refine e_c 0 o_158_758 rfl ?_
  refine e_clL (as := [.int 116, .int 104, .int 105, .int 115, .int 0, .int 0, .int 0]) (rest := [.int 14, .ref 76]) (K := fun v h1 => v = (wrd 116 104 105 115 0 0 0) ∧ h1 = _) o_158_759 rfl rfl (x_okd cl_158_159 ml_159 (Nat.le_of_ble_eq_true rfl) (Nat.le_of_ble_eq_true rfl)) rfl (c_wrd ⟨rfl, rfl⟩) ?_
  rintro v h1 ⟨rfl, rfl⟩
  refine e_las (n := 16) o_158_762 rfl rfl (show InB (nI 14) 16 from inb (by decide) (by decide)) ?_
  refine e_al o_158_763 rfl ?_
  refine e_gR (r := 76) o_158_764 rfl rfl (by decide) ?_
  refine e_c 15 o_158_767 rfl ?_
  refine e_c 100 o_158_769 rfl ?_
  refine e_c 97 o_158_771 rfl ?_
  refine e_c 121 o_158_773 rfl ?_
  refine e_c 0 o_158_775 rfl ?_
  refine e_c 0 o_158_776 rfl ?_
  refine e_c 0 o_158_777 rfl ?_
  refine e_c 0 o_158_778 rfl ?_
  refine e_clL (as := [.int 100, .int 97, .int 121, .int 0, .int 0, .int 0, .int 0]) (rest := [.int 15, .ref 76]) (K := fun v h1 => v = (wrd 100 97 121 0 0 0 0) ∧ h1 = _) o_158_779 rfl rfl (x_okd cl_158_159 ml_159 (Nat.le_of_ble_eq_true rfl) (Nat.le_of_ble_eq_true rfl)) rfl (c_wrd ⟨rfl, rfl⟩) ?_
  rintro v h1 ⟨rfl, rfl⟩
  refine e_las (n := 16) o_158_782 rfl rfl (show InB (nI 15) 16 from inb (by decide) (by decide)) ?_
  exact k
def rH3 (L : Nat) (xs : Nat → Int32) : XH := (xsI (rH2 L xs) 83 0 1)
set_option maxHeartbeats 16000000 in
set_option maxRecDepth 100000 in
theorem K_158c {L : Nat} {xs : Nat → Int32} {Q : Value → XH → Prop} (k : Ev 158 790 [.ref 69] [] (rH3 L xs) Q) : Ev 158 783 [.ref 69] [] (rH2 L xs) Q := by
  refine e_al o_158_783 rfl ?_
  refine e_gR (r := 83) o_158_784 rfl rfl (by decide) ?_
  refine e_c 0 o_158_787 rfl ?_
  refine e_c 1 o_158_788 rfl ?_
  refine e_ias (n := 2) o_158_789 rfl (by decide) rfl (show InB (nI 0) 2 from inb (by decide) (by decide)) ?_
  exact k
def wdV (k : Nat) : Int64 := ([(wrd 102 97 99 116 0 0 0), (wrd 103 111 101 115 0 0 0), (wrd 112 97 103 101 0 0 0), (wrd 97 108 108 0 0 0 0), (wrd 115 111 109 101 0 0 0), (wrd 112 97 114 116 0 0 0), (wrd 97 110 100 0 0 0 0), (wrd 115 108 105 112 115 0 0), (wrd 115 101 101 100 0 0 0), (wrd 105 102 0 0 0 0 0), (wrd 116 104 101 110 0 0 0), (wrd 101 108 115 101 0 0 0), (wrd 109 105 110 101 0 0 0), (wrd 121 111 117 114 115 0 0), (wrd 116 104 105 115 0 0 0), (wrd 100 97 121 0 0 0 0)] : List Int64).getD k 0
theorem wdV_ok : ∀ k, k < 16 → wdV k = oL (enc 27 (KW (KRi k))) := by decide +kernel
