/-! CONSTRUCTORS: the one side, whole -/
theorem s_new {mi pc x y nx t : Nat} {imm : Int} {sw : List (Int × Nat)} {ls st : List Value} {h : XH} {Q : Value → XH → Prop} (ho : x_ops mi pc = some (39, imm, x, y, nx, sw)) (hT : xT h = t) (k : ∀ h', h' = xnew h (10 + x) (x_nf x) → Ev mi nx ls (.ref t :: st) h' Q) : Ev mi pc ls st h Q := by
  refine e_new ho ?_
  rw [hT]
  exact k _ rfl
theorem xLA_id {h : XH} {c : Nat} {g : Nat → Int64} (e : xL h c = g) : xLA h c g = h := by
  unfold xLA
  have : up h.2.2.1 c g = h.2.2.1 := by
    funext a
    by_cases q : a = c
    · subst q; rw [up_same]; exact e.symm
    · rw [up_ne q]
  rw [this]
theorem K_1 {a t : Nat} {h : XH} {Q : Value → XH → Prop} (f : fT h t a (10 + 4)) (hr : xR (rdH0 a t h) a 9 = t) (hk : xK (rdH0 a t h) t = 4) (hn : xN (rdH0 a t h) t = 16) (hl : xL (rdH0 a t h) t = fun _ => 0) (k : Q .null (rdH a t h)) : Ev 1 0 (x_ini 1 [.ref a]) [] h Q := by
  refine K_1a f ?_
  refine e_c 0 o_1_63 rfl ?_
  refine e_is (ls' := [.ref a, .int 0, .null, .null]) o_1_64 (Nat.le_of_ble_eq_true rfl) rfl ?_
  refine e_c 0 o_1_65 rfl ?_
  refine e_is (ls' := [.ref a, .int 0, .int 0, .null]) o_1_66 (Nat.le_of_ble_eq_true rfl) rfl ?_
  have e : xLA (rdH0 a t h) t (wdG 0) = rdH0 a t h := xLA_id hl
  rw [← e]
  exact l_words (rdH0_t f).2.1 hr (by have := f.2.2; omega) hk hn k 77 0 (by omega)
def cH (L : Nat) (xs : Nat → Int32) : XH := (xsR (beH 58 34 59 (xnew (xsR (ahH 53 34 54 (xnew (xsR (stH 49 34 50 (xnew (xsR (woH 43 34 44 (xnew (xsI (xsR (xnew (xsR (paH 40 41 (xnew (xsR (xnew (xsR (prH 34 14 35 (xnew (xsR (scH 24 25 (xnew (xsR (scH 14 15 (xnew (xsR (rdH 6 7 (xnew (xsI (xsI (xsR (xnew (xnew (h_ini L xs) 18 15) 2 2000) 4 0 5) 4 1 0) 4 2 (-1)) (10 + 4) (x_nf 4))) 4 3 6) (10 + 5) (x_nf 5))) 4 4 14) (10 + 5) (x_nf 5))) 4 5 24) (10 + 3) (x_nf 3))) 4 6 34) 1 20) 4 7 39) (10 + 2) (x_nf 2))) 4 8 40) 1 60) 4 9 42) 4 10 0) (10 + 7) (x_nf 7))) 4 11 43) (10 + 6) (x_nf 6))) 4 12 49) (10 + 0) (x_nf 0))) 4 13 53) (10 + 1) (x_nf 1))) 4 14 58)
set_option maxHeartbeats 8000000 in
theorem K_0 {L : Nat} {xs : Nat → Int32} {Q : Value → XH → Prop} (k : Q .null (cH L xs)) : Ev 0 0 (x_ini 0 [.ref 4]) [] (xnew (h_ini L xs) 18 15) Q := by
  rw [show x_ini 0 [.ref 4] = [.ref 4] from x_inid ml_0 rfl]
  refine e_al o_0_0 rfl ?_
  refine e_obj o_0_1 (Nat.le_of_ble_eq_true rfl) ?_
  refine e_al o_0_4 rfl ?_
  refine e_c 2000 o_0_5 rfl ?_
  refine s_na (N := 2000) (t := 5) (a := 4) (c := 18) o_0_8 (by decide) rfl ⟨rfl, rfl, by decide⟩ (fun h1 e1 _ => ?_)
  subst e1
  refine e_pR o_0_10 rfl (by decide) ?_
  refine e_al o_0_13 rfl ?_
  refine e_c 0 o_0_14 rfl ?_
  refine e_pI o_0_15 rfl ?_
  refine e_al o_0_18 rfl ?_
  refine e_c (-1) o_0_19 rfl ?_
  refine e_pI o_0_20 rfl ?_
  refine e_al o_0_23 rfl ?_
  refine s_new (t := 6) o_0_24 rfl (fun h1 e1 => ?_)
  subst e1
  refine e_dup o_0_27 rfl ?_
  refine e_clV (as := [.ref 6]) (rest := [.ref 6, .ref 4]) (K := fun h1 => h1 = rdH 6 7 _) o_0_28 rfl rfl (x_okd cl_0_1 ml_1 (Nat.le_of_ble_eq_true rfl) (Nat.le_of_ble_eq_true rfl)) rfl (K_1 (t := 7) ⟨rfl, rfl, by decide⟩ rfl rfl rfl rfl ⟨rfl, rfl⟩) ?_
  rintro h1 rfl
  refine e_pR o_0_31 rfl (by decide) ?_
  refine e_al o_0_34 rfl ?_
  refine s_new (t := 14) o_0_35 rfl (fun h1 e1 => ?_)
  subst e1
  refine e_dup o_0_38 rfl ?_
  refine e_clV (as := [.ref 14]) (rest := [.ref 14, .ref 4]) (K := fun h1 => h1 = scH 14 15 _) o_0_39 rfl rfl (x_okd cl_0_3 ml_3 (Nat.le_of_ble_eq_true rfl) (Nat.le_of_ble_eq_true rfl)) rfl (K_3 (t := 15) ⟨rfl, rfl, by decide⟩ ⟨rfl, rfl⟩) ?_
  rintro h1 rfl
  refine e_pR o_0_42 rfl (by decide) ?_
  refine e_al o_0_45 rfl ?_
  refine s_new (t := 24) o_0_46 rfl (fun h1 e1 => ?_)
  subst e1
  refine e_dup o_0_49 rfl ?_
  refine e_clV (as := [.ref 24]) (rest := [.ref 24, .ref 4]) (K := fun h1 => h1 = scH 24 25 _) o_0_50 rfl rfl (x_okd cl_0_3 ml_3 (Nat.le_of_ble_eq_true rfl) (Nat.le_of_ble_eq_true rfl)) rfl (K_3 (t := 25) ⟨rfl, rfl, by decide⟩ ⟨rfl, rfl⟩) ?_
  rintro h1 rfl
  refine e_pR o_0_53 rfl (by decide) ?_
  refine e_al o_0_56 rfl ?_
  refine s_new (t := 34) o_0_57 rfl (fun h1 e1 => ?_)
  subst e1
  refine e_dup o_0_60 rfl ?_
  refine e_al o_0_61 rfl ?_
  refine e_gR (r := 14) o_0_62 rfl rfl (by decide) ?_
  refine e_clV (as := [.ref 34, .ref 14]) (rest := [.ref 34, .ref 4]) (K := fun h1 => h1 = prH 34 14 35 _) o_0_65 rfl rfl (x_okd cl_0_4 ml_4 (Nat.le_of_ble_eq_true rfl) (Nat.le_of_ble_eq_true rfl)) rfl (K_4 (t := 35) ⟨rfl, rfl, by decide⟩ (by decide) ⟨rfl, rfl⟩) ?_
  rintro h1 rfl
  refine e_pR o_0_68 rfl (by decide) ?_
  refine e_al o_0_71 rfl ?_
  refine e_c 20 o_0_72 rfl ?_
  refine s_na (N := 20) (t := 39) (a := 4) (c := 18) o_0_74 (by decide) rfl ⟨rfl, rfl, by decide⟩ (fun h1 e1 _ => ?_)
  subst e1
  refine e_pR o_0_76 rfl (by decide) ?_
  refine e_al o_0_79 rfl ?_
  refine s_new (t := 40) o_0_80 rfl (fun h1 e1 => ?_)
  subst e1
  refine e_dup o_0_83 rfl ?_
  refine e_clV (as := [.ref 40]) (rest := [.ref 40, .ref 4]) (K := fun h1 => h1 = paH 40 41 _) o_0_84 rfl rfl (x_okd cl_0_5 ml_5 (Nat.le_of_ble_eq_true rfl) (Nat.le_of_ble_eq_true rfl)) rfl (K_5 (t := 41) ⟨rfl, rfl, by decide⟩ ⟨rfl, rfl⟩) ?_
  rintro h1 rfl
  refine e_pR o_0_87 rfl (by decide) ?_
  refine e_al o_0_90 rfl ?_
  refine e_c 60 o_0_91 rfl ?_
  refine s_na (N := 60) (t := 42) (a := 4) (c := 18) o_0_93 (by decide) rfl ⟨rfl, rfl, by decide⟩ (fun h1 e1 _ => ?_)
  subst e1
  refine e_pR o_0_95 rfl (by decide) ?_
  refine e_al o_0_98 rfl ?_
  refine e_c 0 o_0_99 rfl ?_
  refine e_pI o_0_100 rfl ?_
  refine e_al o_0_103 rfl ?_
  refine s_new (t := 43) o_0_104 rfl (fun h1 e1 => ?_)
  subst e1
  refine e_dup o_0_107 rfl ?_
  refine e_al o_0_108 rfl ?_
  refine e_gR (r := 34) o_0_109 rfl rfl (by decide) ?_
  refine e_clV (as := [.ref 43, .ref 34]) (rest := [.ref 43, .ref 4]) (K := fun h1 => h1 = woH 43 34 44 _) o_0_112 rfl rfl (x_okd cl_0_6 ml_6 (Nat.le_of_ble_eq_true rfl) (Nat.le_of_ble_eq_true rfl)) rfl (K_6 (t := 44) ⟨rfl, rfl, by decide⟩ (by decide) ⟨rfl, rfl⟩) ?_
  rintro h1 rfl
  refine e_pR o_0_115 rfl (by decide) ?_
  refine e_al o_0_118 rfl ?_
  refine s_new (t := 49) o_0_119 rfl (fun h1 e1 => ?_)
  subst e1
  refine e_dup o_0_122 rfl ?_
  refine e_al o_0_123 rfl ?_
  refine e_gR (r := 34) o_0_124 rfl rfl (by decide) ?_
  refine e_clV (as := [.ref 49, .ref 34]) (rest := [.ref 49, .ref 4]) (K := fun h1 => h1 = stH 49 34 50 _) o_0_127 rfl rfl (x_okd cl_0_7 ml_7 (Nat.le_of_ble_eq_true rfl) (Nat.le_of_ble_eq_true rfl)) rfl (K_7 (t := 50) ⟨rfl, rfl, by decide⟩ (by decide) ⟨rfl, rfl⟩) ?_
  rintro h1 rfl
  refine e_pR o_0_130 rfl (by decide) ?_
  refine e_al o_0_133 rfl ?_
  refine s_new (t := 53) o_0_134 rfl (fun h1 e1 => ?_)
  subst e1
  refine e_dup o_0_137 rfl ?_
  refine e_al o_0_138 rfl ?_
  refine e_gR (r := 34) o_0_139 rfl rfl (by decide) ?_
  refine e_clV (as := [.ref 53, .ref 34]) (rest := [.ref 53, .ref 4]) (K := fun h1 => h1 = ahH 53 34 54 _) o_0_142 rfl rfl (x_okd cl_0_8 ml_8 (Nat.le_of_ble_eq_true rfl) (Nat.le_of_ble_eq_true rfl)) rfl (K_8 (t := 54) ⟨rfl, rfl, by decide⟩ (by decide) ⟨rfl, rfl⟩) ?_
  rintro h1 rfl
  refine e_pR o_0_145 rfl (by decide) ?_
  refine e_al o_0_148 rfl ?_
  refine s_new (t := 58) o_0_149 rfl (fun h1 e1 => ?_)
  subst e1
  refine e_dup o_0_152 rfl ?_
  refine e_al o_0_153 rfl ?_
  refine e_gR (r := 34) o_0_154 rfl rfl (by decide) ?_
  refine e_clV (as := [.ref 58, .ref 34]) (rest := [.ref 58, .ref 4]) (K := fun h1 => h1 = beH 58 34 59 _) o_0_157 rfl rfl (x_okd cl_0_9 ml_9 (Nat.le_of_ble_eq_true rfl) (Nat.le_of_ble_eq_true rfl)) rfl (K_9 (t := 59) ⟨rfl, rfl, by decide⟩ (by decide) ⟨rfl, rfl⟩) ?_
  rintro h1 rfl
  refine e_pR o_0_160 rfl (by decide) ?_
  exact e_ret0 o_0_163 k
