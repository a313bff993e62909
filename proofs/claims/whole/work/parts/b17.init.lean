/-! WHAT THE CONSTRUCTORS MADE -/
/-- a new cell, by its number -/
def ln (h : XH) (t k n s : Nat) : XH := (up h.1 t (fun _ => 0), up h.2.1 t (fun _ => 0), up h.2.2.1 t (fun _ => 0), up h.2.2.2.1 t k, up h.2.2.2.2.1 t n, t + 1, s)
def rcp0 : XH := (ln (xsR (ln (xsR (ln (xsI (xsI (ln (xsR (xLA (xsR (ln (xsR (ln (xsR (ln (xsR (ln (xsR (ln (xsR (ln (xsR (ln (ln (xsI (xsI (xsR (ln (ln (h_ini 0 (fun _ => 0)) 4 18 15 15) 5 2 2000 2015) 4 0 5) 4 1 0) 4 2 (-1)) 6 14 16 2031) 7 4 16 2047) 6 9 7) 8 1 402 2449) 6 10 8) 9 1 402 2851) 6 11 9) 10 4 402 3253) 6 12 10) 11 1 32 3285) 6 13 11) 12 4 8 3293) 6 14 12) 13 4 6 3299) 6 15 13) 7 (wdG 77)) 4 3 6) 14 15 18 3317) 14 6 1) 14 8 1) 15 1 8 3325) 14 9 15) 16 1 8 3333) 14 10 16) 17 1 8 3341)
def rcp1 : XH := (ln (xsR (ln (xsR (ln (xsR (ln (xsR (ln (xsR (ln (xsR (ln (xsI (xsI (ln (xsR (xsR (ln (xsR (ln (xsR (ln (xsR (ln (xsR (ln (xsR (ln (xsR rcp0 14 11 17) 18 1 8 3349) 14 12 18) 19 1 6 3355) 14 13 19) 20 1 6 3361) 14 14 20) 21 1 6 3367) 14 15 21) 22 1 36 3403) 14 16 22) 23 1 512 3915) 14 17 23) 4 4 14) 24 15 18 3933) 24 6 1) 24 8 1) 25 1 8 3941) 24 9 25) 26 1 8 3949) 24 10 26) 27 1 8 3957) 24 11 27) 28 1 8 3965) 24 12 28) 29 1 6 3971) 24 13 29) 30 1 6 3977) 24 14 30) 31 1 6 3983)
def rcp2 : XH := (ln (xsR (ln (ln (xsI (xsR (ln (xsR (xsR (ln (ln (xsR (ln (xsR (xsR (xsR (ln (xsR (ln (xsR (ln (xsR (ln (ln (xsR (xsR (ln (xsR (ln (xsR rcp1 24 15 31) 32 1 36 4019) 24 16 32) 33 1 512 4531) 24 17 33) 4 5 24) 34 13 6 4537) 35 1 32 4569) 34 1 35) 36 1 301 4870) 34 2 36) 37 1 8 4878) 34 3 37) 38 1 6 4884) 34 4 38) 34 0 14) 4 6 34) 39 1 20 4904) 4 7 39) 40 12 3 4907) 41 1 1000 5907) 40 2 41) 4 8 40) 42 1 60 5967) 4 9 42) 4 10 0) 43 17 7 5974) 44 1 20 5994) 43 2 44) 45 1 6 6000)
def rcp3 : XH := (xsR (xsR (xsR (ln (xsR (ln (xsR (ln (xsR (ln (xsI (ln (xsR (xsR (xsR (ln (xsR (ln (xsR (ln (ln (xsR (xsR (xsR (ln (xsR (ln (xsR (ln (xsR rcp2 43 3 45) 46 1 1 6001) 43 4 46) 47 1 1 6002) 43 5 47) 48 1 1 6003) 43 6 48) 43 1 34) 4 11 43) 49 16 6 6009) 50 1 20 6029) 49 3 50) 51 1 6 6035) 49 4 51) 52 4 1 6036) 49 5 52) 49 2 34) 4 12 49) 53 10 6 6042) 53 0 (-1)) 54 1 20 6062) 53 2 54) 55 1 20 6082) 53 3 55) 56 1 301 6383) 53 4 56) 57 1 301 6684) 53 5 57) 53 1 34) 4 13 53)
def rcp4 : XH := (ln (xsR (ln (xsR (ln (ln (xsR (xsR (xsR (ln (xsR (ln (xsR (ln (xsR (ln (xsR (ln (xsI (xsR (ln (xsR (ln (xsR (ln (xsR (ln (xsR (ln (ln rcp3 58 11 13 6697) 59 1 20 6717) 58 2 59) 60 1 20 6737) 58 3 60) 61 1 20 6757) 58 4 61) 62 1 20 6777) 58 5 62) 63 1 5 6782) 58 6 63) 58 7 (-1)) 64 1 1 6783) 58 8 64) 65 1 1 6784) 58 9 65) 66 1 1 6785) 58 10 66) 67 1 1 6786) 58 11 67) 68 1 1 6787) 58 12 68) 58 1 34) 4 14 58) 69 19 78 6865) 70 2 2000 8865) 69 1 70) 71 2 2000 10865) 69 3 71) 72 1 403 11268)
def rcp5 : XH := (xsR (ln (xsR (ln (xsR (ln (xsR (ln (xsR (ln (xsR (ln (xsR (ln (xsR (ln (xsR (ln (xsR (ln (xsI (xsR (ln (xsR (ln (xsR (ln (xsR (ln (xsR rcp4 69 5 72) 73 1 403 11671) 69 6 73) 74 1 403 12074) 69 7 74) 75 4 403 12477) 69 8 75) 76 4 16 12493) 69 9 76) 69 17 (-1)) 77 4 14 12507) 69 21 77) 78 1 14 12521) 69 22 78) 79 1 2 12523) 69 23 79) 80 1 16 12539) 69 24 80) 81 1 16 12555) 69 25 81) 82 1 16 12571) 69 26 82) 83 1 2 12573) 69 27 83) 84 1 2 12575) 69 28 84) 85 1 12 12587) 69 29 85) 86 1 12 12599) 69 30 86)
def rcp6 : XH := (xsR (ln (xsR (ln (xsR (ln (xsR (ln (xsR (ln (xsR (ln (xsR (ln (xsR (ln (xsR (ln (xsR (ln (xsR (ln (xsR (ln (xsR (ln (xsR (ln (xsR (ln rcp5 87 1 12 12611) 69 31 87) 88 1 72 12683) 69 33 88) 89 1 72 12755) 69 34 89) 90 1 72 12827) 69 35 90) 91 1 72 12899) 69 36 91) 92 1 2 12901) 69 37 92) 93 1 2 12903) 69 38 93) 94 1 400 13303) 69 40 94) 95 1 400 13703) 69 41 95) 96 1 16 13719) 69 43 96) 97 1 16 13735) 69 44 97) 98 3 260 13995) 69 46 98) 99 1 260 14255) 69 47 99) 100 1 260 14515) 69 48 100) 101 1 260 14775) 69 49 101)
def rcp7 : XH := (xsR (ln (xsR (ln (xsR (ln (xsR (ln (xsR (ln (xsR (ln (xsR (ln (xsR (ln (xsR (ln (xsR (ln (xsR (ln (xsR (ln (xsR (ln (xsR (ln (xsR (ln rcp6 102 1 260 15035) 69 50 102) 103 1 840 15875) 69 52 103) 104 1 840 16715) 69 53 104) 105 1 64 16779) 69 54 105) 106 1 16 16795) 69 56 106) 107 1 400 17195) 69 57 107) 108 1 20 17215) 69 59 108) 109 1 20 17235) 69 60 109) 110 1 6 17241) 69 62 110) 111 1 301 17542) 69 63 111) 112 1 8 17550) 69 64 112) 113 1 1000 18550) 69 66 113) 114 1 301 18851) 69 67 114) 115 1 2000 20851) 69 68 115) 116 1 6 20857) 69 69 116)
def rcp8 : XH := (xsL (xsL (xsL (xsL (xsL (xsL (xsL (xsL (xsL (xsL (xsL (xsL (xsL (xsL (xsL (xsL (xsR (ln (xsR (ln (xsR (ln (xsR (ln (xsR (ln (xsR (ln (xsR (ln rcp7 117 1 15625 36482) 69 70 117) 118 1 20 36502) 69 72 118) 119 1 20 36522) 69 73 119) 120 1 20 36542) 69 74 120) 121 1 30 36572) 69 75 121) 122 3 3 36575) 69 76 122) 123 1 60 36635) 69 77 123) 76 0 (wrd 102 97 99 116 0 0 0)) 76 1 (wrd 103 111 101 115 0 0 0)) 76 2 (wrd 112 97 103 101 0 0 0)) 76 3 (wrd 97 108 108 0 0 0 0)) 76 4 (wrd 115 111 109 101 0 0 0)) 76 5 (wrd 112 97 114 116 0 0 0)) 76 6 (wrd 97 110 100 0 0 0 0)) 76 7 (wrd 115 108 105 112 115 0 0)) 76 8 (wrd 115 101 101 100 0 0 0)) 76 9 (wrd 105 102 0 0 0 0 0)) 76 10 (wrd 116 104 101 110 0 0 0)) 76 11 (wrd 101 108 115 101 0 0 0)) 76 12 (wrd 109 105 110 101 0 0 0)) 76 13 (wrd 121 111 117 114 115 0 0)) 76 14 (wrd 116 104 105 115 0 0 0)) 76 15 (wrd 100 97 121 0 0 0 0))
def rc0 : XH := (xsI rcp8 83 0 1)
/-- alike but for the script -/
def Sim (h h' : XH) : Prop := xK h = xK h' ∧ xR h = xR h' ∧ xL h = xL h' ∧ xT h = xT h' ∧ xS h = xS h' ∧ 1 ≤ xT h ∧ (∀ a, a ≠ 0 → xN h a = xN h' a) ∧ ∀ a, a ≠ 0 → xI h a = xI h' a
section SIM
variable {h h' : XH} {a j k n r : Nat} {v : Int32} {w : Int64} {g : Nat → Int64}
theorem Sim.nw (s : Sim h h') : Sim (xnew h k n) (xnew h' k n) := by
  obtain ⟨s1, s2, s3, s4, s5, s6, s7, s8⟩ := s
  refine ⟨?_, ?_, ?_, ?_, ?_, ?_, fun a ha => ?_, fun a ha => ?_⟩
  · show up (xK h) (xT h) k = up (xK h') (xT h') k; rw [s1, s4]
  · show up (xR h) (xT h) (fun _ => 0) = up (xR h') (xT h') (fun _ => 0); rw [s2, s4]
  · show up (xL h) (xT h) (fun _ => 0) = up (xL h') (xT h') (fun _ => 0); rw [s3, s4]
  · show xT h + 1 = xT h' + 1; rw [s4]
  · show xS h + n = xS h' + n; rw [s5]
  · show 1 ≤ xT h + 1; omega
  · show up (xN h) (xT h) n a = up (xN h') (xT h') n a
    rw [← s4]
    by_cases q : a = xT h
    · rw [q, up_same, up_same]
    · rw [up_ne q, up_ne q]; exact s7 a ha
  · show up (xI h) (xT h) (fun _ => 0) a = up (xI h') (xT h') (fun _ => 0) a
    rw [← s4]
    by_cases q : a = xT h
    · rw [q, up_same, up_same]
    · rw [up_ne q, up_ne q]; exact s8 a ha
theorem Sim.lnw {t m : Nat} (s : Sim h h') (ht : xT h' = t) (hm : xS h' + n = m) : Sim (xnew h k n) (ln h' t k n m) := by
  have e : ln h' t k n m = xnew h' k n := by
    subst ht hm
    rfl
  rw [e]
  exact s.nw
theorem Sim.sI (s : Sim h h') (ha : a ≠ 0) : Sim (xsI h a j v) (xsI h' a j v) := by
  obtain ⟨s1, s2, s3, s4, s5, s6, s7, s8⟩ := s
  refine ⟨s1, s2, s3, s4, s5, s6, s7, fun b hb => ?_⟩
  show up (xI h) a (up (xI h a) j v) b = up (xI h') a (up (xI h' a) j v) b
  by_cases q : b = a
  · rw [q, up_same, up_same, s8 a ha]
  · rw [up_ne q, up_ne q]; exact s8 b hb
theorem Sim.sR (s : Sim h h') : Sim (xsR h a j r) (xsR h' a j r) := by
  obtain ⟨s1, s2, s3, s4, s5, s6, s7, s8⟩ := s
  refine ⟨s1, ?_, s3, s4, s5, s6, s7, s8⟩
  show up (xR h) a (up (xR h a) j r) = up (xR h') a (up (xR h' a) j r)
  rw [s2]
theorem Sim.sL (s : Sim h h') : Sim (xsL h a j w) (xsL h' a j w) := by
  obtain ⟨s1, s2, s3, s4, s5, s6, s7, s8⟩ := s
  refine ⟨s1, s2, ?_, s4, s5, s6, s7, s8⟩
  show up (xL h) a (up (xL h a) j w) = up (xL h') a (up (xL h' a) j w)
  rw [s3]
theorem Sim.lA (s : Sim h h') : Sim (xLA h a g) (xLA h' a g) := by
  obtain ⟨s1, s2, s3, s4, s5, s6, s7, s8⟩ := s
  refine ⟨s1, s2, ?_, s4, s5, s6, s7, s8⟩
  show up (xL h) a g = up (xL h') a g
  rw [s3]
theorem Sim.ini {L : Nat} {xs : Nat → Int32} : Sim (h_ini L xs) (h_ini 0 (fun _ => 0)) := by
  refine ⟨rfl, rfl, rfl, rfl, rfl, show 1 ≤ 4 by decide, fun a ha => ?_, fun a ha => ?_⟩
  · show (if a = 0 then L else if a = 1 then 7 else 0) = (if a = 0 then 0 else if a = 1 then 7 else 0)
    rw [if_neg ha, if_neg ha]
  · show (if a = 0 then xs else if a = 1 then x_five else fun _ => 0) = (if a = 0 then fun _ => 0 else if a = 1 then x_five else fun _ => 0)
    rw [if_neg ha, if_neg ha]
end SIM
/-- nothing stands behind the last cell -/
def Zb (h : XH) : Prop := ∀ a, xT h ≤ a → xK h a = 0
section ZB
variable {h : XH} {a j k n r : Nat} {v : Int32} {w : Int64} {g : Nat → Int64}
theorem Zb.nw (z : Zb h) : Zb (xnew h k n) := by
  intro a ha
  have ha : xT h + 1 ≤ a := ha
  show up (xK h) (xT h) k a = 0
  rw [up_ne (by omega)]
  exact z a (by omega)
theorem Zb.sI (z : Zb h) : Zb (xsI h a j v) := z
theorem Zb.sR (z : Zb h) : Zb (xsR h a j r) := z
theorem Zb.sL (z : Zb h) : Zb (xsL h a j w) := z
theorem Zb.lA (z : Zb h) : Zb (xLA h a g) := z
theorem Zb.ini {L : Nat} {xs : Nat → Int32} : Zb (h_ini L xs) := by
  intro a ha
  have ha : 4 ≤ a := ha
  show (if a = 0 then 1 else if a = 1 then 1 else 0) = 0
  rw [if_neg (by omega), if_neg (by omega)]
end ZB
theorem rc_K : ∀ q ∈ shK, xK rc0 q.1 = q.2 := by decide +kernel
theorem rc_N : ∀ q ∈ shN, xN rc0 q.1 = q.2 ∧ q.1 ≠ 0 := by decide +kernel
theorem rc_R : ∀ q ∈ shR, xR rc0 q.1 q.2.1 = q.2.2 := by decide +kernel
theorem rc_s : xR rc0 34 0 = 14 ∧ xR rc0 4 4 = 14 ∧ xR rc0 4 5 = 24 := by decide +kernel
theorem rc_G : ∀ q ∈ shG, xK rc0 (xR rc0 q.1 q.2.1) = q.2.2.1 ∧ xR rc0 q.1 q.2.1 = q.2.2.2 ∧ xR rc0 q.1 q.2.1 < xT rc0 := by decide +kernel
theorem rc_g : ∀ q ∈ shG, ∀ q' ∈ shG, xR rc0 q.1 q.2.1 = xR rc0 q'.1 q'.2.1 → q = q' := by decide +kernel
theorem rc_T : xT rc0 = 124 ∧ xS rc0 ≤ 40000 ∧ xK rc0 1 = 1 ∧ xN rc0 1 = 7 := by decide +kernel
theorem rc_Gl : ∀ q ∈ shG, xN rc0 (xR rc0 q.1 q.2.1) = 1 ∧ xR rc0 q.1 q.2.1 ≠ 0 := by decide +kernel
set_option maxRecDepth 100000 in
theorem rc_5 : xI rc0 1 = x_five := rfl
theorem rc_0 : ∀ c ∈ [15, 16, 17, 18, 19, 20, 21, 22, 25, 39, 79, 84, 92, 93], ∀ i, i < 36 → xI rc0 c i = 0 := by decide +kernel
theorem rc_14 : xI rc0 14 0 = 0 ∧ xI rc0 14 1 = 0 ∧ xI rc0 14 2 = 0 ∧ xI rc0 14 3 = 0 ∧ xI rc0 14 4 = 0 ∧ xI rc0 14 5 = 0 ∧ xI rc0 14 6 = 1 ∧ xI rc0 14 7 = 0 ∧ xI rc0 14 8 = 1 := by decide +kernel
theorem rc_4 : xI rc0 4 1 = 0 ∧ xI rc0 4 2 = -1 ∧ xI rc0 4 10 = 0 ∧ xI rc0 6 6 = 0 ∧ xI rc0 40 0 = 0 ∧ xI rc0 40 1 = 0 ∧ xI rc0 43 0 = 0 ∧ xI rc0 49 0 = 0 ∧ xI rc0 53 0 = -1 ∧ xI rc0 58 0 = 0 ∧ xI rc0 58 7 = -1 ∧ xI rc0 83 0 = 1 := by decide +kernel
theorem rc_69 : xI rc0 69 2 = 0 ∧ xI rc0 69 17 = -1 ∧ xI rc0 69 18 = 0 ∧ xI rc0 69 65 = 0 ∧ xI rc0 69 71 = 0 ∧ xI rc0 122 0 = 0 ∧ xI rc0 122 1 = 0 ∧ xI rc0 122 2 = 0 := by decide +kernel
theorem rc_w : (∀ w, w < 16 → xL rc0 7 w = oL (enc 32 (KW w))) ∧ ∀ k, k < 16 → xL rc0 76 k = oL (enc 27 (KW (KRi k))) := by decide +kernel
