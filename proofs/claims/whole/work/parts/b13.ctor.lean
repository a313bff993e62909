/-! CONSTRUCTORS of the one side -/
section CTS
variable {mi pc x y nx : Nat} {imm : Int} {sw : List (Int × Nat)} {ls st : List Value} {h : XH} {Q : Value → XH → Prop} {t a c N r : Nat} {n v : Int32}
def fT (h : XH) (t a c : Nat) : Prop := xT h = t ∧ xK h a = c ∧ a < t
theorem fT.nw {k m : Nat} (f : fT h t a c) : fT (xnew h k m) (t + 1) a c := ⟨by show xT h + 1 = t + 1; rw [f.1], by
  show up (xK h) (xT h) k a = c
  rw [up_ne (by have := f.1; have := f.2.2; omega)]
  exact f.2.1, by have := f.2.2; omega⟩
theorem fT.sR {d j q : Nat} (f : fT h t a c) : fT (xsR h d j q) t a c := f
theorem fT.sI {d j : Nat} {w : Int32} (f : fT h t a c) : fT (xsI h d j w) t a c := f
theorem s_na (ho : x_ops mi pc = some (38, imm, x, y, nx, sw)) (hn : ¬ (n < 0 ∨ 60000000 < n.toNatClampNeg)) (hN : tn n = N) (f : fT h t a c) (k : ∀ h', h' = xnew h x N → fT h' (t + 1) a c → Ev mi nx ls (.ref t :: st) h' Q) : Ev mi pc ls (.int n :: st) h Q := by
  refine e_na ho hn ?_
  rw [f.1, hN]
  exact k _ rfl f.nw
theorem s_pR (ho : x_ops mi pc = some (30, imm, x, y, nx, sw)) (f : fT h t a (10 + x)) (hr : r ≠ 0) (k : ∀ h', h' = xsR h a y r → fT h' t a (10 + x) → Ev mi nx ls st h' Q) : Ev mi pc ls (.ref r :: .ref a :: st) h Q := e_pR ho f.2.1 hr (k _ rfl f)
theorem s_pI (ho : x_ops mi pc = some (28, imm, x, y, nx, sw)) (f : fT h t a (10 + x)) (k : ∀ h', h' = xsI h a y v → fT h' t a (10 + x) → Ev mi nx ls st h' Q) : Ev mi pc ls (.int v :: .ref a :: st) h Q := e_pI ho f.2.1 (k _ rfl f)
theorem s_pZ (ho : x_ops mi pc = some (29, imm, x, y, nx, sw)) (f : fT h t a (10 + x)) (hv : v = 0 ∨ v = 1) (k : ∀ h', h' = xsI h a y v → fT h' t a (10 + x) → Ev mi nx ls st h' Q) : Ev mi pc ls (.int v :: .ref a :: st) h Q := e_pZ ho f.2.1 hv (k _ rfl f)
end CTS

def scH (a t : Nat) (h : XH) : XH := (xsR (xnew (xsR (xnew (xsR (xnew (xsR (xnew (xsR (xnew (xsR (xnew (xsR (xnew (xsR (xnew (xsR (xnew (xsI (xsI h a 6 1) a 8 1) 1 8) a 9 t) 1 8) a 10 (t + 1)) 1 8) a 11 (t + 2)) 1 8) a 12 (t + 3)) 1 6) a 13 (t + 4)) 1 6) a 14 (t + 5)) 1 6) a 15 (t + 6)) 1 36) a 16 (t + 7)) 1 512) a 17 (t + 8))
set_option maxHeartbeats 4000000 in
theorem K_3 {a t : Nat} {h : XH} {Q : Value → XH → Prop} (f : fT h t a (10 + 5)) (k : Q .null (scH a t h)) : Ev 3 0 (x_ini 3 [.ref a]) [] h Q := by
  rw [show x_ini 3 [.ref a] = [.ref a] from x_inid ml_3 rfl]
  refine e_al o_3_0 rfl ?_
  refine e_obj o_3_1 (Nat.le_of_ble_eq_true rfl) ?_
  refine e_al o_3_4 rfl ?_
  refine e_c 1 o_3_5 rfl ?_
  refine s_pI o_3_6 f (fun h1 e1 f1 => ?_)
  refine e_al o_3_9 rfl ?_
  refine e_c 1 o_3_10 rfl ?_
  refine s_pZ o_3_11 f1 (by decide) (fun h2 e2 f2 => ?_)
  refine e_al o_3_14 rfl ?_
  refine e_c 8 o_3_15 rfl ?_
  refine s_na (N := 8) o_3_17 (by decide) rfl f2 (fun h3 e3 f3 => ?_)
  refine s_pR o_3_19 f3 (by have := f.2.2; omega) (fun h4 e4 f4 => ?_)
  refine e_al o_3_22 rfl ?_
  refine e_c 8 o_3_23 rfl ?_
  refine s_na (N := 8) o_3_25 (by decide) rfl f4 (fun h5 e5 f5 => ?_)
  refine s_pR o_3_27 f5 (by have := f.2.2; omega) (fun h6 e6 f6 => ?_)
  refine e_al o_3_30 rfl ?_
  refine e_c 8 o_3_31 rfl ?_
  refine s_na (N := 8) o_3_33 (by decide) rfl f6 (fun h7 e7 f7 => ?_)
  refine s_pR o_3_35 f7 (by have := f.2.2; omega) (fun h8 e8 f8 => ?_)
  refine e_al o_3_38 rfl ?_
  refine e_c 8 o_3_39 rfl ?_
  refine s_na (N := 8) o_3_41 (by decide) rfl f8 (fun h9 e9 f9 => ?_)
  refine s_pR o_3_43 f9 (by have := f.2.2; omega) (fun h10 e10 f10 => ?_)
  refine e_al o_3_46 rfl ?_
  refine e_c 6 o_3_47 rfl ?_
  refine s_na (N := 6) o_3_49 (by decide) rfl f10 (fun h11 e11 f11 => ?_)
  refine s_pR o_3_51 f11 (by have := f.2.2; omega) (fun h12 e12 f12 => ?_)
  refine e_al o_3_54 rfl ?_
  refine e_c 6 o_3_55 rfl ?_
  refine s_na (N := 6) o_3_57 (by decide) rfl f12 (fun h13 e13 f13 => ?_)
  refine s_pR o_3_59 f13 (by have := f.2.2; omega) (fun h14 e14 f14 => ?_)
  refine e_al o_3_62 rfl ?_
  refine e_c 6 o_3_63 rfl ?_
  refine s_na (N := 6) o_3_65 (by decide) rfl f14 (fun h15 e15 f15 => ?_)
  refine s_pR o_3_67 f15 (by have := f.2.2; omega) (fun h16 e16 f16 => ?_)
  refine e_al o_3_70 rfl ?_
  refine e_c 36 o_3_71 rfl ?_
  refine s_na (N := 36) o_3_73 (by decide) rfl f16 (fun h17 e17 f17 => ?_)
  refine s_pR o_3_75 f17 (by have := f.2.2; omega) (fun h18 e18 f18 => ?_)
  refine e_al o_3_78 rfl ?_
  refine e_c 512 o_3_79 rfl ?_
  refine s_na (N := 512) o_3_82 (by decide) rfl f18 (fun h19 e19 f19 => ?_)
  refine s_pR o_3_84 f19 (by have := f.2.2; omega) (fun h20 e20 f20 => ?_)
  subst e1 e2 e3 e4 e5 e6 e7 e8 e9 e10 e11 e12 e13 e14 e15 e16 e17 e18 e19 e20
  exact e_ret0 o_3_87 k
theorem scH_t {a t : Nat} {h : XH} {d c : Nat} (f : fT h t d c) : fT (scH a t h) (t + 9) d c := f.sI.sI.nw.sR.nw.sR.nw.sR.nw.sR.nw.sR.nw.sR.nw.sR.nw.sR.nw.sR
def prH (a b t : Nat) (h : XH) : XH := (xsR (xsR (xnew (xsR (xnew (xsR (xnew (xsR (xnew h 1 32) a 1 t) 1 301) a 2 (t + 1)) 1 8) a 3 (t + 2)) 1 6) a 4 (t + 3)) a 0 b)
set_option maxHeartbeats 4000000 in
theorem K_4 {a b t : Nat} {h : XH} {Q : Value → XH → Prop} (f : fT h t a (10 + 3)) (hb : b ≠ 0) (k : Q .null (prH a b t h)) : Ev 4 0 (x_ini 4 [.ref a, .ref b]) [] h Q := by
  rw [show x_ini 4 [.ref a, .ref b] = [.ref a, .ref b] from x_inid ml_4 rfl]
  refine e_al o_4_0 rfl ?_
  refine e_obj o_4_1 (Nat.le_of_ble_eq_true rfl) ?_
  refine e_al o_4_4 rfl ?_
  refine e_c 32 o_4_5 rfl ?_
  refine s_na (N := 32) o_4_7 (by decide) rfl f (fun h1 e1 f1 => ?_)
  refine s_pR o_4_9 f1 (by have := f.2.2; omega) (fun h2 e2 f2 => ?_)
  refine e_al o_4_12 rfl ?_
  refine e_c 301 o_4_13 rfl ?_
  refine s_na (N := 301) o_4_16 (by decide) rfl f2 (fun h3 e3 f3 => ?_)
  refine s_pR o_4_18 f3 (by have := f.2.2; omega) (fun h4 e4 f4 => ?_)
  refine e_al o_4_21 rfl ?_
  refine e_c 8 o_4_22 rfl ?_
  refine s_na (N := 8) o_4_24 (by decide) rfl f4 (fun h5 e5 f5 => ?_)
  refine s_pR o_4_26 f5 (by have := f.2.2; omega) (fun h6 e6 f6 => ?_)
  refine e_al o_4_29 rfl ?_
  refine e_c 6 o_4_30 rfl ?_
  refine s_na (N := 6) o_4_32 (by decide) rfl f6 (fun h7 e7 f7 => ?_)
  refine s_pR o_4_34 f7 (by have := f.2.2; omega) (fun h8 e8 f8 => ?_)
  refine e_al o_4_37 rfl ?_
  refine e_al o_4_38 rfl ?_
  refine s_pR o_4_39 f8 hb (fun h9 e9 f9 => ?_)
  subst e1 e2 e3 e4 e5 e6 e7 e8 e9
  exact e_ret0 o_4_42 k
theorem prH_t {a b t : Nat} {h : XH} {d c : Nat} (f : fT h t d c) : fT (prH a b t h) (t + 4) d c := f.nw.sR.nw.sR.nw.sR.nw.sR.sR
def paH (a t : Nat) (h : XH) : XH := (xsR (xnew h 1 1000) a 2 t)
set_option maxHeartbeats 4000000 in
theorem K_5 {a t : Nat} {h : XH} {Q : Value → XH → Prop} (f : fT h t a (10 + 2)) (k : Q .null (paH a t h)) : Ev 5 0 (x_ini 5 [.ref a]) [] h Q := by
  rw [show x_ini 5 [.ref a] = [.ref a] from x_inid ml_5 rfl]
  refine e_al o_5_0 rfl ?_
  refine e_obj o_5_1 (Nat.le_of_ble_eq_true rfl) ?_
  refine e_al o_5_4 rfl ?_
  refine e_c 1000 o_5_5 rfl ?_
  refine s_na (N := 1000) o_5_8 (by decide) rfl f (fun h1 e1 f1 => ?_)
  refine s_pR o_5_10 f1 (by have := f.2.2; omega) (fun h2 e2 f2 => ?_)
  subst e1 e2
  exact e_ret0 o_5_13 k
theorem paH_t {a t : Nat} {h : XH} {d c : Nat} (f : fT h t d c) : fT (paH a t h) (t + 1) d c := f.nw.sR
def woH (a b t : Nat) (h : XH) : XH := (xsR (xsR (xnew (xsR (xnew (xsR (xnew (xsR (xnew (xsR (xnew h 1 20) a 2 t) 1 6) a 3 (t + 1)) 1 1) a 4 (t + 2)) 1 1) a 5 (t + 3)) 1 1) a 6 (t + 4)) a 1 b)
set_option maxHeartbeats 4000000 in
theorem K_6 {a b t : Nat} {h : XH} {Q : Value → XH → Prop} (f : fT h t a (10 + 7)) (hb : b ≠ 0) (k : Q .null (woH a b t h)) : Ev 6 0 (x_ini 6 [.ref a, .ref b]) [] h Q := by
  rw [show x_ini 6 [.ref a, .ref b] = [.ref a, .ref b] from x_inid ml_6 rfl]
  refine e_al o_6_0 rfl ?_
  refine e_obj o_6_1 (Nat.le_of_ble_eq_true rfl) ?_
  refine e_al o_6_4 rfl ?_
  refine e_c 20 o_6_5 rfl ?_
  refine s_na (N := 20) o_6_7 (by decide) rfl f (fun h1 e1 f1 => ?_)
  refine s_pR o_6_9 f1 (by have := f.2.2; omega) (fun h2 e2 f2 => ?_)
  refine e_al o_6_12 rfl ?_
  refine e_c 6 o_6_13 rfl ?_
  refine s_na (N := 6) o_6_15 (by decide) rfl f2 (fun h3 e3 f3 => ?_)
  refine s_pR o_6_17 f3 (by have := f.2.2; omega) (fun h4 e4 f4 => ?_)
  refine e_al o_6_20 rfl ?_
  refine e_c 1 o_6_21 rfl ?_
  refine s_na (N := 1) o_6_22 (by decide) rfl f4 (fun h5 e5 f5 => ?_)
  refine s_pR o_6_24 f5 (by have := f.2.2; omega) (fun h6 e6 f6 => ?_)
  refine e_al o_6_27 rfl ?_
  refine e_c 1 o_6_28 rfl ?_
  refine s_na (N := 1) o_6_29 (by decide) rfl f6 (fun h7 e7 f7 => ?_)
  refine s_pR o_6_31 f7 (by have := f.2.2; omega) (fun h8 e8 f8 => ?_)
  refine e_al o_6_34 rfl ?_
  refine e_c 1 o_6_35 rfl ?_
  refine s_na (N := 1) o_6_36 (by decide) rfl f8 (fun h9 e9 f9 => ?_)
  refine s_pR o_6_38 f9 (by have := f.2.2; omega) (fun h10 e10 f10 => ?_)
  refine e_al o_6_41 rfl ?_
  refine e_al o_6_42 rfl ?_
  refine s_pR o_6_43 f10 hb (fun h11 e11 f11 => ?_)
  subst e1 e2 e3 e4 e5 e6 e7 e8 e9 e10 e11
  exact e_ret0 o_6_46 k
theorem woH_t {a b t : Nat} {h : XH} {d c : Nat} (f : fT h t d c) : fT (woH a b t h) (t + 5) d c := f.nw.sR.nw.sR.nw.sR.nw.sR.nw.sR.sR
def stH (a b t : Nat) (h : XH) : XH := (xsR (xsR (xnew (xsR (xnew (xsR (xnew h 1 20) a 3 t) 1 6) a 4 (t + 1)) 4 1) a 5 (t + 2)) a 2 b)
set_option maxHeartbeats 4000000 in
theorem K_7 {a b t : Nat} {h : XH} {Q : Value → XH → Prop} (f : fT h t a (10 + 6)) (hb : b ≠ 0) (k : Q .null (stH a b t h)) : Ev 7 0 (x_ini 7 [.ref a, .ref b]) [] h Q := by
  rw [show x_ini 7 [.ref a, .ref b] = [.ref a, .ref b] from x_inid ml_7 rfl]
  refine e_al o_7_0 rfl ?_
  refine e_obj o_7_1 (Nat.le_of_ble_eq_true rfl) ?_
  refine e_al o_7_4 rfl ?_
  refine e_c 20 o_7_5 rfl ?_
  refine s_na (N := 20) o_7_7 (by decide) rfl f (fun h1 e1 f1 => ?_)
  refine s_pR o_7_9 f1 (by have := f.2.2; omega) (fun h2 e2 f2 => ?_)
  refine e_al o_7_12 rfl ?_
  refine e_c 6 o_7_13 rfl ?_
  refine s_na (N := 6) o_7_15 (by decide) rfl f2 (fun h3 e3 f3 => ?_)
  refine s_pR o_7_17 f3 (by have := f.2.2; omega) (fun h4 e4 f4 => ?_)
  refine e_al o_7_20 rfl ?_
  refine e_c 1 o_7_21 rfl ?_
  refine s_na (N := 1) o_7_22 (by decide) rfl f4 (fun h5 e5 f5 => ?_)
  refine s_pR o_7_24 f5 (by have := f.2.2; omega) (fun h6 e6 f6 => ?_)
  refine e_al o_7_27 rfl ?_
  refine e_al o_7_28 rfl ?_
  refine s_pR o_7_29 f6 hb (fun h7 e7 f7 => ?_)
  subst e1 e2 e3 e4 e5 e6 e7
  exact e_ret0 o_7_32 k
theorem stH_t {a b t : Nat} {h : XH} {d c : Nat} (f : fT h t d c) : fT (stH a b t h) (t + 3) d c := f.nw.sR.nw.sR.nw.sR.sR
def ahH (a b t : Nat) (h : XH) : XH := (xsR (xsR (xnew (xsR (xnew (xsR (xnew (xsR (xnew (xsI h a 0 (-1)) 1 20) a 2 t) 1 20) a 3 (t + 1)) 1 301) a 4 (t + 2)) 1 301) a 5 (t + 3)) a 1 b)
set_option maxHeartbeats 4000000 in
theorem K_8 {a b t : Nat} {h : XH} {Q : Value → XH → Prop} (f : fT h t a (10 + 0)) (hb : b ≠ 0) (k : Q .null (ahH a b t h)) : Ev 8 0 (x_ini 8 [.ref a, .ref b]) [] h Q := by
  rw [show x_ini 8 [.ref a, .ref b] = [.ref a, .ref b] from x_inid ml_8 rfl]
  refine e_al o_8_0 rfl ?_
  refine e_obj o_8_1 (Nat.le_of_ble_eq_true rfl) ?_
  refine e_al o_8_4 rfl ?_
  refine e_c (-1) o_8_5 rfl ?_
  refine s_pI o_8_6 f (fun h1 e1 f1 => ?_)
  refine e_al o_8_9 rfl ?_
  refine e_c 20 o_8_10 rfl ?_
  refine s_na (N := 20) o_8_12 (by decide) rfl f1 (fun h2 e2 f2 => ?_)
  refine s_pR o_8_14 f2 (by have := f.2.2; omega) (fun h3 e3 f3 => ?_)
  refine e_al o_8_17 rfl ?_
  refine e_c 20 o_8_18 rfl ?_
  refine s_na (N := 20) o_8_20 (by decide) rfl f3 (fun h4 e4 f4 => ?_)
  refine s_pR o_8_22 f4 (by have := f.2.2; omega) (fun h5 e5 f5 => ?_)
  refine e_al o_8_25 rfl ?_
  refine e_c 301 o_8_26 rfl ?_
  refine s_na (N := 301) o_8_29 (by decide) rfl f5 (fun h6 e6 f6 => ?_)
  refine s_pR o_8_31 f6 (by have := f.2.2; omega) (fun h7 e7 f7 => ?_)
  refine e_al o_8_34 rfl ?_
  refine e_c 301 o_8_35 rfl ?_
  refine s_na (N := 301) o_8_38 (by decide) rfl f7 (fun h8 e8 f8 => ?_)
  refine s_pR o_8_40 f8 (by have := f.2.2; omega) (fun h9 e9 f9 => ?_)
  refine e_al o_8_43 rfl ?_
  refine e_al o_8_44 rfl ?_
  refine s_pR o_8_45 f9 hb (fun h10 e10 f10 => ?_)
  subst e1 e2 e3 e4 e5 e6 e7 e8 e9 e10
  exact e_ret0 o_8_48 k
theorem ahH_t {a b t : Nat} {h : XH} {d c : Nat} (f : fT h t d c) : fT (ahH a b t h) (t + 4) d c := f.sI.nw.sR.nw.sR.nw.sR.nw.sR.sR
def beH (a b t : Nat) (h : XH) : XH := (xsR (xsR (xnew (xsR (xnew (xsR (xnew (xsR (xnew (xsR (xnew (xsI (xsR (xnew (xsR (xnew (xsR (xnew (xsR (xnew (xsR (xnew h 1 20) a 2 t) 1 20) a 3 (t + 1)) 1 20) a 4 (t + 2)) 1 20) a 5 (t + 3)) 1 5) a 6 (t + 4)) a 7 (-1)) 1 1) a 8 (t + 5)) 1 1) a 9 (t + 6)) 1 1) a 10 (t + 7)) 1 1) a 11 (t + 8)) 1 1) a 12 (t + 9)) a 1 b)
set_option maxHeartbeats 4000000 in
theorem K_9 {a b t : Nat} {h : XH} {Q : Value → XH → Prop} (f : fT h t a (10 + 1)) (hb : b ≠ 0) (k : Q .null (beH a b t h)) : Ev 9 0 (x_ini 9 [.ref a, .ref b]) [] h Q := by
  rw [show x_ini 9 [.ref a, .ref b] = [.ref a, .ref b] from x_inid ml_9 rfl]
  refine e_al o_9_0 rfl ?_
  refine e_obj o_9_1 (Nat.le_of_ble_eq_true rfl) ?_
  refine e_al o_9_4 rfl ?_
  refine e_c 20 o_9_5 rfl ?_
  refine s_na (N := 20) o_9_7 (by decide) rfl f (fun h1 e1 f1 => ?_)
  refine s_pR o_9_9 f1 (by have := f.2.2; omega) (fun h2 e2 f2 => ?_)
  refine e_al o_9_12 rfl ?_
  refine e_c 20 o_9_13 rfl ?_
  refine s_na (N := 20) o_9_15 (by decide) rfl f2 (fun h3 e3 f3 => ?_)
  refine s_pR o_9_17 f3 (by have := f.2.2; omega) (fun h4 e4 f4 => ?_)
  refine e_al o_9_20 rfl ?_
  refine e_c 20 o_9_21 rfl ?_
  refine s_na (N := 20) o_9_23 (by decide) rfl f4 (fun h5 e5 f5 => ?_)
  refine s_pR o_9_25 f5 (by have := f.2.2; omega) (fun h6 e6 f6 => ?_)
  refine e_al o_9_28 rfl ?_
  refine e_c 20 o_9_29 rfl ?_
  refine s_na (N := 20) o_9_31 (by decide) rfl f6 (fun h7 e7 f7 => ?_)
  refine s_pR o_9_33 f7 (by have := f.2.2; omega) (fun h8 e8 f8 => ?_)
  refine e_al o_9_36 rfl ?_
  refine e_c 5 o_9_37 rfl ?_
  refine s_na (N := 5) o_9_38 (by decide) rfl f8 (fun h9 e9 f9 => ?_)
  refine s_pR o_9_40 f9 (by have := f.2.2; omega) (fun h10 e10 f10 => ?_)
  refine e_al o_9_43 rfl ?_
  refine e_c (-1) o_9_44 rfl ?_
  refine s_pI o_9_45 f10 (fun h11 e11 f11 => ?_)
  refine e_al o_9_48 rfl ?_
  refine e_c 1 o_9_49 rfl ?_
  refine s_na (N := 1) o_9_50 (by decide) rfl f11 (fun h12 e12 f12 => ?_)
  refine s_pR o_9_52 f12 (by have := f.2.2; omega) (fun h13 e13 f13 => ?_)
  refine e_al o_9_55 rfl ?_
  refine e_c 1 o_9_56 rfl ?_
  refine s_na (N := 1) o_9_57 (by decide) rfl f13 (fun h14 e14 f14 => ?_)
  refine s_pR o_9_59 f14 (by have := f.2.2; omega) (fun h15 e15 f15 => ?_)
  refine e_al o_9_62 rfl ?_
  refine e_c 1 o_9_63 rfl ?_
  refine s_na (N := 1) o_9_64 (by decide) rfl f15 (fun h16 e16 f16 => ?_)
  refine s_pR o_9_66 f16 (by have := f.2.2; omega) (fun h17 e17 f17 => ?_)
  refine e_al o_9_69 rfl ?_
  refine e_c 1 o_9_70 rfl ?_
  refine s_na (N := 1) o_9_71 (by decide) rfl f17 (fun h18 e18 f18 => ?_)
  refine s_pR o_9_73 f18 (by have := f.2.2; omega) (fun h19 e19 f19 => ?_)
  refine e_al o_9_76 rfl ?_
  refine e_c 1 o_9_77 rfl ?_
  refine s_na (N := 1) o_9_78 (by decide) rfl f19 (fun h20 e20 f20 => ?_)
  refine s_pR o_9_80 f20 (by have := f.2.2; omega) (fun h21 e21 f21 => ?_)
  refine e_al o_9_83 rfl ?_
  refine e_al o_9_84 rfl ?_
  refine s_pR o_9_85 f21 hb (fun h22 e22 f22 => ?_)
  subst e1 e2 e3 e4 e5 e6 e7 e8 e9 e10 e11 e12 e13 e14 e15 e16 e17 e18 e19 e20 e21 e22
  exact e_ret0 o_9_88 k
theorem beH_t {a b t : Nat} {h : XH} {d c : Nat} (f : fT h t d c) : fT (beH a b t h) (t + 10) d c := f.nw.sR.nw.sR.nw.sR.nw.sR.nw.sR.sI.nw.sR.nw.sR.nw.sR.nw.sR.nw.sR.sR
def rdH0 (a t : Nat) (h : XH) : XH := (xsR (xnew (xsR (xnew (xsR (xnew (xsR (xnew (xsR (xnew (xsR (xnew (xsR (xnew h 4 16) a 9 t) 1 402) a 10 (t + 1)) 1 402) a 11 (t + 2)) 4 402) a 12 (t + 3)) 1 32) a 13 (t + 4)) 4 8) a 14 (t + 5)) 4 6) a 15 (t + 6))
theorem rdH0_t {a t : Nat} {h : XH} {d c : Nat} (f : fT h t d c) : fT (rdH0 a t h) (t + 7) d c := f.nw.sR.nw.sR.nw.sR.nw.sR.nw.sR.nw.sR.nw.sR
set_option maxHeartbeats 4000000 in
theorem K_1a {a t : Nat} {h : XH} {Q : Value → XH → Prop} (f : fT h t a (10 + 4)) (k : Ev 1 63 [.ref a, .null, .null, .null] [] (rdH0 a t h) Q) : Ev 1 0 (x_ini 1 [.ref a]) [] h Q := by
  rw [show x_ini 1 [.ref a] = [.ref a, .null, .null, .null] from x_inid ml_1 rfl]
  refine e_al o_1_0 rfl ?_
  refine e_obj o_1_1 (Nat.le_of_ble_eq_true rfl) ?_
  refine e_al o_1_4 rfl ?_
  refine e_c 16 o_1_5 rfl ?_
  refine s_na (N := 16) o_1_7 (by decide) rfl f (fun h1 e1 f1 => ?_)
  refine s_pR o_1_9 f1 (by have := f.2.2; omega) (fun h2 e2 f2 => ?_)
  refine e_al o_1_12 rfl ?_
  refine e_c 402 o_1_13 rfl ?_
  refine s_na (N := 402) o_1_16 (by decide) rfl f2 (fun h3 e3 f3 => ?_)
  refine s_pR o_1_18 f3 (by have := f.2.2; omega) (fun h4 e4 f4 => ?_)
  refine e_al o_1_21 rfl ?_
  refine e_c 402 o_1_22 rfl ?_
  refine s_na (N := 402) o_1_25 (by decide) rfl f4 (fun h5 e5 f5 => ?_)
  refine s_pR o_1_27 f5 (by have := f.2.2; omega) (fun h6 e6 f6 => ?_)
  refine e_al o_1_30 rfl ?_
  refine e_c 402 o_1_31 rfl ?_
  refine s_na (N := 402) o_1_34 (by decide) rfl f6 (fun h7 e7 f7 => ?_)
  refine s_pR o_1_36 f7 (by have := f.2.2; omega) (fun h8 e8 f8 => ?_)
  refine e_al o_1_39 rfl ?_
  refine e_c 32 o_1_40 rfl ?_
  refine s_na (N := 32) o_1_42 (by decide) rfl f8 (fun h9 e9 f9 => ?_)
  refine s_pR o_1_44 f9 (by have := f.2.2; omega) (fun h10 e10 f10 => ?_)
  refine e_al o_1_47 rfl ?_
  refine e_c 8 o_1_48 rfl ?_
  refine s_na (N := 8) o_1_50 (by decide) rfl f10 (fun h11 e11 f11 => ?_)
  refine s_pR o_1_52 f11 (by have := f.2.2; omega) (fun h12 e12 f12 => ?_)
  refine e_al o_1_55 rfl ?_
  refine e_c 6 o_1_56 rfl ?_
  refine s_na (N := 6) o_1_58 (by decide) rfl f12 (fun h13 e13 f13 => ?_)
  refine s_pR o_1_60 f13 (by have := f.2.2; omega) (fun h14 e14 f14 => ?_)
  subst e1 e2 e3 e4 e5 e6 e7 e8 e9 e10 e11 e12 e13 e14
  exact k
