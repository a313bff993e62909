/-! READING: a fact of the one side -/
theorem oL_int {a : Nat} (h : a < 2 ^ 63) : (oL a).toInt = a := Int64.toInt_ofNat_of_lt h
theorem oL_ltI {a b : Nat} (ha : a < 2 ^ 63) (hb : b < 2 ^ 63) : oL a < oL b ↔ a < b := by
  rw [Int64.lt_iff_toInt_lt, oL_int ha, oL_int hb]
  omega
theorem oL_leI {a b : Nat} (ha : a < 2 ^ 63) (hb : b < 2 ^ 63) : oL a ≤ oL b ↔ a ≤ b := by
  rw [Int64.le_iff_toInt_le, oL_int ha, oL_int hb]
  omega
theorem nI_64 {w : Nat} (h : w < 2 ^ 31) : (nI w).toInt64 = oL w := by
  apply Int64.toInt_inj.mp
  rw [Int32.toInt_toInt64, oL_int (by omega)]
  exact Int32.toInt_ofNat_of_lt h
theorem oL_mul {a b : Nat} (h : a * (b + 1) < 2 ^ 60) (ha : a < 2 ^ 60) (hb : b < 2 ^ 60) : oL a * (oL b + 1) = oL (a * (b + 1)) := by
  apply uL_inj
  have e1 : uL (1 : Int64) = 1 := rfl
  rw [uL_mul, uL_add, e1, uL_oL (by omega), uL_oL (by omega), uL_oL (by omega), Nat.mod_eq_of_lt (show b + 1 < 18446744073709551616 by omega), Nat.mod_eq_of_lt (by omega)]
theorem cl13_le (m : Nat) : 1 ≤ cl13 m ∧ cl13 m ≤ 3 := by unfold cl13; split <;> (try split) <;> omega
theorem cl13_L {m : Nat} (hm : m < 10000) : (if (if oL m < 3 then oL m else 3) < 1 then 1 else (if oL m < 3 then oL m else 3) : Int64).toInt32 = nI (cl13 m) := by
  have e3 : oL m < 3 ↔ m < 3 := oL_ltI (b := 3) (by omega) (by decide)
  have e1 : oL m < 1 ↔ m < 1 := oL_ltI (b := 1) (by omega) (by decide)
  unfold cl13
  by_cases q3 : m < 3
  · rw [if_pos (e3.mpr q3), if_pos q3]
    by_cases q1 : m < 1
    · rw [if_pos (e1.mpr q1), if_pos q1]; decide
    · rw [if_neg (fun z => q1 (e1.mp z)), if_neg q1]; exact oL_32 (by omega)
  · rw [if_neg (fun z => q3 (e3.mp z)), if_neg q3, if_neg (show ¬ m < 1 by omega)]
    decide
theorem wcF_le {F : List Fa} : ∀ f, 1 ≤ wcF F f ∧ wcF F f ≤ 2000 := by
  intro f
  induction f with
  | zero => exact ⟨Nat.le_refl _, show 1 ≤ 2000 by decide⟩
  | succ f ih =>
    have := cl13_le (faA F f).2.1
    show 1 ≤ (if wcF F f * (cl13 (faA F f).2.1 + 1) < 2000 then wcF F f * (cl13 (faA F f).2.1 + 1) else 2000) ∧ (if wcF F f * (cl13 (faA F f).2.1 + 1) < 2000 then wcF F f * (cl13 (faA F f).2.1 + 1) else 2000) ≤ 2000
    split
    · rename_i q
      have : 1 ≤ wcF F f * (cl13 (faA F f).2.1 + 1) := Nat.mul_pos ih.1 (by omega)
      omega
    · omega
theorem faA_l {F : List Fa} {x : Fa} {f : Nat} (hf : f < F.length) : faA (F ++ [x]) f = faA F f := by
  unfold faA
  rw [List.getD_eq_getElem?_getD, List.getElem?_append_left hf, ← List.getD_eq_getElem?_getD]
theorem faA_r {F : List Fa} {x : Fa} : faA (F ++ [x]) F.length = x := by
  unfold faA
  rw [List.getD_eq_getElem?_getD, List.getElem?_append_right (Nat.le_refl _), Nat.sub_self]
  rfl
theorem wcF_l {F : List Fa} {x : Fa} : ∀ f, f ≤ F.length → wcF (F ++ [x]) f = wcF F f := by
  intro f
  induction f with
  | zero => intro _; rfl
  | succ f ih =>
    intro hf
    show (if wcF (F ++ [x]) f * (cl13 (faA (F ++ [x]) f).2.1 + 1) < 2000 then _ else _) = (if wcF F f * (cl13 (faA F f).2.1 + 1) < 2000 then _ else _)
    rw [ih (by omega), faA_l (by omega)]
theorem whB_s {F : List Fa} {x : Fa} {w : Nat} : whB (F ++ [x]) w = whB F w ||| (if x.2.2.2 = w then bt F.length else 0) := by
  unfold whB
  rw [ap1]
  show bor _ F.length ||| (if (faA (F ++ [x]) F.length).2.2.2 = w then bt F.length else 0) = _
  rw [faA_r, bor_c F.length (fun i hi => by rw [faA_l hi])]
section JDG
variable (B : Nat → Nat) (n : Nat)
def jd1 (F : List Fa) (G : List Pg) (a : Nat) (m : Md) : Md := if told (nS B n (a + 1)) F G = true then sftS (pS B n) 3 (a + 1) m else m
def jd2 (F : List Fa) (G : List Pg) (a : Nat) (m : Md) : Md := if vS B n (a + 2) < 1 ∨ 3 < vS B n (a + 2) then sftS (pS B n) 5 (a + 2) (jd1 B n F G a m) else jd1 B n F G a m
def jd3 (F : List Fa) (G : List Pg) (a : Nat) (m : Md) : Md := if 2000 < wcF F F.length * (vS B n (a + 2) + 1) then sftS (pS B n) 7 (a + 2) (jd2 B n F G a m) else jd2 B n F G a m
def jd4 (F : List Fa) (G : List Pg) (a : Nat) (m : Md) : Md := if vS B n (a + 2) < vS B n (a + 3) then sftS (pS B n) 5 (a + 3) (jd3 B n F G a m) else jd3 B n F G a m
def fa4 (m : Md) : Md := tkS (kS B n) (pS B n) 3 (tkS (kS B n) (pS B n) 3 (tkS (kS B n) (pS B n) 2 (tkS (kS B n) (pS B n) 100 m)))
def fa5 (m : Md) : Md := match fa4 B n m with
  | .error e => .error e
  | .ok (a, sf, cs, rs) => if kS B n a = 101 ∨ kS B n a = 102 then tkS (kS B n) (pS B n) (kS B n a) (.ok (a, sf, cs, rs)) else .ok (a, sf, cs, rs)
def fa6 (m : Md) : Md := tkS (kS B n) (pS B n) 59 (fa5 B n m)
def jdM (F : List Fa) (G : List Pg) (a : Nat) (m : Md) : Md := match m with
  | .error e => .error e
  | .ok c => jd4 B n F G a (.ok c)
def faS (F : List Fa) (G : List Pg) (a : Nat) (m : Md) : Md := if F.length < 8 then jdM B n F G a (fa6 B n m) else .error (2, pS B n a)
def faN (a : Nat) : Fa := (nS B n (a + 1), vS B n (a + 2), vS B n (a + 3), if kS B n (a + 4) = 101 then 1 else if kS B n (a + 4) = 102 then 2 else 0)
end JDG
section CFA
variable {it : Nat} {B : Nat → Nat} {n : Nat} {h h0 : XH} {m : Md} {Q : Value → XH → Prop} {F : List Fa} {G : List Pg} {LW : List Lw} {BR : List Br} {sl sd pg : Nat}
theorem c_judge {a a' : Nat} {sf : Option (Nat × Nat)} {cs rs : List Cd} {K : XH → Prop} (ha : a + 4 ≤ a') (r : RC it B n (.ok (a', sf, cs, rs)) h) (s : sR it (F, G, LW, BR, sl, sd, pg) h) (k1 : kS B n (a + 1) = 2) (k2 : kS B n (a + 2) = 3) (k3 : kS B n (a + 3) = 3)
    (k : ∀ h1, EX it h h1 → RC it B n (jd4 B n F G a (.ok (a', sf, cs, rs))) h1 → K h1) : ClV 27 [.ref 6, .int (nI (a + 1)), .int (nI (a + 2)), .int (nI (a + 3))] h K := by
  have hit := r.i2
  have rc := r.2.2.2.2.1
  have rj : ∀ j, j ≤ a + 3 → rch B n j := fun j hj => ⟨by have := rc.1; omega, fun i hi => rc.2 i (by omega)⟩
  have a4 := rc.1
  have tk : ∀ h1, EX it h h1 → xL h1 10 = xL h 10 := fun h1 f => f.1.al (by simp)
  have n1 : xL h 10 (a + 1) = oL (enc 32 (nS B n (a + 1))) := (r.1.2.2.2.1 _ (rj _ (by omega))).2.2.1 k1
  have v2 : xL h 10 (a + 2) = oL (vS B n (a + 2)) := (r.1.2.2.2.1 _ (rj _ (by omega))).2.2.2 k2
  have v3 : xL h 10 (a + 3) = oL (vS B n (a + 3)) := (r.1.2.2.2.1 _ (rj _ (by omega))).2.2.2 k3
  have l2 := vS_lt k2
  have l3 := vS_lt k3
  have w2 := wcF_le (F := F) F.length
  have t2 : tn (nI (a + 2)) = a + 2 := tn_nI (by omega)
  have t3 : tn (nI (a + 3)) = a + 3 := tn_nI (by omega)
  have i2 : InB (nI (a + 2)) 402 := inb (by omega) (by decide)
  have i3 : InB (nI (a + 3)) 402 := inb (by omega) (by decide)
  have e80 : ∀ hx, EX it h hx → RC it B n (jd3 B n F G a (.ok (a', sf, cs, rs))) hx → Ev 27 80 [.ref 6, .null, .int (nI (a + 2)), .int (nI (a + 3))] [] hx (fun r h1 => r = .null ∧ K h1) := by
    intro hx fx rx
    refine B_27_80 rx.sh rx.i2 rx.r ?_
    rw [t2, t3, tk hx fx, v2, v3, lg_cmp_le, oL_leI (by omega) (by omega)]
    refine ⟨i3, i2, fun z => B_27_102 rx.sh rx.i2 rx.r ⟨rfl, k hx fx ?_⟩, fun z => ?_⟩
    · unfold jd4
      rw [if_neg (by omega)]
      exact rx
    · refine c_soft (x := 5) (by decide) (by omega) (fun _ _ => rj _ (by omega)) rx (fun h1 f1 r1 => ⟨r1.sh, r1.r, B_27_102 r1.sh r1.i2 r1.r ⟨rfl, k h1 (fx.tr f1) ?_⟩⟩)
      unfold jd4
      rw [if_pos (by omega)]
      exact r1
  have e49 : ∀ hx, EX it h hx → RC it B n (jd2 B n F G a (.ok (a', sf, cs, rs))) hx → Ev 27 49 [.ref 6, .null, .int (nI (a + 2)), .int (nI (a + 3))] [] hx (fun r h1 => r = .null ∧ K h1) := by
    intro hx fx rx
    have sx := s.ew hit fx.w
    have c6 : xI hx it 6 = nI (wcF F F.length) := sx.1.2.2.1
    refine B_27_49 rx.sh rx.i2 rx.r ?_
    have hm : wcF F F.length * (vS B n (a + 2) + 1) ≤ 2000 * 10000 := Nat.mul_le_mul w2.2 (by omega)
    rw [t2, tk hx fx, v2, c6, nI_64 (by omega), oL_mul (by omega) (by omega) (by omega), lg_cmp_le, show (2000 : Int64) = oL 2000 from rfl, oL_leI (by omega) (by decide)]
    refine ⟨i2, fun z => e80 hx fx ?_, fun z => ?_⟩
    · unfold jd3
      rw [if_neg (by omega)]
      exact rx
    · refine c_soft (x := 7) (by decide) (by omega) (fun _ _ => rj _ (by omega)) rx (fun h1 f1 r1 => ⟨r1.sh, r1.r, e80 h1 (fx.tr f1) ?_⟩)
      unfold jd3
      rw [if_pos (by omega)]
      exact r1
  have e43 : ∀ hx, EX it h hx → RC it B n (jd1 B n F G a (.ok (a', sf, cs, rs))) hx → (vS B n (a + 2) < 1 ∨ 3 < vS B n (a + 2)) → Ev 27 43 [.ref 6, .null, .int (nI (a + 2)), .int (nI (a + 3))] [] hx (fun r h1 => r = .null ∧ K h1) := by
    intro hx fx rx q
    refine B_27_43 rx.sh rx.i2 rx.r (c_soft (x := 5) (by decide) (by omega) (fun _ _ => rj _ (by omega)) rx (fun h1 f1 r1 => ⟨r1.sh, r1.r, e49 h1 (fx.tr f1) ?_⟩))
    unfold jd2
    rw [if_pos q]
    exact r1
  have e19 : ∀ hx, EX it h hx → RC it B n (jd1 B n F G a (.ok (a', sf, cs, rs))) hx → Ev 27 19 [.ref 6, .null, .int (nI (a + 2)), .int (nI (a + 3))] [] hx (fun r h1 => r = .null ∧ K h1) := by
    intro hx fx rx
    refine B_27_19 rx.sh rx.i2 rx.r ?_
    rw [t2, tk hx fx, v2, lg_cmp_lt, lg_cmp_le, show (1 : Int64) = oL 1 from rfl, show (3 : Int64) = oL 3 from rfl, oL_ltI (by omega) (by decide), oL_leI (by omega) (by decide)]
    refine ⟨i2, fun z => e43 hx fx rx (Or.inl z), fun z => ⟨i2, fun y => e49 hx fx ?_, fun y => e43 hx fx rx (Or.inr (by omega))⟩⟩
    unfold jd2
    rw [if_neg (by omega)]
    exact rx
  refine B_27_0 r.sh r.i2 r.r ?_
  rw [tn_nI (show a + 1 < 2 ^ 31 by omega), n1]
  refine ⟨inb (by omega) (by decide), c_tldC r.1 s.1 s.2.1 (nS_ok k1) (fun ht => ⟨r.sh, r.r, fun z => absurd z (by decide), fun _ => ?_⟩) (fun ht => ⟨r.sh, r.r, fun _ => e19 h EX.rf ?_, fun z => absurd rfl z⟩)⟩
  · refine c_soft (x := 3) (by decide) (by omega) (fun _ _ => rj _ (by omega)) r (fun h1 f1 r1 => ⟨r1.sh, r1.r, e19 h1 f1 ?_⟩)
    unfold jd1
    rw [if_pos ht]
    exact r1
  · unfold jd1
    rw [if_neg (by rw [ht]; decide)]
    exact r
/-- a fact more -/
def facH (it f : Nat) (h : XH) (nm : Int64) (v1 v2 v3 v6 v4 v5 v0 : Int32) : XH := xsI (xsI (xsI (xsI (xsI (xsI (xsI (xsL h 12 f nm) (it + 1) f v1) (it + 2) f v2) (it + 3) f v3) it 6 v6) it 4 v4) it 5 v5) it 0 v0
theorem mkFact {x : Fa} (hit : it = 14 ∨ it = 24) (r : RC it B n m h) (s : sR it (F, G, LW, BR, sl, sd, pg) h) (hf : F.length < 8) (hn : okN x.1 ∧ x.1.length ≤ 8) (h2 : x.2.1 < 10000) (h3 : x.2.2.1 < 10000) :
    RC it B n m (facH it F.length h (oL (enc 32 x.1)) (nI (cl13 x.2.1)) (nI x.2.2.1) (nI (wcF F F.length)) (nI (wcF (F ++ [x]) (F.length + 1))) (whB (F ++ [x]) 1) (whB (F ++ [x]) 2) (nI (F.length + 1))) ∧ sR it (F ++ [x], G, LW, BR, sl, sd, pg) (facH it F.length h (oL (enc 32 x.1)) (nI (cl13 x.2.1)) (nI x.2.2.1) (nI (wcF F F.length)) (nI (wcF (F ++ [x]) (F.length + 1))) (whB (F ++ [x]) 1) (whB (F ++ [x]) 2) (nI (F.length + 1))) ∧ LI it h (facH it F.length h (oL (enc 32 x.1)) (nI (cl13 x.2.1)) (nI x.2.2.1) (nI (wcF F F.length)) (nI (wcF (F ++ [x]) (F.length + 1))) (whB (F ++ [x]) 1) (whB (F ++ [x]) 2) (nI (F.length + 1))) := by
  have fx : Lx (SI it) [12, 13] h (facH it F.length h (oL (enc 32 x.1)) (nI (cl13 x.2.1)) (nI x.2.2.1) (nI (wcF F F.length)) (nI (wcF (F ++ [x]) (F.length + 1))) (whB (F ++ [x]) 1) (whB (F ++ [x]) 2) (nI (F.length + 1))) := (((((((Lx.rf.setL (by simp)).set (by simp)).set (by simp)).set (by simp)).set (by simp)).set (by simp)).set (by simp)).set (by simp)
  have c0 : ∀ j, j ≠ 0 → j ≠ 4 → j ≠ 5 → j ≠ 6 → xI (facH it F.length h (oL (enc 32 x.1)) (nI (cl13 x.2.1)) (nI x.2.2.1) (nI (wcF F F.length)) (nI (wcF (F ++ [x]) (F.length + 1))) (whB (F ++ [x]) 1) (whB (F ++ [x]) 2) (nI (F.length + 1))) it j = xI h it j := fun j a0 a4 a5 a6 => by
    unfold facH
    rw [xI_sd a0, xI_sd a5, xI_sd a4, xI_sd a6, xI_n (by omega), xI_n (by omega), xI_n (by omega)]
    rfl
  have i0 : xI (facH it F.length h (oL (enc 32 x.1)) (nI (cl13 x.2.1)) (nI x.2.2.1) (nI (wcF F F.length)) (nI (wcF (F ++ [x]) (F.length + 1))) (whB (F ++ [x]) 1) (whB (F ++ [x]) 2) (nI (F.length + 1))) it 0 = nI (F.length + 1) := xI_ss
  have i5 : xI (facH it F.length h (oL (enc 32 x.1)) (nI (cl13 x.2.1)) (nI x.2.2.1) (nI (wcF F F.length)) (nI (wcF (F ++ [x]) (F.length + 1))) (whB (F ++ [x]) 1) (whB (F ++ [x]) 2) (nI (F.length + 1))) it 5 = whB (F ++ [x]) 2 := by unfold facH; rw [xI_sd (by decide)]; exact xI_ss
  have i4 : xI (facH it F.length h (oL (enc 32 x.1)) (nI (cl13 x.2.1)) (nI x.2.2.1) (nI (wcF F F.length)) (nI (wcF (F ++ [x]) (F.length + 1))) (whB (F ++ [x]) 1) (whB (F ++ [x]) 2) (nI (F.length + 1))) it 4 = whB (F ++ [x]) 1 := by unfold facH; rw [xI_sd (by decide), xI_sd (by decide)]; exact xI_ss
  have i6 : xI (facH it F.length h (oL (enc 32 x.1)) (nI (cl13 x.2.1)) (nI x.2.2.1) (nI (wcF F F.length)) (nI (wcF (F ++ [x]) (F.length + 1))) (whB (F ++ [x]) 1) (whB (F ++ [x]) 2) (nI (F.length + 1))) it 6 = nI (wcF (F ++ [x]) (F.length + 1)) := by unfold facH; rw [xI_sd (by decide), xI_sd (by decide), xI_sd (by decide)]; exact xI_ss
  have c1 : xI (facH it F.length h (oL (enc 32 x.1)) (nI (cl13 x.2.1)) (nI x.2.2.1) (nI (wcF F F.length)) (nI (wcF (F ++ [x]) (F.length + 1))) (whB (F ++ [x]) 1) (whB (F ++ [x]) 2) (nI (F.length + 1))) (it + 1) = up (xI h (it + 1)) F.length (nI (cl13 x.2.1)) := by
    unfold facH
    rw [xI_n (by omega), xI_n (by omega), xI_n (by omega), xI_n (by omega), xI_n (by omega), xI_n (by omega), xI_s]
    rfl
  have c2 : xI (facH it F.length h (oL (enc 32 x.1)) (nI (cl13 x.2.1)) (nI x.2.2.1) (nI (wcF F F.length)) (nI (wcF (F ++ [x]) (F.length + 1))) (whB (F ++ [x]) 1) (whB (F ++ [x]) 2) (nI (F.length + 1))) (it + 2) = up (xI h (it + 2)) F.length (nI x.2.2.1) := by
    unfold facH
    rw [xI_n (by omega), xI_n (by omega), xI_n (by omega), xI_n (by omega), xI_n (by omega), xI_s, xI_n (by omega)]
    rfl
  have c3 : xI (facH it F.length h (oL (enc 32 x.1)) (nI (cl13 x.2.1)) (nI x.2.2.1) (nI (wcF F F.length)) (nI (wcF (F ++ [x]) (F.length + 1))) (whB (F ++ [x]) 1) (whB (F ++ [x]) 2) (nI (F.length + 1))) (it + 3) = up (xI h (it + 3)) F.length (nI (wcF F F.length)) := by
    unfold facH
    rw [xI_n (by omega), xI_n (by omega), xI_n (by omega), xI_n (by omega), xI_s, xI_n (by omega), xI_n (by omega)]
    rfl
  have ot : ∀ c, c ≠ it → c ≠ it + 1 → c ≠ it + 2 → c ≠ it + 3 → xI (facH it F.length h (oL (enc 32 x.1)) (nI (cl13 x.2.1)) (nI x.2.2.1) (nI (wcF F F.length)) (nI (wcF (F ++ [x]) (F.length + 1))) (whB (F ++ [x]) 1) (whB (F ++ [x]) 2) (nI (F.length + 1))) c = xI h c := fun c a0 a1 a2 a3 => by
    unfold facH
    rw [xI_n a0, xI_n a0, xI_n a0, xI_n a0, xI_n a3, xI_n a2, xI_n a1]
    rfl
  have l12 : xL (facH it F.length h (oL (enc 32 x.1)) (nI (cl13 x.2.1)) (nI x.2.2.1) (nI (wcF F F.length)) (nI (wcF (F ++ [x]) (F.length + 1))) (whB (F ++ [x]) 1) (whB (F ++ [x]) 2) (nI (F.length + 1))) 12 = up (xL h 12) F.length (oL (enc 32 x.1)) := xL_s
  have l13 : xL (facH it F.length h (oL (enc 32 x.1)) (nI (cl13 x.2.1)) (nI x.2.2.1) (nI (wcF F F.length)) (nI (wcF (F ++ [x]) (F.length + 1))) (whB (F ++ [x]) 1) (whB (F ++ [x]) 2) (nI (F.length + 1))) 13 = xL h 13 := xL_n (by decide)
  have l10 : xL (facH it F.length h (oL (enc 32 x.1)) (nI (cl13 x.2.1)) (nI x.2.2.1) (nI (wcF F F.length)) (nI (wcF (F ++ [x]) (F.length + 1))) (whB (F ++ [x]) 1) (whB (F ++ [x]) 2) (nI (F.length + 1))) 10 = xL h 10 := xL_n (by decide)
  generalize facH it F.length h (oL (enc 32 x.1)) (nI (cl13 x.2.1)) (nI x.2.2.1) (nI (wcF F F.length)) (nI (wcF (F ++ [x]) (F.length + 1))) (whB (F ++ [x]) 1) (whB (F ++ [x]) 2) (nI (F.length + 1)) = h1 at *
  refine ⟨?_, ?_, fx, fun _ w => ⟨by rw [ot 6 (by omega) (by omega) (by omega) (by omega)]; exact w.1, fun f hf' => ?_⟩⟩
  rotate_left 2
  · rw [c1]
    by_cases q : f = F.length
    · rw [q, up_same]; exact ⟨_, (cl13_le _).2, rfl⟩
    · rw [up_ne q]; exact w.2 f hf'
  · exact r.fr (fx.sh r.sh (by simp; omega)) fx.1 (ot 8 (by omega) (by omega) (by omega) (by omega)) (ot 9 (by omega) (by omega) (by omega) (by omega)) l10 (fun j _ => by rw [ot 6 (by omega) (by omega) (by omega) (by omega)]) (c0 7 (by decide) (by decide) (by decide) (by decide)) (ot (it + 9) (by omega) (by omega) (by omega) (by omega))
  · obtain ⟨s1, s2, s3, s4⟩ := s
    obtain ⟨t1, t2, t3, t4, t5, t6, t7⟩ := s1
    refine ⟨?_, ?_, ?_, ?_⟩
    · unfold fR
      show (F ++ [x]).length ≤ 8 ∧ _
      rw [ap1, i0, i6, i4, i5, c1, c2, c3, l12]
      refine ⟨by omega, rfl, rfl, rfl, rfl, fun f hf8 => ?_, fun f hf' => ?_⟩
      · by_cases q : f = F.length
        · subst q; rw [up_same]; exact ⟨_, (cl13_le _).2, rfl⟩
        · rw [up_ne q]; exact t6 f hf8
      · by_cases q : f = F.length
        · subst q
          rw [show faA (F ++ [x], G, LW, BR, sl, sd, pg).1 F.length = x from faA_r, up_same, up_same, up_same, up_same]
          exact ⟨rfl, rfl, h2, h3, by rw [wcF_l _ (Nat.le_refl _)], rfl, hn.1, hn.2⟩
        · rw [show faA (F ++ [x], G, LW, BR, sl, sd, pg).1 f = faA F f from faA_l (by omega), up_ne q, up_ne q, up_ne q, up_ne q, show wcF (F ++ [x], G, LW, BR, sl, sd, pg).1 f = wcF F f from wcF_l f (by omega)]
          exact t7 f (show f < F.length by omega)
    · unfold gR
      rw [c0 1 (by decide) (by decide) (by decide) (by decide), ot (it + 5) (by omega) (by omega) (by omega) (by omega), ot (it + 6) (by omega) (by omega) (by omega) (by omega), ot (it + 8) (by omega) (by omega) (by omega) (by omega), l13]
      exact s2
    · unfold lR
      rw [ot (it + 4) (by omega) (by omega) (by omega) (by omega)]
      exact s3
    · unfold oR
      rw [c0 2 (by decide) (by decide) (by decide) (by decide), c0 3 (by decide) (by decide) (by decide) (by decide), c0 8 (by decide) (by decide) (by decide) (by decide), ot 6 (by omega) (by omega) (by omega) (by omega), ot (it + 7) (by omega) (by omega) (by omega) (by omega)]
      exact s4
end CFA
