/-! THE TAPE, AND WHAT WAS SEEN, of both -/
def byt (w s : Int32) : Int32 := (((w >>> (s &&& 31)) : Int32).toInt8.toInt32 : Int32).toInt8.toInt32
def pb (b : Nat → Int32) (n : Nat) (w : Int32) : Nat → Int32 := up (up (up (up b n (byt w 24)) (n + 1) (byt w 16)) (n + 2) (byt w 8)) (n + 3) (byt w 0)
def TP (n : Nat) (b : Nat → Int32) (h : XH) : Prop := n ≤ 2000 ∧ xI h 4 1 = nI n ∧ ∀ i, i < n → xI h 5 i = b i
def TR (n : Nat) (b : Nat → Int32) (h : XH) : Prop := n ≤ 2000 ∧ xI h 69 2 = nI n ∧ ∀ i, i < n → xI h 70 i = b i
/-- of object 4 only field j, and cells S, have changed -/
def Ox (S : List Nat) (F : List Nat) (h h1 : XH) : Prop := Fx (4 :: S) h h1 ∧ ∀ j, j ∉ F → xI h1 4 j = xI h 4 j
section TAP
variable {S F : List Nat} {h h0 h1 h2 : XH} {n : Nat} {b : Nat → Int32} {Q : Value → XH → Prop}
theorem Ox.rf : Ox S F h h := ⟨Fx.rf, fun _ _ => rfl⟩
theorem Ox.tr (p : Ox S F h h1) (q : Ox S F h1 h2) : Ox S F h h2 := ⟨p.1.tr q.1, fun j hj => (q.2 j hj).trans (p.2 j hj)⟩
theorem Ox.set {a j : Nat} {v : Int32} (p : Ox S F h h1) (ha : a ∈ S) (h4 : a ≠ 4) : Ox S F h (xsI h1 a j v) := ⟨p.1.set (List.mem_cons_of_mem _ ha), fun i hi => by rw [xI_n (Ne.symm h4)]; exact p.2 i hi⟩
theorem Ox.fld {j : Nat} {v : Int32} (p : Ox S F h h1) (hj : j ∈ F) : Ox S F h (xsI h1 4 j v) := ⟨p.1.set List.mem_cons_self, fun i hi => by rw [xI_s, up_ne (fun e => hi (by rw [e]; exact hj))]; exact p.2 i hi⟩
theorem Ox.sh (p : Ox S F h h1) (hs : Sh h) (h1n : 1 ∉ S) : Sh h1 := p.1.sh hs (fun q => by
  rcases List.mem_cons.mp q with e | e
  · cases e
  · exact h1n e)
theorem l_p1 {w x2 : Int32} (hs : Sh h0) (f : Ox [5] [1] h0 h) (t : TP n b h) (hn : n < 2000) (hx : ¬ x2 < 0) (kk : ∀ h1, Ox [5] [1] h0 h1 → TP (n + 1) (up b n (byt w x2)) h1 → Ev 11 3 [.ref 4, .int w, .int (x2 + (-8))] [] h1 Q) : Ev 11 3 [.ref 4, .int w, .int x2] [] h Q := by
  obtain ⟨t1, t2, t3⟩ := t
  refine B_11_3 (f.sh hs (by decide)) ?_
  rw [t2, tn_nI (show n < 2 ^ 31 by omega)]
  refine ⟨fun z => absurd z hx, fun _ => ⟨fun z => absurd z (nI_ge (a := n) (b := 2000) hn (by decide)), fun _ => ⟨inb hn (by decide), fun h1 eh => ?_⟩⟩⟩
  have e1 : xI (xsI h 5 n (byt w x2)) 4 1 = nI n := by rw [xI_n (by decide)]; exact t2
  have eh : h1 = xsI (xsI h 5 n (byt w x2)) 4 1 (xI (xsI h 5 n (byt w x2)) 4 1 + 1) := eh
  rw [e1, nI_1] at eh
  subst eh
  refine kk _ ((f.set (by decide) (by decide)).fld (by decide)) ⟨by omega, xI_ss, fun i hi => ?_⟩
  rw [xI_n (by decide), xI_s]
  by_cases e : i = n
  · subst e; rw [up_same, up_same]
  · rw [up_ne e, up_ne e]; exact t3 i (by omega)
theorem c_putC {w : Int32} {K : XH → Prop} (hs : Sh h) (t : TP n b h) (hn : n + 4 ≤ 2000) (k : ∀ h1, Ox [5] [1] h h1 → TP (n + 4) (pb b n w) h1 → K h1) : ClV 11 [.ref 4, .int w] h K := by
  refine B_11_0 hs (l_p1 hs Ox.rf t (by omega) (by decide) (fun h1 f1 t1 => ?_))
  rw [show (24 : Int32) + (-8) = 16 by decide]
  refine l_p1 hs f1 t1 (by omega) (by decide) (fun h2 f2 t2 => ?_)
  rw [show (16 : Int32) + (-8) = 8 by decide]
  refine l_p1 hs f2 t2 (by omega) (by decide) (fun h3 f3 t3 => ?_)
  rw [show (8 : Int32) + (-8) = 0 by decide]
  refine l_p1 hs f3 t3 (by omega) (by decide) (fun h4 f4 t4 => ?_)
  refine B_11_3 (f4.sh hs (by decide)) ⟨fun _ => ⟨rfl, k h4 f4 t4⟩, fun z => absurd (by decide : (0 : Int32) + (-8) < 0) z⟩
def fd5 (b : Nat → Int32) (n : Nat) (a1 a2 a3 a4 a5 : Int32) : Nat → Int32 := pb (pb (pb (pb (pb b n a1) (n + 4) a2) (n + 8) a3) (n + 12) a4) (n + 16) a5
theorem c_cFeed {a1 a2 a3 a4 a5 : Int32} {K : Int32 → XH → Prop} (hs : Sh h) (t : TP n b h) (k0 : ¬ n + 20 ≤ 2000 → K (-1) h) (k1 : n + 20 ≤ 2000 → ∀ h1, Ox [5] [1] h h1 → TP (n + 20) (fd5 b n a1 a2 a3 a4 a5) h1 → K (nI (n + 20)) h1) : ClI 10 [.ref 4, .int a1, .int a2, .int a3, .int a4, .int a5] h K := by
  have n2 := t.1
  refine B_10_0 hs ?_
  rw [t.2.1, show nI n + (20 : Int32) = nI (n + 20) from nI_add n 20]
  refine ⟨fun z => ?_, fun z => ⟨_, rfl, k0 (fun q => z (nI_le (a := n + 20) (b := 2000) q (by decide)))⟩⟩
  have hn : n + 20 ≤ 2000 := (nI_leI (a := n + 20) (b := 2000) (by omega) (by decide)).mp z
  refine c_putC hs t (by omega) (fun h1 f1 t1 => ⟨f1.sh hs (by decide), ?_⟩)
  refine c_putC (f1.sh hs (by decide)) t1 (by omega) (fun h2 f2 t2 => ⟨f2.sh (f1.sh hs (by decide)) (by decide), ?_⟩)
  have f2 := f1.tr f2
  refine c_putC (f2.sh hs (by decide)) t2 (by omega) (fun h3 f3 t3 => ⟨(f2.tr f3).sh hs (by decide), ?_⟩)
  have f3 := f2.tr f3
  refine c_putC (f3.sh hs (by decide)) t3 (by omega) (fun h4 f4 t4 => ⟨(f3.tr f4).sh hs (by decide), ?_⟩)
  have f4 := f3.tr f4
  refine c_putC (f4.sh hs (by decide)) t4 (by omega) (fun h5 f5 t5 => ⟨(f4.tr f5).sh hs (by decide), _, rfl, ?_⟩)
  rw [t5.2.1]
  exact k1 hn h5 (f4.tr f5) t5
theorem c_cBack {x : Int32} {K : Int32 → XH → Prop} (hs : Sh h) (t : TP n b h) (k0 : (x < 0 ∨ nI (n + 1) ≤ x) → K (-1) h) (k1 : ∀ m, m < n + 1 → x = nI m → ∀ h1, Ox [5] [1] h h1 → TP (n - m) b h1 → K (nI (n - m)) h1) : ClI 12 [.ref 4, .int x] h K := by
  obtain ⟨t1, t2, t3⟩ := t
  refine B_12_0 hs ?_
  rw [t2]
  refine in_n (n := n + 1) (x := x) (by omega) (fun m hm q => ?_) (fun q => ⟨fun _ => ⟨_, rfl, k0 q⟩, fun z => ⟨fun y => ?_, fun _ => ⟨_, rfl, k0 q⟩⟩⟩)
  · subst q
    rw [pk_sub (show m ≤ n by omega), xI_ss]
    exact ⟨fun z => absurd z (nI_pos (by omega)), fun _ => ⟨fun _ => ⟨_, rfl, k1 m hm rfl _ (Ox.rf.fld (by decide)) ⟨by omega, xI_ss, fun i hi => by rw [xI_n (by decide)]; exact t3 i (by omega)⟩⟩, fun z => absurd (nI_le (by omega) (by omega)) z⟩⟩
  · rcases q with q | q
    · exact absurd q z
    · exact absurd ((gt_n (n := n) z (by omega)).mpr q) (Int32.not_lt.mpr y)
theorem l_r1 {w x2 : Int32} (hs : Sh h0) (f : Gx [70] [2] h0 h) (t : TR n b h) (hn : n < 2000) (hx : ¬ x2 < 0) (kk : ∀ h1, Gx [70] [2] h0 h1 → TR (n + 1) (up b n (byt w x2)) h1 → Ev 176 3 [.ref 69, .int w, .int (x2 + (-8))] [] h1 Q) : Ev 176 3 [.ref 69, .int w, .int x2] [] h Q := by
  obtain ⟨t1, t2, t3⟩ := t
  refine B_176_3 (f.sh hs (by decide)) ?_
  rw [t2, tn_nI (show n < 2 ^ 31 by omega)]
  refine ⟨fun z => absurd z hx, fun _ => ⟨inb hn (by decide), fun h1 eh => ?_⟩⟩
  have e1 : xI (xsI h 70 n (byt w x2)) 69 2 = nI n := by rw [xI_n (by decide)]; exact t2
  have eh : h1 = xsI (xsI h 70 n (byt w x2)) 69 2 (xI (xsI h 70 n (byt w x2)) 69 2 + 1) := eh
  rw [e1, nI_1] at eh
  subst eh
  refine kk _ ((f.set (by decide) (by decide)).fld (by decide)) ⟨by omega, xI_ss, fun i hi => ?_⟩
  rw [xI_n (by decide), xI_s]
  by_cases e : i = n
  · subst e; rw [up_same, up_same]
  · rw [up_ne e, up_ne e]; exact t3 i (by omega)
theorem c_putR {w : Int32} {K : XH → Prop} (hs : Sh h) (t : TR n b h) (hn : n + 4 ≤ 2000) (k : ∀ h1, Gx [70] [2] h h1 → TR (n + 4) (pb b n w) h1 → K h1) : ClV 176 [.ref 69, .int w] h K := by
  refine B_176_0 hs (l_r1 hs Gx.rf t (by omega) (by decide) (fun h1 f1 t1 => ?_))
  rw [show (24 : Int32) + (-8) = 16 by decide]
  refine l_r1 hs f1 t1 (by omega) (by decide) (fun h2 f2 t2 => ?_)
  rw [show (16 : Int32) + (-8) = 8 by decide]
  refine l_r1 hs f2 t2 (by omega) (by decide) (fun h3 f3 t3 => ?_)
  rw [show (8 : Int32) + (-8) = 0 by decide]
  refine l_r1 hs f3 t3 (by omega) (by decide) (fun h4 f4 t4 => ?_)
  refine B_176_3 (f4.sh hs (by decide)) ⟨fun _ => ⟨rfl, k h4 f4 t4⟩, fun z => absurd (by decide : (0 : Int32) + (-8) < 0) z⟩
theorem c_rFeed {a1 a2 a3 a4 a5 : Int32} {K : Int32 → XH → Prop} (hs : Sh h) (t : TR n b h) (k0 : ¬ n + 20 ≤ 2000 → K (-1) h) (k1 : n + 20 ≤ 2000 → ∀ h1, Gx [70] [2] h h1 → TR (n + 20) (fd5 b n a1 a2 a3 a4 a5) h1 → K (nI (n + 20)) h1) : ClI 175 [.ref 69, .int a1, .int a2, .int a3, .int a4, .int a5] h K := by
  have n2 := t.1
  refine B_175_0 hs ?_
  rw [t.2.1, show nI n + (20 : Int32) = nI (n + 20) from nI_add n 20]
  refine ⟨fun z => ?_, fun z => ⟨_, rfl, k0 (fun q => z (nI_le (a := n + 20) (b := 2000) q (by decide)))⟩⟩
  have hn : n + 20 ≤ 2000 := (nI_leI (a := n + 20) (b := 2000) (by omega) (by decide)).mp z
  refine c_putR hs t (by omega) (fun h1 f1 t1 => ⟨f1.sh hs (by decide), ?_⟩)
  refine c_putR (f1.sh hs (by decide)) t1 (by omega) (fun h2 f2 t2 => ⟨f2.sh (f1.sh hs (by decide)) (by decide), ?_⟩)
  have f2 := f1.tr f2
  refine c_putR (f2.sh hs (by decide)) t2 (by omega) (fun h3 f3 t3 => ⟨(f2.tr f3).sh hs (by decide), ?_⟩)
  have f3 := f2.tr f3
  refine c_putR (f3.sh hs (by decide)) t3 (by omega) (fun h4 f4 t4 => ⟨(f3.tr f4).sh hs (by decide), ?_⟩)
  have f4 := f3.tr f4
  refine c_putR (f4.sh hs (by decide)) t4 (by omega) (fun h5 f5 t5 => ⟨(f4.tr f5).sh hs (by decide), _, rfl, ?_⟩)
  rw [t5.2.1]
  exact k1 hn h5 (f4.tr f5) t5
theorem c_rBack {x : Int32} {K : Int32 → XH → Prop} (hs : Sh h) (t : TR n b h) (k0 : (x < 0 ∨ nI (n + 1) ≤ x) → K (-1) h) (k1 : ∀ m, m < n + 1 → x = nI m → ∀ h1, Gx [70] [2] h h1 → TR (n - m) b h1 → K (nI (n - m)) h1) : ClI 177 [.ref 69, .int x] h K := by
  obtain ⟨t1, t2, t3⟩ := t
  refine B_177_0 hs ?_
  rw [t2]
  refine in_n (n := n + 1) (x := x) (by omega) (fun m hm q => ?_) (fun q => ⟨fun _ => ⟨_, rfl, k0 q⟩, fun z => ⟨fun y => ?_, fun _ => ⟨_, rfl, k0 q⟩⟩⟩)
  · subst q
    rw [pk_sub (show m ≤ n by omega), xI_ss]
    exact ⟨fun z => absurd z (nI_pos (by omega)), fun _ => ⟨fun _ => ⟨_, rfl, k1 m hm rfl _ (Gx.rf.fld (by decide)) ⟨by omega, xI_ss, fun i hi => by rw [xI_n (by decide)]; exact t3 i (by omega)⟩⟩, fun z => absurd (nI_le (by omega) (by omega)) z⟩⟩
  · rcases q with q | q
    · exact absurd q z
    · exact absurd ((gt_n (n := n) z (by omega)).mpr q) (Int32.not_lt.mpr y)
end TAP
section SEE
variable {T : Nat → Nat → Int32} {c l : Nat} {h : XH} {n : Nat} {q : Nat → Nat × Nat × Nat}
/-- what can be noted -/
def okSee (T : Nat → Nat → Int32) (n : Nat) (x y z : Int32) : Prop := n < 20 ∧ ∃ p d s, p < tn (T 0 1) ∧ d < 31 ∧ s < 5 ∧ x = nI p ∧ y = nI d ∧ z = nI s
def upQ (q : Nat → Nat × Nat × Nat) (n : Nat) (x y z : Int32) : Nat → Nat × Nat × Nat := fun i => if i = n then (tn x, tn y, tn z) else q i
theorem c_cSee {x y z : Int32} {K : Int32 → XH → Prop} (M : CM T c h) (S : SNc T h n q) (k0 : ¬ okSee T n x y z → K (-1) h) (k1 : okSee T n x y z → ∀ h1, Fx [58, 59, 60, 61] h h1 → (∀ j, j ≠ 0 → xI h1 58 j = xI h 58 j) → SNc T h1 (n + 1) (upQ q n x y z) → K (nI n) h1) : ClI 137 [.ref 4, .int x, .int y, .int z] h K := by
  have p6 := M.p6
  obtain ⟨s1, s2, s3⟩ := S
  refine B_137_0 M.1 (c_cPage M (fun p hp e => ⟨M.1, ?_⟩) (fun w => ⟨M.1, ?_⟩))
  · subst e
    refine ⟨fun w => absurd w (by decide), fun _ => c_isBegun M.1 (fun d hd e => ⟨M.1, ?_⟩) (fun w => ⟨M.1, ?_⟩)⟩
    · subst e
      refine ⟨fun w => absurd w (by decide), fun _ => ?_⟩
      refine in_n (n := 5) (x := z) (by decide) (fun s hs5 e => ?_) (fun w => ⟨fun _ => ⟨_, rfl, k0 ?_⟩, fun v => ⟨fun u => ?_, fun _ => ⟨_, rfl, k0 ?_⟩⟩⟩)
      · subst e
        refine ⟨fun w => absurd w (nI_pos (by omega)), fun _ => ⟨fun _ => ?_, fun w => absurd (nI_le (a := s) (b := 4) (by omega) (by decide)) w⟩⟩
        refine B_138_0 M.1 ?_
        by_cases n20 : n < 20
        · try simp (disch := omega) only [lit, tn_nI, z_inb, nI_add, pk_mul, z_le, z_nle, z_lt, z_nlt, z_ne, z_m1, pk_sub, xI_ss, xI_sd, xI_n, eq_self, true_and, and_true, and_self, not_true_eq_false, not_false_eq_true, false_implies, true_implies, implies_true, Classical.not_not, forall_const, true_or, or_true, false_or, or_false, false_and, and_false, if_true, if_false, ite_true, ite_false, reduceIte, reduceCtorEq, s2]
          have ok : okSee T n (nI p) (nI d) (nI s) := ⟨n20, p, d, s, hp, hd, hs5, rfl, rfl, rfl⟩
          intro h1 eh
          have e58 : xI h1 58 0 = nI n := by rw [eh, xI_n (by decide), xI_n (by decide), xI_n (by decide)]; exact s2
          have f1 : Fx [58, 59, 60, 61] h h1 := by rw [eh]; exact ((Fx.rf.set (by decide)).set (by decide)).set (by decide)
          have e59 : xI h1 59 = up (xI h 59) n (nI p) := by rw [eh, xI_n (by decide), xI_n (by decide), xI_s]
          have e60 : xI h1 60 = up (xI h 60) n (nI d) := by rw [eh, xI_n (by decide), xI_s, xI_n (by decide)]
          have e61 : xI h1 61 = up (xI h 61) n (nI s) := by rw [eh, xI_s, xI_n (by decide), xI_n (by decide)]
          have e5 : xI h1 58 = xI h 58 := by rw [eh, xI_n (by decide), xI_n (by decide), xI_n (by decide)]
          clear eh
          rw [e58]
          try simp (disch := omega) only [lit, tn_nI, z_inb, nI_add, pk_mul, z_le, z_nle, z_lt, z_nlt, z_ne, z_m1, pk_sub, xI_ss, xI_sd, xI_n, eq_self, true_and, and_true, and_self, not_true_eq_false, not_false_eq_true, false_implies, true_implies, implies_true, Classical.not_not, forall_const, true_or, or_true, false_or, or_false, false_and, and_false, if_true, if_false, ite_true, ite_false, reduceIte, reduceCtorEq]
          rw [show n + 1 - 1 = n from rfl]
          refine ⟨_, rfl, (f1.set (by decide)).sh M.1 (by decide), _, rfl, k1 ok _ (f1.set (by decide)) (fun j hj => by rw [xI_sd hj, e5]) ⟨by omega, xI_ss, fun i hi => ?_⟩⟩
          rw [xI_n (by decide), xI_n (by decide), xI_n (by decide), e59, e60, e61]
          unfold upQ
          by_cases e : i = n
          · subst e
            rw [if_pos rfl, up_same, up_same, up_same]
            dsimp only
            rw [tn_nI (by omega), tn_nI (by omega), tn_nI (by omega)]
            exact ⟨rfl, rfl, rfl, hp, by omega, by omega⟩
          · rw [if_neg e, up_ne e, up_ne e, up_ne e]
            exact s3 i (by omega)
        · try simp (disch := omega) only [lit, tn_nI, z_inb, nI_add, pk_mul, z_le, z_nle, z_lt, z_nlt, z_ne, z_m1, pk_sub, xI_ss, xI_sd, xI_n, eq_self, true_and, and_true, and_self, not_true_eq_false, not_false_eq_true, false_implies, true_implies, implies_true, Classical.not_not, forall_const, true_or, or_true, false_or, or_false, false_and, and_false, if_true, if_false, ite_true, ite_false, reduceIte, reduceCtorEq, s2]
          exact ⟨_, rfl, M.1, _, rfl, k0 (fun w => n20 w.1)⟩
      · rintro ⟨_, p', d', s', _, _, a3, _, _, a6⟩
        subst a6
        exact w.elim (nI_pos (by omega)) (nI_ge a3 (by decide))
      · rcases w with w | w
        · exact absurd w v
        · exact absurd ((gt_n (n := 4) v (by decide)).mpr w) (Int32.not_lt.mpr u)
      · rintro ⟨_, p', d', s', _, _, a3, _, _, a6⟩
        subst a6
        exact w.elim (nI_pos (by omega)) (nI_ge a3 (by decide))
    · refine ⟨fun _ => ⟨_, rfl, k0 ?_⟩, fun z => absurd rfl z⟩
      rintro ⟨_, p', d', s', _, a2, _, _, a5, _⟩
      subst a5
      exact w.elim (nI_pos (by omega)) (nI_ge a2 (by decide))
  · refine ⟨fun _ => ⟨_, rfl, k0 ?_⟩, fun z => absurd rfl z⟩
    rintro ⟨_, p', d', s', a1, _, _, a4, _, _⟩
    subst a4
    exact w.elim (nI_pos (by omega)) (nI_ge a1 (by omega))
theorem c_rSee {x y z : Int32} {K : Int32 → XH → Prop} (M : RM T l h) (S : SNr T h n q) (k0 : ¬ okSee T n x y z → K (-1) h) (k1 : okSee T n x y z → ∀ h1, Gx [118, 119, 120] [71] h h1 → SNr T h1 (n + 1) (upQ q n x y z) → K (nI n) h1) : ClI 257 [.ref 69, .int x, .int y, .int z] h K := by
  have p6 := M.p6
  obtain ⟨s1, s2, s3⟩ := S
  refine B_257_0 M.1 ?_
  rw [s2]
  refine ⟨fun w => ⟨_, rfl, k0 (fun u => ?_)⟩, fun n20 => ?_⟩
  · have := (nI_eq (a := n) (b := 20) (by omega) (by decide)).mp w
    have := u.1
    omega
  have n20 : n < 20 := by
    have : n ≠ 20 := fun e => n20 (by rw [e]; rfl)
    omega
  refine c_rPage M (fun p hp e => ⟨M.1, ?_⟩) (fun w => ⟨M.1, ?_⟩)
  · subst e
    refine ⟨fun w => absurd w (by decide), fun _ => c_isMonth M.1 (fun d hd e => ⟨M.1, ?_⟩) (fun w => ⟨M.1, ?_⟩)⟩
    · subst e
      refine ⟨fun w => absurd w (by decide), fun _ => ?_⟩
      refine c_inM (m := 4) M.1 (by decide) (fun s hs5 e => ⟨M.1, fun _ => ?_, fun w => absurd (by decide : ¬ nI 1 = (0 : Int32)) w⟩) (fun w => ⟨M.1, fun w => absurd rfl w, fun _ => ⟨_, rfl, k0 ?_⟩⟩)
      · subst e
        have ok : okSee T n (nI p) (nI d) (nI s) := ⟨n20, p, d, s, hp, hd, by omega, rfl, rfl, rfl⟩
        try simp (disch := omega) only [lit, tn_nI, z_inb, nI_add, pk_mul, z_le, z_nle, z_lt, z_nlt, z_ne, z_m1, pk_sub, xI_ss, xI_sd, xI_n, eq_self, true_and, and_true, and_self, not_true_eq_false, not_false_eq_true, false_implies, true_implies, implies_true, Classical.not_not, forall_const, true_or, or_true, false_or, or_false, false_and, and_false, if_true, if_false, ite_true, ite_false, reduceIte, reduceCtorEq, s2]
        intro h1 eh
        have e58 : xI h1 69 71 = nI n := by rw [eh, xI_n (by decide), xI_n (by decide), xI_n (by decide)]; exact s2
        have g1 : Gx [118, 119, 120] [71] h h1 := by rw [eh]; exact ((Gx.rf.set (by decide) (by decide)).set (by decide) (by decide)).set (by decide) (by decide)
        have e59 : xI h1 118 = up (xI h 118) n (nI p) := by rw [eh, xI_n (by decide), xI_n (by decide), xI_s]
        have e60 : xI h1 119 = up (xI h 119) n (nI d) := by rw [eh, xI_n (by decide), xI_s, xI_n (by decide)]
        have e61 : xI h1 120 = up (xI h 120) n (nI s) := by rw [eh, xI_s, xI_n (by decide), xI_n (by decide)]
        clear eh
        rw [e58]
        try simp (disch := omega) only [lit, tn_nI, z_inb, nI_add, pk_mul, z_le, z_nle, z_lt, z_nlt, z_ne, z_m1, pk_sub, xI_ss, xI_sd, xI_n, eq_self, true_and, and_true, and_self, not_true_eq_false, not_false_eq_true, false_implies, true_implies, implies_true, Classical.not_not, forall_const, true_or, or_true, false_or, or_false, false_and, and_false, if_true, if_false, ite_true, ite_false, reduceIte, reduceCtorEq]
        rw [show n + 1 - 1 = n from rfl]
        refine ⟨_, rfl, k1 ok _ (g1.fld (by decide)) ⟨by omega, xI_ss, fun i hi => ?_⟩⟩
        rw [xI_n (by decide), xI_n (by decide), xI_n (by decide), e59, e60, e61]
        unfold upQ
        by_cases e : i = n
        · subst e
          rw [if_pos rfl, up_same, up_same, up_same]
          dsimp only
          rw [tn_nI (by omega), tn_nI (by omega), tn_nI (by omega)]
          exact ⟨rfl, rfl, rfl, hp, by omega, by omega⟩
        · rw [if_neg e, up_ne e, up_ne e, up_ne e]
          exact s3 i (by omega)
      · rintro ⟨_, p', d', s', _, _, a3, _, _, a6⟩
        subst a6
        exact w.elim (nI_pos (by omega)) (nI_ge a3 (by decide))
    · refine ⟨fun _ => ⟨_, rfl, k0 ?_⟩, fun z => absurd rfl z⟩
      rintro ⟨_, p', d', s', _, a2, _, _, a5, _⟩
      subst a5
      exact w.elim (nI_pos (by omega)) (nI_ge a2 (by decide))
  · refine ⟨fun _ => ⟨_, rfl, k0 ?_⟩, fun z => absurd rfl z⟩
    rintro ⟨_, p', d', s', a1, _, _, a4, _, _⟩
    subst a4
    exact w.elim (nI_pos (by omega)) (nI_ge a1 (by omega))
theorem c_cForget {K : Int32 → XH → Prop} (hs : Sh h) (S : SNc T h n q) (k : ∀ h1, Fx [58] h h1 → (∀ j, j ≠ 0 → xI h1 58 j = xI h 58 j) → SNc T h1 0 q → K (nI n) h1) : ClI 139 [.ref 4] h K := by
  refine B_139_0 hs ⟨_, rfl, ?_⟩
  rw [S.2.1]
  exact k _ (Fx.rf.set (by decide)) (fun j hj => xI_sd hj) ⟨by omega, xI_ss, fun i hi => absurd hi (by omega)⟩
theorem c_rForget {K : Int32 → XH → Prop} (hs : Sh h) (S : SNr T h n q) (k : ∀ h1, Gx [] [71] h h1 → SNr T h1 0 q → K (nI n) h1) : ClI 258 [.ref 69] h K := by
  refine B_258_0 hs ⟨_, rfl, ?_⟩
  rw [S.2.1]
  exact k _ (Gx.rf.fld (by decide)) ⟨by omega, xI_ss, fun i hi => absurd hi (by omega)⟩
end SEE
