/-! READING, the one side: how a text was judged -/
def jdg (B : Nat → Nat) (n : Nat) (x : Tx) : Tx := match x with
  | .error e => .error e
  | .ok ((a, sf, cs, rs), st) => match sf with
    | some e => .error e
    | none => match unkN B n st.1 st.2.1 (tks rs) with
      | some j => .error (8, pS B n j)
      | none => .ok ((a, none, cs, rs), st)
def jR (x : Tx) : Int32 := match x with
  | .error e => nI e.1
  | .ok _ => nI 0
/-- a text that was read, as the one side holds it -/
def JT (it : Nat) (B : Nat → Nat) (n : Nat) (cs : List Cd) (st : St) (h : XH) : Prop := WZ it (rzF B n st.1 st.2.1) cs h ∧ fR it st.1 h ∧ gR it st.2.1 h ∧ lR it st.2.2.1 h ∧ (xI h it 2 = nI st.2.2.2.2.1 ∧ st.2.2.2.2.1 < 10000 ∧ xI h it 3 = nI st.2.2.2.2.2.1 ∧ st.2.2.2.2.2.1 < 10000) ∧ (∀ q, q < 6 → xI h (it + 7) q = if q < st.2.1.length then lsBt (rzF B n st.1 st.2.1) cs (pgA st.2.1 q).2.2 (pgA st.2.1 q).2.2.length else 0) ∧ xI h it 8 = nI (if st.2.2.2.2.1 = 0 ∧ ¬ dyL (rzF B n st.1 st.2.1) cs = true then 1 else 0)
def JO (it : Nat) (B : Nat → Nat) (n : Nat) (x : Tx) (h : XH) : Prop := Sh h ∧ xR h 6 8 = it ∧ match x with
  | .error e => 1 ≤ e.1 ∧ e.1 < 20 ∧ e.2 ≤ 2000 ∧ xI h 6 0 = nI e.2
  | .ok (co, st) => xI h 6 0 = -1 ∧ JT it B n co.2.2.1 st h
section CJ2
variable {it : Nat} {B : Nat → Nat} {n : Nat} {h h0 : XH} {Q : Value → XH → Prop} {F : List Fa} {G : List Pg} {cs rs : List Cd} {rz : Nat → Nat}
theorem inc_mem : ∀ (l : List Nat) (lo hi j : Nat), inc lo hi l → j ∈ l → lo ≤ j ∧ j < hi := by
  intro l
  induction l with
  | nil => intro lo hi j _ hj; cases hj
  | cons i t ih =>
    intro lo hi j h hj
    rcases List.mem_cons.mp hj with q | q
    · rw [q]; exact ⟨h.1, h.2.1⟩
    · have := ih _ _ j h.2.2 q
      have := h.1
      omega
theorem tks_mem : ∀ (l : List Cd) (x : Cd), x ∈ l → x.1 = 11 → x.2 ∈ tks l := by
  intro l
  induction l with
  | nil => intro x hx; cases hx
  | cons c t ih =>
    intro x hx h11
    show x.2 ∈ if c.1 = 11 then c.2 :: tks t else tks t
    rcases List.mem_cons.mp hx with q | q
    · rw [← q, if_pos h11]; exact List.mem_cons_self
    · split
      · exact List.mem_cons_of_mem _ (ih x q h11)
      · exact ih x q h11
theorem okC_w {x : Cd} (hr : ∀ j, rz j < 14) (h : okC (kS B n) (vS B n) x) : cw x < 2 ^ 20 ∧ wz rz x < 2 ^ 20 ∧ (x.1 = 11 → kS B n x.2 = 2 ∧ x.2 < 10000) ∧ (x.1 ≠ 11 → cw x % 16 ≠ 11) ∨ (x.1 = 11 ∧ kS B n x.2 = 2 ∧ wz rz x < 2 ^ 20) := by
  rcases h with ⟨pg, hp, q⟩ | q
  · rcases q with ⟨q, j, hj, e⟩ | ⟨q, e⟩ | ⟨q, e⟩ | ⟨q, e⟩ | ⟨q, e, e0⟩
    · have := vS_lt hj
      left
      have e1 : cw x = 16 * x.2 := by unfold cw; rw [if_neg (by omega), q]; omega
      have e2 : wz rz x = cw x := by unfold wz; rw [if_neg (by omega)]
      exact ⟨by omega, by omega, fun z => by omega, fun _ => by omega⟩
    · left
      have e1 : cw x = 225 := by unfold cw; rw [if_neg (by omega), q, e]
      have e2 : wz rz x = cw x := by unfold wz; rw [if_neg (by omega)]
      exact ⟨by omega, by omega, fun z => by omega, fun _ => by omega⟩
    · right
      have e2 : wz rz x = 16 * rz x.2 + 1 := by unfold wz; rw [if_pos q]
      have := hr x.2
      exact ⟨q, e, by omega⟩
    · left
      have e1 : cw x = 16 * x.2 + 1 := by unfold cw; rw [if_pos q]
      have e2 : wz rz x = cw x := by unfold wz; rw [if_neg (by omega)]
      exact ⟨by omega, by omega, fun z => by omega, fun _ => by omega⟩
    · left
      have e1 : cw x = x.1 := by unfold cw; rw [if_neg (by omega), e0]; omega
      have e2 : wz rz x = cw x := by unfold wz; rw [if_neg (by omega)]
      exact ⟨by omega, by omega, fun z => by omega, fun _ => by omega⟩
  · left
    have e1 : cw x = 16 * x.2 + x.1 := by unfold cw; rw [if_neg (by omega)]
    have e2 : wz rz x = cw x := by unfold wz; rw [if_neg (by omega)]
    exact ⟨by omega, by omega, fun z => by omega, fun _ => by omega⟩
theorem okC_cw {x : Cd} {a : Nat} (hr : rch B n a) (hx : x ∈ cs) (hi : inc 0 a (tks cs)) (h : okC (kS B n) (vS B n) x) : cwK B n x := by
  rcases okC_w (rz := fun _ => 0) (fun _ => by decide) h with ⟨h1, h2, h3, h4⟩ | ⟨h1, h2, h3⟩
  · refine ⟨h1, fun z => ⟨(h3 z).1, ?_⟩, h4⟩
    have := inc_mem _ _ _ _ hi (tks_mem _ _ hx z)
    exact ⟨by have := hr.1; omega, fun i hi => hr.2 i (by omega)⟩
  · have := inc_mem _ _ _ _ hi (tks_mem _ _ hx h1)
    have r4 := hr.1
    have e1 : cw x = 16 * x.2 + x.1 := by unfold cw; rw [if_neg (by omega)]
    exact ⟨by omega, fun _ => ⟨h2, by omega, fun i hi => hr.2 i (by omega)⟩, fun z => absurd h1 z⟩
theorem okC_wz {x : Cd} (hr : ∀ j, rz j < 14) (h : okC (kS B n) (vS B n) x) : wz rz x < 2 ^ 20 := by
  rcases okC_w hr h with ⟨h1, h2, h3, h4⟩ | ⟨h1, h2, h3⟩
  · exact h2
  · exact h3
theorem cdAt_mem {i : Nat} (hi : i < cs.length) : cdAt cs i ∈ cs := by
  unfold cdAt
  rw [List.getD_eq_getElem?_getD, List.getElem?_eq_getElem hi]
  exact List.getElem_mem hi
theorem fR.fr7 {h1 : XH} {c j : Nat} {v : Int32} (g : fR it F h) (hc : (c = it ∧ j = 8) ∨ c = it + 7) (e : h1 = xsI h c j v) : fR it F h1 := by
  have l12 : xL h1 12 = xL h 12 := by rw [e]; rfl
  have q1 : xI h1 (it + 1) = xI h (it + 1) := by rw [e, xI_n (by omega)]
  have q2 : xI h1 (it + 2) = xI h (it + 2) := by rw [e, xI_n (by omega)]
  have q3 : xI h1 (it + 3) = xI h (it + 3) := by rw [e, xI_n (by omega)]
  have q0 : ∀ i, i ≠ 8 → xI h1 it i = xI h it i := by
    intro i hi
    rw [e]
    rcases hc with ⟨c1, c2⟩ | c1
    · rw [c1, xI_sd (by omega)]
    · rw [xI_n (by omega)]
  unfold fR
  rw [l12, q1, q2, q3, q0 0 (by decide), q0 6 (by decide), q0 4 (by decide), q0 5 (by decide)]
  exact g
theorem fR.l7 {h1 : XH} (g : fR it F h) (f : Lx [it + 7] [] h h1) : fR it F h1 := by
  have l12 : xL h1 12 = xL h 12 := f.al (by simp)
  unfold fR
  rw [l12, f.at (a := it + 1) (by simp), f.at (a := it + 2) (by simp), f.at (a := it + 3) (by simp), f.at (a := it) (by simp)]
  exact g
theorem JT.s8 {st : St} {v : Int32} (z : WZ it (rzF B n st.1 st.2.1) cs h) (f : fR it st.1 h) (g : gR it st.2.1 h) (l : lR it st.2.2.1 h) (o : xI h it 2 = nI st.2.2.2.2.1 ∧ st.2.2.2.2.1 < 10000 ∧ xI h it 3 = nI st.2.2.2.2.2.1 ∧ st.2.2.2.2.2.1 < 10000) (s7 : ∀ q, q < 6 → xI h (it + 7) q = if q < st.2.1.length then lsBt (rzF B n st.1 st.2.1) cs (pgA st.2.1 q).2.2 (pgA st.2.1 q).2.2.length else 0) (hv : v = nI (if st.2.2.2.2.1 = 0 ∧ ¬ dyL (rzF B n st.1 st.2.1) cs = true then 1 else 0)) : JT it B n cs st (xsI h it 8 v) := by
  obtain ⟨z1, z2, z3, z4, z5, z6⟩ := z
  have ot : ∀ c, c ≠ it → xI (xsI h it 8 v) c = xI h c := fun c hc => xI_n hc
  have q0 : ∀ i, i ≠ 8 → xI (xsI h it 8 v) it i = xI h it i := fun i hi => xI_sd hi
  refine ⟨⟨(Fx.rf.set (S := [it]) (by simp)).sh z1 (by simp; omega), z2, z3, z4, by rw [q0 7 (by decide)]; exact z5, fun i hi => by rw [ot _ (by omega)]; exact z6 i hi⟩, f.fr7 (Or.inl ⟨rfl, rfl⟩) rfl, ?_, ?_, ?_, fun q hq => by rw [ot _ (by omega)]; exact s7 q hq, by rw [hv]; exact xI_ss⟩
  · unfold gR
    rw [ot (it + 5) (by omega), ot (it + 6) (by omega), ot (it + 8) (by omega), q0 1 (by decide)]
    exact g
  · unfold lR
    rw [ot (it + 4) (by omega)]
    exact l
  · rw [q0 2 (by decide), q0 3 (by decide)]
    exact o
theorem c_judgeC {x : Tx} {K : Int32 → XH → Prop} (t : tR2 it B n x h) (hp : ∀ y, x = .ok y → PI (kS B n) (vS B n) y.1 y.2) (k : ∀ h1, LI it h h1 → JO it B n (jdg B n x) h1 → K (jR (jdg B n x)) h1) : ClI 45 [.ref 6] h K := by
  match x, t, hp, k with
  | .error e, t, hp, k =>
    have r : RC it B n (.error e) h := t
    obtain ⟨e1, e2, e3, e4, e5, e6⟩ := r.2
    have ne : ¬ nI e.1 = (0 : Int32) := fun q => by have := (nI_eq (a := e.1) (b := 0) (by omega) (by decide)).mp q; omega
    have fin : Ev 45 81 [.ref 6] [] h (fun v h1 => ∃ v2, v = .int v2 ∧ K v2 h1) := by
      refine B_45_81 r.sh r.i2 r.r ⟨_, rfl, ?_⟩
      rw [e4]
      exact k h LI.rf ⟨r.sh, r.r, e1, e2, e3, e5⟩
    refine B_45_0 r.sh r.i2 r.r ?_
    rw [e4]
    refine ⟨fun _ => B_45_30 r.sh r.i2 r.r ?_, fun q => absurd ne q⟩
    rw [e4]
    refine ⟨fun _ => B_45_41 r.sh r.i2 r.r ?_, fun q => absurd ne q⟩
    rw [e4]
    exact ⟨fun _ => fin, fun q => absurd ne q⟩
  | .ok ((a, some (u, w), cs, rs), st), t, hp, k =>
    have r : RC it B n (.ok (a, some (u, w), cs, rs)) h := t.1
    have hit := r.i2
    obtain ⟨e1, e0, e2, e3, e4, e5, e6, e7⟩ := r.2
    obtain ⟨s1, s2, s3, s4, s5⟩ := e4
    have ne : ¬ nI u = (0 : Int32) := fun q => by have := (nI_eq (a := u) (b := 0) (by omega) (by decide)).mp q; omega
    refine B_45_0 r.sh r.i2 r.r ?_
    have i3 : xI (xsI h 6 1 (nI u)) 6 3 = nI w := by rw [xI_sd (by decide)]; exact s2
    rw [e1, s1, i3]
    refine ⟨fun q => absurd rfl q, fun _ => ⟨fun q => absurd q ne, fun _ => ?_⟩⟩
    have f : EX it h (xsI (xsI h 6 1 (nI u)) 6 0 (nI w)) := (EX.rf.f6 hit (by decide)).f6 hit (by decide)
    have c := r.1.ex f
    have v1 : xI (xsI (xsI h 6 1 (nI u)) 6 0 (nI w)) 6 1 = nI u := by rw [xI_sd (by decide)]; exact xI_ss
    have v0 : xI (xsI (xsI h 6 1 (nI u)) 6 0 (nI w)) 6 0 = nI w := xI_ss
    generalize xsI (xsI h 6 1 (nI u)) 6 0 (nI w) = h1 at f c v1 v0 ⊢
    have fin : Ev 45 81 [.ref 6] [] h1 (fun v h1 => ∃ v2, v = .int v2 ∧ K v2 h1) := by
      refine B_45_81 c.1 c.2.1 c.2.2.1 ⟨_, rfl, ?_⟩
      rw [v1]
      exact k h1 f.w.si ⟨c.1, c.2.2.1, s3, s4, s5, v0⟩
    refine B_45_30 c.1 c.2.1 c.2.2.1 ?_
    rw [v1]
    refine ⟨fun _ => B_45_41 c.1 c.2.1 c.2.2.1 ?_, fun q => absurd ne q⟩
    rw [v1]
    exact ⟨fun _ => fin, fun q => absurd ne q⟩
  | .ok ((a, none, cs, rs), st), t, hp, k =>
    have r : RC it B n (.ok (a, none, cs, rs)) h := t.1
    have s : sR it st h := t.2
    have hit := r.i2
    obtain ⟨e1, e0, e2, e3, e4, e5, e6, e7⟩ := r.2
    have e4 : xI h 6 2 = nI 0 := e4
    have P := hp _ rfl
    have Pc : cP (kS B n) (vS B n) a cs rs := P.1
    have lF : st.1.length ≤ 8 := s.1.1
    have lG : st.2.1.length ≤ 6 := s.2.1.1
    have rl := rzF_lt (B := B) (n := n) lF lG
    have hi : inc 0 a (tks cs) := by rw [Pc.2.2.1]; exact Pc.2.2.2.1
    have ck : ∀ x ∈ cs, cwK B n x := fun x hx => okC_cw e3 hx hi (Pc.2.2.2.2.1 x hx)
    have z0 : RZ it B n st.1 st.2.1 cs 0 h := ⟨r.1, e1, e0, e6, s.1, s.2.1, fun i hi => absurd hi (Nat.not_lt_zero _), fun i _ hi => e7 i hi⟩
    have ej : jdg B n (.ok ((a, none, cs, rs), st)) = match unkN B n st.1 st.2.1 (tks rs) with
      | some j => .error (8, pS B n j)
      | none => .ok ((a, none, cs, rs), st) := rfl
    refine B_45_0 r.sh r.i2 r.r ?_
    rw [e1, e4]
    refine ⟨fun q => absurd rfl q, fun _ => ⟨fun _ => B_45_30 r.sh r.i2 r.r ?_, fun q => absurd rfl q⟩⟩
    rw [e1]
    refine ⟨fun q => absurd rfl q, fun _ => B_46_0 r.sh r.i2 r.r (l_res (it := it) (F := st.1) (G := st.2.1) (h0 := h) (M := unkN B n st.1 st.2.1 (tks cs)) e5 ck (fun h1 f1 eM z => ⟨rfl, ?_⟩) (fun h1 j f1 eM hj c1 v1 v0 v7 => ⟨rfl, c1.1, c1.2.2.1, B_45_41 c1.1 c1.2.1 c1.2.2.1 ?_⟩) cs [] h rfl rfl EX.rf z0)⟩
    · obtain ⟨c1, z1, z2, z3, z4, z5, z6, _⟩ := z
      refine ⟨c1.1, c1.2.2.1, B_45_41 c1.1 c1.2.1 c1.2.2.1 ?_⟩
      rw [Pc.2.2.1] at eM
      rw [eM] at ej
      rw [ej] at k
      rw [z1]
      have W : WZ it (rzF B n st.1 st.2.1) cs h1 := ⟨c1.1, c1.2.1, c1.2.2.1, e5, z3, fun i hi => ⟨z6 i hi, okC_wz rl (Pc.2.2.2.2.1 _ (cdAt_mem hi))⟩⟩
      have o1 := s.2.2.2.ew hit f1.w
      have hst : ∀ p, p < st.2.1.length → ∀ c, c < (pgA st.2.1 p).2.2.length → (cmA (pgA st.2.1 p).2.2 c).1 ≤ cs.length := by
        intro p hp c hc
        obtain ⟨E1, E2, so, _, _, sg, _⟩ := (P.2.2.1.2 p hp).2 c hc
        have := sg.le
        have : (cmA (pgA st.2.1 p).2.2 c).1 + _ ≤ cs.length := this
        omega
      refine ⟨fun q => absurd rfl q, fun _ => B_47_0 c1.1 c1.2.1 c1.2.2.1 (l_loose (G := st.2.1) W z5 hst (fun h2 f2 s7 => ⟨rfl, ?_⟩) st.2.1.length 0 h1 (by omega) Lx.rf (fun q hq => by rw [if_neg (Nat.not_lt_zero _)]; exact o1.2.2.2.2.2.2.2 q hq))⟩
      have W2 := W.fr f2
      have g2 := z5.fr7 hit f2
      have ff2 := z4.l7 f2
      have l2 : lR it st.2.2.1 h2 := by
        have := s.2.2.1.ew hit f1.w
        unfold lR
        rw [f2.at (a := it + 4) (by simp)]
        exact this
      have o2 : xI h2 it 2 = nI st.2.2.2.2.1 ∧ st.2.2.2.2.1 < 10000 ∧ xI h2 it 3 = nI st.2.2.2.2.2.1 ∧ st.2.2.2.2.2.1 < 10000 := by
        rw [f2.at (a := it) (by simp)]
        exact ⟨o1.1, o1.2.1, o1.2.2.1, o1.2.2.2.1⟩
      have i1 : xI h2 6 1 = nI 0 := by rw [f2.at (a := 6) (by simp)]; exact z1
      have i0 : xI h2 6 0 = -1 := by rw [f2.at (a := 6) (by simp)]; exact z2
      have LL : LI it h h2 := f1.w.si.tr ⟨f2.mono (by simp) (by simp), fun hi w => w.c (by rw [f2.at (a := 6) (by simp)]) (f2.at (by simp))⟩
      have fin : ∀ v : Int32, v = nI (if st.2.2.2.2.1 = 0 ∧ ¬ dyL (rzF B n st.1 st.2.1) cs = true then 1 else 0) → Ev 45 81 [.ref 6] [] (xsI h2 it 8 v) (fun v h1 => ∃ v2, v = .int v2 ∧ K v2 h1) := by
        intro v hv
        have J := JT.s8 W2 ff2 g2 l2 o2 s7 hv
        have s8 := J.1.1
        refine B_45_81 s8 hit J.1.2.2.1 ⟨_, rfl, ?_⟩
        rw [xI_n (by omega), i1]
        refine k _ (LL.set (by simp) (by omega) (by omega)) ⟨s8, J.1.2.2.1, ?_, J⟩
        rw [xI_n (by omega)]
        exact i0
      refine ⟨W2.1, W2.2.2.1, ?_⟩
      rw [o2.1]
      refine ⟨fun q => ?_, fun q => B_49_0 W2.1 hit W2.2.2.1 (l_dy W2 cs [] rfl ⟨_, rfl, W2.1, W2.2.2.1, fun y => ?_, fun y => ?_⟩)⟩
      · refine fin 0 ?_
        rw [if_neg (fun y => q (by rw [y.1]; rfl))]
        rfl
      · refine fin 0 ?_
        rw [if_neg (fun z => y ?_)]
        · rfl
        · rw [if_neg z.2]
          rfl
      · refine fin 1 ?_
        have q0 : st.2.2.2.2.1 = 0 := (nI_eq (b := 0) (by omega) (by decide)).mp (Classical.not_not.mp q)
        have y0 : ¬ dyL (rzF B n st.1 st.2.1) cs = true := fun z => y (by rw [if_pos z]; decide)
        rw [if_pos ⟨q0, y0⟩]
        rfl
    · rw [Pc.2.2.1] at eM
      rw [eM] at ej
      rw [ej] at k
      have ne : ¬ nI 8 = (0 : Int32) := by decide
      rw [v1]
      refine ⟨fun _ => B_45_81 c1.1 c1.2.1 c1.2.2.1 ⟨_, rfl, ?_⟩, fun q => absurd ne q⟩
      rw [v1]
      exact k h1 f1.w.si ⟨c1.1, c1.2.2.1, show 1 ≤ 8 by decide, show 8 < 20 by decide, pS_2000 r.1.2.2.2.2 j, v0⟩
end CJ2
