/-! READING: what the one side tells: claims, pages, laws, slips, seed -/
theorem tk_ok {k p : Nat → Nat} {x : Nat} {m : Md} {c : Co} (h : tkS k p x m = .ok c) : ∃ a sf cs rs, m = .ok (a, sf, cs, rs) ∧ k a = x ∧ a < 400 ∧ c = (a + 1, sf, cs, rs) := by
  match m, h with
  | .ok (a, sf, cs, rs), h =>
    have h : (if k a = x then (if a < 400 then (.ok (a + 1, sf, cs, rs) : Md) else .error (2, p a)) else .error (1, p a)) = .ok c := h
    split at h
    · split at h
      · cases h
        exact ⟨a, sf, cs, rs, rfl, by assumption, by assumption, rfl⟩
      · cases h
    · cases h
section CTL
variable {it : Nat} {B : Nat → Nat} {n : Nat} {h h0 : XH} {m : Md} {Q : Value → XH → Prop} {F : List Fa} {G : List Pg} {LW : List Lw} {BR : List Br} {sl sd pg : Nat} {co : Co} {st : St}
theorem c_slips {a : Nat} {sf : Option (Nat × Nat)} {cs rs : List Cd} {K : XH → Prop} (hB : ∀ i, B i < 256) (r : RC it B n (.ok (a, sf, cs, rs)) h) (s : sR it (F, G, LW, BR, sl, sd, pg) h)
    (k0 : ∀ e h1, tkS (kS B n) (pS B n) 59 (tkS (kS B n) (pS B n) 3 (tkS (kS B n) (pS B n) 109 (.ok (a, sf, cs, rs)))) = .error e → EW it h h1 → RC it B n (.error e) h1 → K h1)
    (k1 : ∀ c h1, tkS (kS B n) (pS B n) 59 (tkS (kS B n) (pS B n) 3 (tkS (kS B n) (pS B n) 109 (.ok (a, sf, cs, rs)))) = .ok c → Lx [6, 11, it, it + 9] [] h h1 → RC it B n (if vS B n (a + 1) ≤ 100 then .ok c else sftS (pS B n) 5 (a + 1) (.ok c)) h1 → sR it (F, G, LW, BR, vS B n (a + 1), sd, pg) h1 → K h1) : ClV 43 [.ref 6] h K := by
  have hit := r.i2
  refine B_43_0 r.sh r.i2 r.r (c_takeM hB (by decide) (by decide) r (fun h1 v1 f1 r1 => ⟨r1.sh, r1.r, c_takeM hB (by decide) (by decide) r1 (fun h3 v3 f3 r3 => ⟨r3.sh, r3.r, c_takeM hB (by decide) (by decide) r3 (fun h5 v5 f5 r5 => ⟨r5.sh, r5.r, ?_⟩)⟩)⟩))
  have g5 : EX it h h5 := (f1.tr f3).tr f5
  match hm : tkS (kS B n) (pS B n) 59 (tkS (kS B n) (pS B n) 3 (tkS (kS B n) (pS B n) 109 (.ok (a, sf, cs, rs)))) with
  | .error e =>
    rw [hm] at r5
    have e4 : xI h5 6 1 = nI e.1 := r5.2.2.2.2.1
    have e1 : 1 ≤ e.1 := r5.2.1
    have e2 : e.1 < 20 := r5.2.2.1
    have ne : ¬ xI h5 6 1 = (0 : Int32) := fun q => by rw [e4] at q; have := (nI_eq (a := e.1) (b := 0) (by omega) (by decide)).mp q; omega
    exact ⟨fun _ => ⟨rfl, k0 e h5 hm g5.w r5⟩, fun z => absurd ne z⟩
  | .ok c =>
    rw [hm] at r5
    obtain ⟨a2, sf2, cs2, rs2, q2, z2, l2, w2⟩ := tk_ok hm
    obtain ⟨a1, sf1, cs1, rs1, q1, z1, l1, w1⟩ := tk_ok q2
    obtain ⟨a0, sf0, cs0, rs0, q0, z0, l0, w0⟩ := tk_ok q1
    cases q0
    cases w0
    cases w1
    subst w2
    have e5 : xI h1 6 5 = nI (a + 1) := by
      rw [q1] at r1
      exact r1.2.2.2.1
    have f50 : xI h5 6 1 = nI 0 := r5.2.1
    have rc1 : rch B n (a + 1) := ⟨by omega, fun i hi => r5.2.2.2.2.1.2 i (by omega)⟩
    have v10 : xL h5 10 (a + 1) = oL (vS B n (a + 1)) := (r5.1.2.2.2.1 (a + 1) rc1).2.2.2 z1
    have vl := vS_lt z1
    rw [f50, e5, tn_nI (show a + 1 < 2 ^ 31 by omega), v10, oL_32 (by omega), xI_ss]
    refine ⟨fun z => absurd rfl z, fun _ => ⟨inb (by omega) (by decide), ?_⟩⟩
    have fz : Lx [6, 11, it, it + 9] [] h (xsI h5 it 2 (nI (vS B n (a + 1)))) := g5.w.1.set (by simp)
    have rz : RC it B n (.ok (a + 1 + 1 + 1, sf, cs, rs)) (xsI h5 it 2 (nI (vS B n (a + 1)))) := by
      obtain ⟨⟨b1, b2, b3, b4, b5⟩, e1, e0, e2, e3, e4, e5', e6, e7⟩ := r5
      refine ⟨⟨fz.sh r.sh (by simp; omega), hit, b3, fun j hj => ?_, b5⟩, by rw [xI_n (by omega)]; exact e1, by rw [xI_n (by omega)]; exact e0, by rw [xI_n (by omega)]; exact e2, e3, by unfold sfR; rw [xI_n (by omega)]; exact e4, e5', by rw [xI_sd (by decide)]; exact e6, fun i hi => by rw [xI_n (by omega)]; exact e7 i hi⟩
      unfold cT1
      rw [xI_n (by omega), xI_n (by omega)]
      exact b4 j hj
    have sz : sR it (F, G, LW, BR, vS B n (a + 1), sd, pg) (xsI h5 it 2 (nI (vS B n (a + 1)))) := by
      obtain ⟨s1, s2, s3, s4⟩ := s.ew hit g5.w
      refine ⟨?_, ?_, ?_, ?_⟩
      · unfold fR
        rw [xI_sd (by decide), xI_sd (by decide), xI_sd (by decide), xI_sd (by decide), xI_n (by omega), xI_n (by omega), xI_n (by omega)]
        exact s1
      · unfold gR
        rw [xI_sd (by decide), xI_n (by omega), xI_n (by omega), xI_n (by omega)]
        exact s2
      · unfold lR
        rw [xI_n (by omega)]
        exact s3
      · obtain ⟨o1, o2, o3, o4, o5, o6, o7, o8⟩ := s4
        refine ⟨xI_ss, by omega, by rw [xI_sd (by decide)]; exact o3, o4, by rw [xI_n (by omega)]; exact o5, o6, by rw [xI_sd (by decide)]; exact o7, fun p hp => by rw [xI_n (by omega)]; exact o8 p hp⟩
    refine ⟨fun z => ⟨rfl, k1 _ _ hm fz ?_ sz⟩, fun z => ?_⟩
    · have : vS B n (a + 1) ≤ 100 := (nI_leI (b := 100) (by omega) (by decide)).mp z
      rw [if_pos this]
      exact rz
    · have : ¬ vS B n (a + 1) ≤ 100 := fun q => z (nI_le (b := 100) q (by decide))
      refine c_soft (x := 5) (by decide) (by omega) (fun _ _ => rc1) rz (fun h7 f7 r7 => ⟨r7.sh, r7.r, rfl, k1 _ h7 hm (fz.tr (f7.w.1)) ?_ (sz.ew hit f7.w)⟩)
      rw [if_neg this]
      exact r7
theorem c_seed {a : Nat} {sf : Option (Nat × Nat)} {cs rs : List Cd} {K : XH → Prop} (hB : ∀ i, B i < 256) (r : RC it B n (.ok (a, sf, cs, rs)) h) (s : sR it (F, G, LW, BR, sl, sd, pg) h)
    (k0 : ∀ e h1, tkS (kS B n) (pS B n) 59 (tkS (kS B n) (pS B n) 3 (tkS (kS B n) (pS B n) 110 (.ok (a, sf, cs, rs)))) = .error e → EW it h h1 → RC it B n (.error e) h1 → K h1)
    (k1 : ∀ c h1, tkS (kS B n) (pS B n) 59 (tkS (kS B n) (pS B n) 3 (tkS (kS B n) (pS B n) 110 (.ok (a, sf, cs, rs)))) = .ok c → Lx [6, 11, it, it + 9] [] h h1 → RC it B n (.ok c) h1 → sR it (F, G, LW, BR, sl, vS B n (a + 1), pg) h1 → K h1) : ClV 44 [.ref 6] h K := by
  have hit := r.i2
  refine B_44_0 r.sh r.i2 r.r (c_takeM hB (by decide) (by decide) r (fun h1 v1 f1 r1 => ⟨r1.sh, r1.r, c_takeM hB (by decide) (by decide) r1 (fun h3 v3 f3 r3 => ⟨r3.sh, r3.r, c_takeM hB (by decide) (by decide) r3 (fun h5 v5 f5 r5 => ⟨r5.sh, r5.r, ?_⟩)⟩)⟩))
  have g5 : EX it h h5 := (f1.tr f3).tr f5
  match hm : tkS (kS B n) (pS B n) 59 (tkS (kS B n) (pS B n) 3 (tkS (kS B n) (pS B n) 110 (.ok (a, sf, cs, rs)))) with
  | .error e =>
    rw [hm] at r5
    have e4 : xI h5 6 1 = nI e.1 := r5.2.2.2.2.1
    have e1 : 1 ≤ e.1 := r5.2.1
    have e2 : e.1 < 20 := r5.2.2.1
    have ne : ¬ xI h5 6 1 = (0 : Int32) := fun q => by rw [e4] at q; have := (nI_eq (a := e.1) (b := 0) (by omega) (by decide)).mp q; omega
    exact ⟨fun _ => ⟨rfl, k0 e h5 hm g5.w r5⟩, fun z => absurd ne z⟩
  | .ok c =>
    rw [hm] at r5
    obtain ⟨a2, sf2, cs2, rs2, q2, z2, l2, w2⟩ := tk_ok hm
    obtain ⟨a1, sf1, cs1, rs1, q1, z1, l1, w1⟩ := tk_ok q2
    obtain ⟨a0, sf0, cs0, rs0, q0, z0, l0, w0⟩ := tk_ok q1
    cases q0
    cases w0
    cases w1
    subst w2
    have e5 : xI h1 6 5 = nI (a + 1) := by
      rw [q1] at r1
      exact r1.2.2.2.1
    have f50 : xI h5 6 1 = nI 0 := r5.2.1
    have rc1 : rch B n (a + 1) := ⟨by omega, fun i hi => r5.2.2.2.2.1.2 i (by omega)⟩
    have v10 : xL h5 10 (a + 1) = oL (vS B n (a + 1)) := (r5.1.2.2.2.1 (a + 1) rc1).2.2.2 z1
    have vl := vS_lt z1
    rw [f50, e5, tn_nI (show a + 1 < 2 ^ 31 by omega), v10, oL_32 (by omega)]
    refine ⟨fun z => absurd rfl z, fun _ => ⟨inb (by omega) (by decide), ?_⟩⟩
    have fz : Lx [6, 11, it, it + 9] [] h (xsI h5 it 3 (nI (vS B n (a + 1)))) := g5.w.1.set (by simp)
    have rz : RC it B n (.ok (a + 1 + 1 + 1, sf, cs, rs)) (xsI h5 it 3 (nI (vS B n (a + 1)))) := by
      obtain ⟨⟨b1, b2, b3, b4, b5⟩, e1, e0, e2, e3, e4, e5', e6, e7⟩ := r5
      refine ⟨⟨fz.sh r.sh (by simp; omega), hit, b3, fun j hj => ?_, b5⟩, by rw [xI_n (by omega)]; exact e1, by rw [xI_n (by omega)]; exact e0, by rw [xI_n (by omega)]; exact e2, e3, by unfold sfR; rw [xI_n (by omega)]; exact e4, e5', by rw [xI_sd (by decide)]; exact e6, fun i hi => by rw [xI_n (by omega)]; exact e7 i hi⟩
      unfold cT1
      rw [xI_n (by omega), xI_n (by omega)]
      exact b4 j hj
    have sz : sR it (F, G, LW, BR, sl, vS B n (a + 1), pg) (xsI h5 it 3 (nI (vS B n (a + 1)))) := by
      obtain ⟨s1, s2, s3, s4⟩ := s.ew hit g5.w
      refine ⟨?_, ?_, ?_, ?_⟩
      · unfold fR
        rw [xI_sd (by decide), xI_sd (by decide), xI_sd (by decide), xI_sd (by decide), xI_n (by omega), xI_n (by omega), xI_n (by omega)]
        exact s1
      · unfold gR
        rw [xI_sd (by decide), xI_n (by omega), xI_n (by omega), xI_n (by omega)]
        exact s2
      · unfold lR
        rw [xI_n (by omega)]
        exact s3
      · obtain ⟨o1, o2, o3, o4, o5, o6, o7, o8⟩ := s4
        refine ⟨by rw [xI_sd (by decide)]; exact o1, o2, xI_ss, by omega, by rw [xI_n (by omega)]; exact o5, o6, by rw [xI_sd (by decide)]; exact o7, fun p hp => by rw [xI_n (by omega)]; exact o8 p hp⟩
    exact ⟨rfl, k1 _ _ hm fz rz sz⟩
/-- goes: the fact's place by its name -/
def goM (B : Nat → Nat) (n : Nat) (F : List Fa) (pg a : Nat) (m : Md) : Md := match m with
  | .error e => .error e
  | .ok c => match fiF (nS B n (a + 1)) F F.length 0 with
    | none => sftS (pS B n) 4 (a + 1) (.ok c)
    | some _ => .ok c
def goS (B : Nat → Nat) (n : Nat) (F : List Fa) (pg a : Nat) (m : Md) : Md := tkS (kS B n) (pS B n) 59 (lawS (kS B n) (pS B n) (vS B n) pg (goM B n F pg a (tkS (kS B n) (pS B n) 2 (tkS (kS B n) (pS B n) 103 m))))
def goL (B : Nat → Nat) (n : Nat) (F : List Fa) (LW : List Lw) (b e a l : Nat) : List Lw := match fiF (nS B n (a + 1)) F F.length 0 with
  | none => LW
  | some f => (f, l, b, e) :: LW
abbrev SI (it : Nat) : List Nat := [6, 11, it, it + 1, it + 2, it + 3, it + 4, it + 5, it + 6, it + 7, it + 8, it + 9]
/-- what stands whatever a text told: the page now, how much facts can be at most -/
def WK (it : Nat) (h : XH) : Prop := (∃ pg, pg ≤ 6 ∧ xI h 6 6 = nI pg) ∧ ∀ f, f < 8 → ∃ m, m ≤ 3 ∧ xI h (it + 1) f = nI m
def LI (it : Nat) (h h1 : XH) : Prop := Lx (SI it) [12, 13] h h1 ∧ ((it = 14 ∨ it = 24) → WK it h → WK it h1)
theorem WK.c {h1 : XH} (w : WK it h) (e6 : xI h1 6 6 = xI h 6 6) (e1 : xI h1 (it + 1) = xI h (it + 1)) : WK it h1 := by unfold WK; rw [e6, e1]; exact w
theorem LI.rf : LI it h h := ⟨Lx.rf, fun _ w => w⟩
theorem LI.tr {h1 h2 : XH} (p : LI it h h1) (q : LI it h1 h2) : LI it h h2 := ⟨p.1.tr q.1, fun hi w => q.2 hi (p.2 hi w)⟩
theorem LI.sh {h1 : XH} (p : LI it h h1) (hs : Sh h) (hn : 1 ∉ SI it) : Sh h1 := p.1.sh hs hn
theorem LI.set {h1 : XH} {c j : Nat} {v : Int32} (p : LI it h h1) (hc : c ∈ SI it) (h6 : 6 ≠ c) (h7 : it + 1 ≠ c) : LI it h (xsI h1 c j v) := p.tr ⟨Lx.rf.set hc, fun _ w => w.c (by rw [xI_n h6]) (by rw [xI_n h7])⟩
theorem EW.si {h1 : XH} (f : EW it h h1) : LI it h h1 := ⟨f.1.mono (by intro a ha; simp at ha ⊢; omega) (by simp), fun hi w => w.c (f.2.1 6 (by decide)) (f.1.at (by simp; omega))⟩
theorem RC.xs {c j : Nat} {v : Int32} (r : RC it B n m h) (hc : it < c ∧ c < it + 9) : RC it B n m (xsI h c j v) := by
  have hit := r.i2
  have cb : CB it B n (xsI h c j v) := by
    obtain ⟨b1, b2, b3, b4, b5⟩ := r.1
    refine ⟨(Fx.rf.set (S := [c]) (by simp)).sh b1 (by simp; omega), hit, b3, fun i hi => ?_, b5⟩
    unfold cT1
    rw [xI_n (by omega), xI_n (by omega)]
    exact b4 i hi
  match m, r with
  | .error e, r =>
    obtain ⟨e1, e2, e3, e4, e5, ⟨b, e6, e7⟩, l, e8, e9⟩ := r.2
    exact ⟨cb, e1, e2, e3, by rw [xI_n (by omega)]; exact e4, by rw [xI_n (by omega)]; exact e5, ⟨b, e6, by rw [xI_n (by omega)]; exact e7⟩, ⟨l, e8, by rw [xI_n (by omega)]; exact e9⟩⟩
  | .ok (a, sf, cs, rs), r =>
    obtain ⟨e1, e0, e2, e3, e4, e5, e6, e7⟩ := r.2
    exact ⟨cb, by rw [xI_n (by omega)]; exact e1, by rw [xI_n (by omega)]; exact e0, by rw [xI_n (by omega)]; exact e2, e3, by unfold sfR; rw [xI_n (by omega)]; exact e4, e5, by rw [xI_n (by omega)]; exact e6, fun i hi => by rw [xI_n (by omega)]; exact e7 i hi⟩
theorem c_goes2 {a : Nat} {sf : Option (Nat × Nat)} {cs rs : List Cd} {b e : Nat} {BR' : List Br} {K : XH → Prop} (hB : ∀ i, B i < 256) (r : RC it B n (.ok (a, sf, cs, rs)) h) (s : sR it (F, G, LW, BR, sl, sd, pg) h)
    (k : ∀ h1, LI it h h1 → RC it B n (goS B n F pg a (.ok (a, sf, cs, rs))) h1 → (∀ c, goS B n F pg a (.ok (a, sf, cs, rs)) = .ok c → sR it (F, G, goL B n F LW b e a cs.length, BR', sl, sd, pg) h1) → K h1) : ClV 32 [.ref 6] h K := by
  have hit := r.i2
  have l8 : F.length ≤ 8 := s.1.1
  have pg6 : xI h 6 6 = nI pg ∧ pg ≤ 6 := s.2.2.2.pg6
  have after : ∀ (m3 : Md) (LW' : List Lw) (hx : XH), goM B n F pg a (tkS (kS B n) (pS B n) 2 (tkS (kS B n) (pS B n) 103 (.ok (a, sf, cs, rs)))) = m3 → LI it h hx → RC it B n m3 hx → xI hx 6 6 = nI pg → (∀ c, m3 = .ok c → sR it (F, G, LW', BR', sl, sd, pg) hx ∧ LW' = goL B n F LW b e a cs.length) → ClV 33 [.ref 6] hx (fun h5 => Sh h5 ∧ xR h5 6 8 = it ∧ (ClI 26 [.ref 6, .int 59] h5 (fun v8 h7 => Sh h7 ∧ xR h7 6 8 = it ∧ (Value.null = Value.null ∧ K h7)))) := by
    intro m3 LW' hx em fx rx e66 hs
    refine c_law hB pg6.2 rx e66 (fun h5 f5 r5 => ⟨r5.sh, r5.r, c_takeM hB (by decide) (by decide) r5 (fun h7 v7 f7 r7 => ⟨r7.sh, r7.r, rfl, k h7 (fx.tr (f5.tr f7.w).si) ?_ (fun c hc => ?_)⟩)⟩)
    · unfold goS
      rw [em]
      exact r7
    · unfold goS at hc
      rw [em] at hc
      obtain ⟨a1, sf1, cs1, rs1, q1, z1, l1, w1⟩ := tk_ok hc
      match m3, hs, q1 with
      | .error e', hs, q1 =>
        have q1 : (.error e' : Md) = .ok (a1, sf1, cs1, rs1) := q1
        cases q1
      | .ok c3, hs, q1 =>
        obtain ⟨s3, e3⟩ := hs c3 rfl
        rw [← e3]
        exact s3.ew hit (f5.tr f7.w)
  refine B_32_0 r.sh r.i2 r.r (c_takeM hB (by decide) (by decide) r (fun h1 v1 f1 r1 => ⟨r1.sh, r1.r, c_take hB (by decide) (by decide) r1 (fun h3 c ec f3 r3 => ⟨r3.sh, r3.r, fun z => absurd z (by decide), fun _ => ?_⟩) (fun h3 e' ec f3 r3 => ⟨r3.sh, r3.r, fun _ => ?_, fun z => absurd rfl z⟩)⟩))
  · have g3 : EX it h h3 := f1.tr f3
    obtain ⟨a1, sf1, cs1, rs1, q1, z1, l1, w1⟩ := tk_ok ec
    obtain ⟨a0, sf0, cs0, rs0, q0, z0, l0, w0⟩ := tk_ok q1
    cases q0
    cases w0
    subst w1
    have e5 : xI h1 6 5 = nI (a + 1) := by
      rw [q1] at r1
      exact r1.2.2.2.1
    rw [ec] at r3
    have rc1 : rch B n (a + 1) := ⟨by omega, fun i hi => r3.2.2.2.2.1.2 i (by omega)⟩
    have n10 : xL h3 10 (a + 1) = oL (enc 32 (nS B n (a + 1))) := (r3.1.2.2.2.1 (a + 1) rc1).2.2.1 z1
    have s3 := s.ew hit g3.w
    rw [e5, tn_nI (show a + 1 < 2 ^ 31 by omega), n10]
    refine ⟨inb (by omega) (by decide), B_29_0 r3.sh r3.i2 r3.r (l_fiF (F := F) r3.1 s3.1 (nS_ok z1) F.length 0 (by omega) ⟨_, rfl, r3.sh, r3.r, ?_⟩)⟩
    cases ef : fiF (nS B n (a + 1)) F F.length 0 with
    | some f =>
      have fl := fiF_lt _ _ _ ef
      have em : goM B n F pg a (tkS (kS B n) (pS B n) 2 (tkS (kS B n) (pS B n) 103 (.ok (a, sf, cs, rs)))) = .ok (a + 1 + 1, sf, cs, rs) := by
        unfold goM
        rw [ec]
        dsimp only
        rw [ef]
      have e7 : xI h3 it 7 = nI cs.length := r3.2.2.2.2.2.2.2.1
      show (_ → _) ∧ _
      have eo : oIx (some f) = nI f := rfl
      rw [eo, tn_nI (show f < 2 ^ 31 by omega), e7]
      refine ⟨fun _ => ⟨inb (by omega) (by decide), ?_⟩, fun z => absurd (nI_le (a := 0) (b := f) (by omega) (by omega)) z⟩
      refine after _ ((f, cs.length, b, e) :: LW) _ em (g3.w.si.set (by simp) (by omega) (by omega)) (r3.xs (by omega)) (by rw [xI_n (by omega)]; exact s3.2.2.2.pg6.1) (fun c _ => ⟨?_, by unfold goL; rw [ef]⟩)
      obtain ⟨s1, s2, s3', s4⟩ := s3
      refine ⟨?_, ?_, ?_, ?_⟩
      · unfold fR
        rw [xI_n (by omega), xI_n (by omega), xI_n (by omega), xI_n (by omega)]
        exact s1
      · unfold gR
        rw [xI_n (by omega), xI_n (by omega), xI_n (by omega), xI_n (by omega)]
        exact s2
      · intro g hg
        show xI (xsI h3 (it + 4) f (nI cs.length)) (it + 4) g = if f = g then nI cs.length else lwA LW g
        by_cases q : f = g
        · subst q; rw [xI_ss, if_pos rfl]
        · rw [xI_sd (fun z => q z.symm), if_neg q]; exact s3' g hg
      · obtain ⟨o1, o2, o3, o4, o5, o6, o7, o8⟩ := s4
        exact ⟨by rw [xI_n (by omega)]; exact o1, o2, by rw [xI_n (by omega)]; exact o3, o4, by rw [xI_n (by omega)]; exact o5, o6, by rw [xI_n (by omega)]; exact o7, fun p hp => by rw [xI_n (by omega)]; exact o8 p hp⟩
    | none =>
      have em : goM B n F pg a (tkS (kS B n) (pS B n) 2 (tkS (kS B n) (pS B n) 103 (.ok (a, sf, cs, rs)))) = sftS (pS B n) 4 (a + 1) (.ok (a + 1 + 1, sf, cs, rs)) := by
        unfold goM
        rw [ec]
        dsimp only
        rw [ef]
      refine ⟨fun z => absurd z (by decide), fun _ => c_soft (x := 4) (by decide) (by omega) (fun _ _ => rc1) r3 (fun h7 f7 r7 => ⟨r7.sh, r7.r, ?_⟩)⟩
      have s7 := s3.ew hit f7.w
      exact after _ LW h7 em ((g3.tr f7).w.si) r7 s7.2.2.2.pg6.1 (fun c _ => ⟨s7, by unfold goL; rw [ef]⟩)
  · have g3 : EX it h h3 := f1.tr f3
    have em : goM B n F pg a (tkS (kS B n) (pS B n) 2 (tkS (kS B n) (pS B n) 103 (.ok (a, sf, cs, rs)))) = .error e' := by
      unfold goM
      rw [ec]
    rw [ec] at r3
    exact after _ LW h3 em g3.w.si r3 (by rw [g3.2.1 6 (by decide)]; exact pg6.1) (fun c hc => by cases hc)
end CTL
