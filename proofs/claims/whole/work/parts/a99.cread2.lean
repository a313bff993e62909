/-! READING, the one side: a text begins -/
def swH (h : XH) (c it : Nat) : XH := xsR (xsR (xsR h 4 5 c) 4 4 it) 34 0 it
section CR2
variable {it : Nat} {B : Nat → Nat} {T T' : Nat → Nat → Int32} {c : Nat} {h h1 h0 : XH} {Q : Value → XH → Prop} {r : Nat → Int32} {n sn tl : Nat} {f hf : Nat → Nat → Int32} {hb : Nat → Bool} {q : Nat → Nat × Nat × Nat} {b : Nat → Int32} {pl : Int32}
theorem sw_R {a j : Nat} (h4 : ¬ (a = 4 ∧ (j = 4 ∨ j = 5))) (h34 : ¬ (a = 34 ∧ j = 0)) : xR (swH h c it) a j = xR h a j := by
  unfold swH
  rw [xR_s, if_neg h34, xR_s, if_neg (fun z => h4 ⟨z.1, Or.inl z.2⟩), xR_s, if_neg (fun z => h4 ⟨z.1, Or.inr z.2⟩)]
theorem sw_sh (s : Sh h) (hc : xR h 34 0 = c) (hi : xR h 4 5 = it) : Sh (swH h c it) := by
  have k1 : ∀ p ∈ shR, ¬ (p.1 = 4 ∧ (p.2.1 = 4 ∨ p.2.1 = 5)) ∧ ¬ (p.1 = 34 ∧ p.2.1 = 0) := by decide
  have k2 : ∀ q ∈ shG, ¬ (q.1 = 4 ∧ (q.2.1 = 4 ∨ q.2.1 = 5)) ∧ ¬ (q.1 = 34 ∧ q.2.1 = 0) := by decide
  obtain ⟨s1, s2, s3, s4, s5, s6, s7, s8, s9⟩ := s
  refine ⟨s1, s2, fun p hp => ?_, ?_, fun q hq => ?_, fun q hq q' hq' z => ?_, s7, s8, s9⟩
  · rw [sw_R (k1 p hp).1 (k1 p hp).2]; exact s3 p hp
  · have e1 : xR (swH h c it) 34 0 = it := by unfold swH; rw [xR_s, if_pos ⟨rfl, rfl⟩]
    have e2 : xR (swH h c it) 4 4 = it := by unfold swH; rw [xR_s, if_neg (by decide), xR_s, if_pos ⟨rfl, rfl⟩]
    have e3 : xR (swH h c it) 4 5 = c := by unfold swH; rw [xR_s, if_neg (by decide), xR_s, if_neg (by decide), xR_s, if_pos ⟨rfl, rfl⟩]
    rw [e1, e2, e3]
    rcases s4 with z | z
    · exact Or.inr ⟨by omega, by omega, by omega⟩
    · exact Or.inl ⟨by omega, by omega, by omega⟩
  · have : xR (swH h c it) q.1 q.2.1 = xR h q.1 q.2.1 := sw_R (k2 q hq).1 (k2 q hq).2
    rw [this]
    exact s5 q hq
  · rw [sw_R (k2 q hq).1 (k2 q hq).2, sw_R (k2 q' hq').1 (k2 q' hq').2] at z
    exact s6 q hq q' hq' z
theorem sw_rm (rm : RmOk h) : RmOk (swH h c it) := by
  have k2 : ∀ q ∈ shG, ¬ (q.1 = 4 ∧ (q.2.1 = 4 ∨ q.2.1 = 5)) ∧ ¬ (q.1 = 34 ∧ q.2.1 = 0) := by decide
  have g : ∀ q ∈ shG, gl (swH h c it) q = gl h q := by
    intro q hq
    unfold gl
    rw [sw_R (k2 q hq).1 (k2 q hq).2]
    rfl
  obtain ⟨r1, r2, r3⟩ := rm
  have e : shG.map (gl (swH h c it)) = shG.map (gl h) := List.map_congr_left g
  exact ⟨by rw [e]; exact r1, r2, fun q hq => by rw [g q hq]; exact r3 q hq⟩
theorem c_swap (hs : Sh h) (k : Ev 50 26 [.ref 4, .ref (xR h 4 5)] [] (swH h (xR h 34 0) (xR h 4 5)) Q) : Ev 50 0 (x_ini 50 [.ref 4]) [] h Q := by
  have ho := ss_o hs
  refine B_50_0 hs ?_
  refine e_al o_50_13 rfl ?_
  refine e_al o_50_14 rfl ?_
  refine e_pR o_50_15 (sk_4 (h := h) hs) (by rcases ho with q | q <;> omega) ?_
  refine e_al o_50_18 rfl ?_
  refine e_gR (r := 34) o_50_19 (sk_4 (h := h) hs) (by rw [xR_s, if_neg (by decide), xR_s, if_neg (by decide)]; exact sr_4_6 hs) (by decide) ?_
  refine e_al o_50_22 rfl ?_
  refine e_pR o_50_23 (sk_34 (h := h) hs) (by rcases ho with q | q <;> omega) ?_
  exact k
theorem wsum_c {r r' : Nat → Int32} : ∀ (k f : Nat) (acc : Int32), (∀ i, i < f + k → r i = r' i) → wsum T r k f acc = wsum T r' k f acc := by
  intro k
  induction k with
  | zero => intro f acc _; rfl
  | succ k ih =>
    intro f acc h
    show wsum T r k (f + 1) (acc + r f * T 3 f) = wsum T r' k (f + 1) (acc + r' f * T 3 f)
    rw [h f (by omega)]
    exact ih (f + 1) _ (fun i hi => h i (by omega))
theorem beg_told (t : tA T) {r b : Nat → Int32} : EqR (begR T b (nI (wNow T (tR T))) r) (setS T (tR T)) := by
  have ro := rOk_t t
  have wl := wNow_lt t.n ro
  have w2 : wN T ≤ 2000 := t.w.1
  refine (begR_S t.cv).tr ?_
  unfold begS
  rw [ptF_w t.n (by omega)]
  refine setS_e t (fun i hi => ?_)
  unfold wRow tR
  by_cases q : i < tn (T 0 0)
  · rw [if_pos q, if_pos q]
    have := wOf_dig (m := mo T) (d := fdg (tR T)) (tn (T 0 0)) i (fun g hg => (ro.f t.n hg).2) q
    have e : fIn (mo T) (wNow T (fun i => if i < tn (T 0 0) then T 2 i else nI 0)) i = fdg (tR T) i := this
    rw [e]
    obtain ⟨m, hm, e2⟩ := t.x.1 i q
    have : tR T i = nI m := by unfold tR; rw [if_pos q]; exact e2
    unfold fdg
    rw [this, e2, tn_nI (by
      have := (t.n.2.2 i q)
      obtain ⟨m', h1, h2, h3⟩ := this
      have : mo T i ≤ 3 := by unfold mo; rw [h3, tn_nI (by omega)]; exact h2
      omega)]
  · rw [if_neg q, if_neg q]
    rfl
/-- a text that was read is begun -/
theorem c_anew {K : XH → Prop} (I : CI T c r n f hb hf sn q 0 b (-1) h) (hi : xR h 4 5 = it) (ht : txS h it = T') (t : tA T') (tl' : tL T') (td : tDj T') (k : ∀ h1, KC h h1 → CI T' it (setS T' (tR T')) 0 f (fun _ => false) hf 0 q 0 b (-1) h1 → K h1) : ClV 50 [.ref 4] h K := by
  obtain ⟨⟨i1, i2, i3, i4, i5⟩, ⟨a1, a2, a3, a4⟩, s1, p1, c1, t1, l1, w1, w2⟩ := I
  have s := i1.1
  have hc : xR h 34 0 = c := i1.2.1
  have hit : it = 14 ∨ it = 24 := by rw [← hi]; exact ss_o s
  have s' := sw_sh s hc hi
  refine c_swap s ?_
  rw [hc, hi]
  have e34 : xR (swH h c it) 34 0 = it := by unfold swH; rw [xR_s, if_pos ⟨rfl, rfl⟩]
  have eT : txS (swH h c it) it = T' := ht
  have et : tx (swH h c it) = T' := by
    rw [← eT]
    funext k
    unfold tx txS
    rw [e34]
  have rm' : RmOk (swH h c it) := sw_rm i3
  have kI : xI (swH h c it) = xI h := rfl
  have kL : xL (swH h c it) = xL h := rfl
  have kN : xN (swH h c it) = xN h := rfl
  have kK : xK (swH h c it) = xK h := rfl
  have k11 : xR (swH h c it) 58 11 = xR h 58 11 := sw_R (by decide) (by decide)
  have k12 : xR (swH h c it) 58 12 = xR h 58 12 := sw_R (by decide) (by decide)
  generalize swH h c it = hz at s' e34 eT et rm' kI kL kN kK k11 k12 ⊢
  refine B_50_26 s' hit (B_51_0 s' hit (c_worldOf s' hit (sc_a2 s' hit) ⟨by decide, by decide⟩ (by rw [eT]; exact t.2.2.1) ⟨s', _, rfl, s', ?_⟩))
  have ew : wsum (txS hz it) (xI hz (it + 2)) (tn (txS hz it 0 0)) 0 0 = nI (wNow T' (tR T')) := by
    rw [eT]
    have e2 : xI hz (it + 2) = T' 2 := by rw [← eT]; rfl
    rw [e2, ← wsum_w t.n t.w (rOk_t t)]
    refine wsum_c _ _ _ (fun i hi => ?_)
    unfold tR
    rw [if_pos (by omega)]
  rw [ew]
  refine c_begin s' (ar_39 s') (by decide) (by rw [et]; exact t.1) (by rw [et]; exact t.2.2.1) (by rw [et]; exact t.2.2.2.1) (fun h1 f1 e1 => ?_)
  rw [et] at e1
  have s1' := f1.sh s' (by decide)
  refine ⟨s1', c_pclear (f := f) s1' (fun h2 f2 p2 => ?_)⟩
  have s2' := f2.sh s1' (by decide)
  have f3 : Fx [4] h2 (xsI h2 4 10 0) := Fx.rf.set (by decide)
  have s3' := f3.sh s2' (by decide)
  have v10 : xI (xsI h2 4 10 0) 4 10 = 0 := xI_ss
  have v4 : ∀ j, j ≠ 10 → xI (xsI h2 4 10 0) 4 j = xI h2 4 j := fun j hj => xI_sd hj
  generalize xsI h2 4 10 0 = h3 at f3 s3' v10 v4
  refine ⟨s2', B_66_0 s3' ?_⟩
  have f4 : Fx [58] h3 (xsI (xsI h3 58 0 0) 58 7 (-1)) := (Fx.rf.set (by decide)).set (by decide)
  have s4' := f4.sh s3' (by decide)
  have u0 : xI (xsI (xsI h3 58 0 0) 58 7 (-1)) 58 0 = 0 := by rw [xI_sd (by decide)]; exact xI_ss
  have u7 : xI (xsI (xsI h3 58 0 0) 58 7 (-1)) 58 7 = -1 := xI_ss
  generalize xsI (xsI h3 58 0 0) 58 7 (-1) = h4 at f4 s4' u0 u7
  refine ⟨rfl, s4', c_forgetG s4' (fun h5 f5 g1 g2 g3 => ⟨f5.sh s4' (by decide), rfl, ?_⟩)⟩
  have F : Fx [4, 34, 35, 36, 38, 39, 40, 43, 49, 53, 58] hz h5 := ((((f1.mono (by decide)).tr (f2.mono (by decide))).tr (f3.mono (by decide))).tr (f4.mono (by decide))).tr (f5.mono (by decide))
  have P : Hx [4, 34, 35, 36, 38, 39, 40, 43, 49, 53, 58] [] hz h5 := F.hx s' (by decide)
  have hG0 : ∀ q ∈ ([] : List (Nat × Nat)), q ∈ GK := fun q hq => (by cases hq)
  have e4 : ∀ j, j ≠ 10 → xI h5 4 j = xI hz 4 j := fun j hj => by rw [f5.at (by decide), f4.at (by decide), v4 j hj, f2.at (by decide), f1.at (by decide)]
  have e40 : xI h5 40 = xI h2 40 := by rw [f5.at (by decide), f4.at (by decide), f3.at (by decide)]
  have e41 : xI h5 41 = xI h2 41 := by rw [f5.at (by decide), f4.at (by decide), f3.at (by decide)]
  have e39 : xI h5 39 = xI h1 39 := by rw [f5.at (by decide), f4.at (by decide), f3.at (by decide), f2.at (by decide)]
  have e58 : xI h5 58 = xI h4 58 := f5.at (by decide)
  refine k h5 ⟨fun a h6 h7 => ⟨by rw [F.at (by simp only [List.mem_cons, List.not_mem_nil, or_false]; omega), kI], by rw [F.2.1, kL]⟩, by rw [F.at (a := 0) (by decide), kI], by rw [F.2.2.2.1, kN], by rw [F.2.2.1, kK]⟩ ⟨⟨⟨P.1, by rw [F.1]; exact e34, ?_, t⟩, ?_, P.2.2.2.2.1 rm', tl', td⟩, ⟨Or.inl g3, Or.inl g1, Or.inl g2, Or.inl (by rw [e58]; exact u7), ?_⟩, ⟨Nat.zero_le _, by rw [e58]; exact u0, fun i hi => absurd hi (Nat.not_lt_zero _)⟩, ?_, ⟨?_, fun s _ z => (by cases z)⟩, ⟨Nat.zero_le _, ?_, fun i hi => absurd hi (Nat.not_lt_zero _)⟩, ?_, ?_, ?_⟩
  · rw [← et]
    funext k
    unfold tx
    rw [F.1, e34]
    by_cases hk : k ≤ 9
    · rw [if_pos hk, if_pos hk]
      exact F.at (by simp only [List.mem_cons, List.not_mem_nil, or_false]; omega)
    · rw [if_neg hk, if_neg hk]
  · rw [e39, e1]
    exact beg_told t
  · rw [F.1, F.2.2.2.1, k11, k12, kN]
    exact a4.2
  · unfold PC
    rw [e40, e41]
    exact p2
  · rw [f5.at (by decide), f4.at (by decide), v10]
    rfl
  · rw [e4 1 (by decide), kI]
    exact t1.2.1
  · rw [e4 2 (by decide), kI]
    exact l1
  · unfold WD
    rw [F.2.1, kL]
    exact w1
  · unfold WKc
    rw [F.at (a := 6) (by decide), F.at (a := 15) (by decide), F.at (a := 25) (by decide), kI]
    exact w2
theorem TX.toD {rz : Nat → Nat} {cs rs : List Cd} {F : List Fa} {G : List Pg} {LW : List Lw} {BR : List Br} {sl sd pg a m : Nat} (x : TX T rz cs (F, G, LW, BR, sl, sd, pg)) (P : PI (kS B m) (vS B m) (a, none, cs, rs) (F, G, LW, BR, sl, sd, pg)) : tDj T := by
  have F8 : F.length ≤ 8 := P.2.1.1
  have y0 : T 0 0 = nI F.length := x.2.1.1
  have y4 : T 0 4 = whB F 1 := x.2.1.2.2.1
  have y5 : T 0 5 = whB F 2 := x.2.1.2.2.2.1
  intro f hf z
  rw [y0, tn_nI (by omega)] at hf
  rw [y4, y5, gb_wh F8 (by omega), gb_wh F8 (by omega), decide_eq_true hf, Bool.true_and, Bool.true_and] at z
  have h1 := of_decide_eq_true z.1
  have h2 := of_decide_eq_true z.2
  omega
/-- the one side's read -/
theorem c_readC {K : Int32 → XH → Prop} (I : CI T c r n f hb hf sn q tl b pl h) (hB : tpB b tl B)
    (k : ∀ pg, pg ≤ 6 → (∀ e, jdg B tl (txL B tl 401 (co0, stZ0 pg)) = .error e → ∀ h1, KC h h1 → CI T c r n f hb hf sn q 0 b (nI e.2) h1 → K (nI e.1) h1) ∧ ∀ a cs rs st, jdg B tl (txL B tl 401 (co0, stZ0 pg)) = .ok ((a, none, cs, rs), st) → ∀ T' c' h1, TX T' (rzF B tl st.1 st.2.1) cs st → KC h h1 → CI T' c' (setS T' (tR T')) 0 f (fun _ => false) hf 0 q 0 b (-1) h1 → K (nI 0) h1) : ClI 13 [.ref 4] h K := by
  have I0 := I
  obtain ⟨⟨i1, i2, i3, i4, i5⟩, ⟨a1, a2, a3, a4⟩, s1, p1, c1, t1, l1, w1, w2⟩ := I
  have s := i1.1
  obtain ⟨pg, hpg, e66⟩ := w2.1
  obtain ⟨k0, k1⟩ := k pg hpg
  obtain ⟨it, hi⟩ : ∃ it, xR h 4 5 = it := ⟨_, rfl⟩
  have hit : it = 14 ∨ it = 24 := by rw [← hi]; exact ss_o s
  have hci : c ≠ it := by
    rw [← hi, ← i1.2.1]
    rcases s.2.2.2.1 with z | z <;> omega
  refine B_13_0 s ?_
  rw [t1.2.1]
  refine c_cutC (B := B) s w1 ⟨t1.1, hB.1, fun i hi => by rw [t1.2.2 i hi]; exact hB.2 i hi⟩ (fun h1 f1 g1 T1 => ⟨f1.sh s (by decide), ?_⟩)
  have s1' := f1.sh s (by decide)
  have hi1 : xR h1 4 5 = it := by rw [f1.1]; exact hi
  rw [hi1]
  have hmo : ∀ f, f < 8 → ∃ m, m ≤ 3 ∧ xI h1 (it + 1) f = nI m := by
    rcases hit with e | e <;> subst e
    · show ∀ f, f < 8 → ∃ m, m ≤ 3 ∧ xI h1 15 f = nI m
      rw [f1.at (by decide)]
      exact w2.2.1
    · show ∀ f, f < 8 → ∃ m, m ≤ 3 ∧ xI h1 25 f = nI m
      rw [f1.at (by decide)]
      exact w2.2.2
  refine c_tellAll (B := B) (pg := pg) hB.1 s1' hit T1 t1.1 hpg (by rw [g1 6 (by decide)]; exact e66) hmo (fun h3 f3 W3 t3 => ?_)
  have s3' : Sh h3 := f3.sh (sh_R68 s1') (by simp; omega)
  refine ⟨s3', c_judgeC (B := B) t3 (fun y ey => PI.all 401 _ y (PI.co0 hpg) ey) (fun h5 f5 J => ⟨J.1, ?_⟩)⟩
  have fr : Lx (SRd it) [10, 12, 13] (xsR h 6 8 it) h5 := ((f1.r68 (v := it)).mono (by intro a ha; simp only [List.mem_cons, List.not_mem_nil, or_false] at ha ⊢; omega) (by decide)).tr ((f3.mono (fun a ha => List.mem_cons_of_mem _ (List.mem_cons_of_mem _ ha)) (by decide)).tr (f5.1.mono (fun a ha => List.mem_cons_of_mem _ (List.mem_cons_of_mem _ ha)) (by decide)))
  have W5 : WK it h5 := f5.2 hit W3
  have I5 := (I0.r68 (v := it)).rd hit hci fr W5
  have kc : KC h h5 := ⟨fun a h6 h7 => ⟨by rw [fr.at (fun z => by simp only [List.mem_cons, List.not_mem_nil, or_false] at z; omega)]; rfl, by rw [fr.al (fun z => by simp only [List.mem_cons, List.not_mem_nil, or_false] at z; omega)]; rfl⟩, by rw [fr.at (a := 0) (fun z => by simp only [List.mem_cons, List.not_mem_nil, or_false] at z; omega)]; rfl, by rw [fr.2.2.2.1]; rfl, by rw [fr.2.2.1]; rfl⟩
  have i60 : xI (xsI h5 4 1 0) 6 0 = xI h5 6 0 := by rw [xI_n (by decide)]
  rw [i60]
  have kc2 : ∀ v : Int32, KC h (xsI (xsI h5 4 1 0) 4 2 v) := fun v => kc.tr ⟨fun a h6 h7 => ⟨by rw [xI_n (by omega), xI_n (by omega)], rfl⟩, by rw [xI_n (by decide), xI_n (by decide)], rfl, rfl⟩
  match hj : jdg B tl (txL B tl 401 (co0, stZ0 pg)) with
  | .error e =>
    rw [hj] at J
    obtain ⟨J1, J2, j1, j2, j3, j4⟩ := J
    have ne : ¬ nI e.1 = (0 : Int32) := fun z => by have := (nI_eq (a := e.1) (b := 0) (by omega) (by decide)).mp z; omega
    rw [j4]
    exact ⟨fun _ => ⟨_, rfl, k0 e hj _ (kc2 _) I5.tp0⟩, fun z => absurd ne z⟩
  | .ok (co, st) =>
    rw [hj] at J
    obtain ⟨J1, J2, j1, j2⟩ := J
    have ej : ∃ a cs rs, co = (a, none, cs, rs) ∧ txL B tl 401 (co0, stZ0 pg) = .ok ((a, none, cs, rs), st) := by
      unfold jdg at hj
      match hx : txL B tl 401 (co0, stZ0 pg) with
      | .error e => rw [hx] at hj; cases hj
      | .ok ((a, sf, cs, rs), st') =>
        rw [hx] at hj
        dsimp only at hj
        match sf with
        | some e => cases hj
        | none =>
          dsimp only at hj
          match hu : unkN B tl st'.1 st'.2.1 (tks rs) with
          | some j => rw [hu] at hj; cases hj
          | none => rw [hu] at hj; cases hj; exact ⟨a, cs, rs, rfl, rfl⟩
    obtain ⟨a, cs, rs, rfl, ex⟩ := ej
    have P := PI.all 401 _ _ (PI.co0 hpg) ex
    have P : PI (kS B tl) (vS B tl) (a, none, cs, rs) st := P
    have j2 : JT it B tl cs st h5 := j2
    have X := j2.tx (by have pc : cP (kS B tl) (vS B tl) a cs rs := P.1; have q1 := pc.1; have q2 := pc.2.1; omega)
    have eX : txS (xsI (xsI h5 4 1 0) 4 2 (-1)) it = txS h5 it := by
      funext k
      unfold txS
      by_cases hk : k ≤ 9
      · rw [if_pos hk, if_pos hk, xI_n (by omega), xI_n (by omega)]
      · rw [if_neg hk, if_neg hk]
    obtain ⟨F, G, LW, BR, sl, sd, pg'⟩ := st
    have rl := rzF_lt (B := B) (n := tl) (F := F) (G := G) P.2.1.1 P.2.2.1.1
    have tt := X.toA P rl
    rw [j1]
    refine ⟨fun z => absurd rfl z, fun _ => c_anew (it := it) I5.tp0 ?_ eX tt (X.toL P) (X.toD P) (fun h7 k7 I7 => ⟨I7.1.1.1, _, rfl, k1 a cs rs _ hj _ it h7 X ((kc2 _).tr k7) I7⟩)⟩
    show xR h5 4 5 = it
    rw [fr.1, xR_s, if_neg (by decide)]
    exact hi
end CR2
