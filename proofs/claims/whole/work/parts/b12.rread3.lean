/-! READING, the other side: the call, whole -/
abbrev SRa : List Nat := [71, 72, 73, 74, 78, 79, 80, 81, 82, 83, 84, 85, 86, 87, 88, 89, 90, 91, 92, 93, 94, 95, 96, 97, 98, 99, 100, 101, 102, 103, 104, 105]
abbrev FRa : List Nat := [2, 4, 10, 11, 12, 13, 14, 15, 16, 19, 20, 32, 39, 42, 45, 51, 55]
section RR3
variable {s l n pg sn tl : Nat} {B : Nat → Nat} {T T' I J : Nat → Nat → Int32} {b r : Nat → Int32} {h h0 h1 h2 : XH} {Q : Value → XH → Prop} {f hf : Nat → Nat → Int32} {hb : Nat → Bool} {q : Nat → Nat × Nat × Nat} {pl : Int32} {F : List Fa} {G : List Pg} {LW : List Lw} {BR : List Br} {sl sd a : Nat} {cs rs : List Cd} {rz : Nat → Nat}
/-- what was known of the other side stands when a reading failed -/
theorem RI.rd {v : Int32} (i : RI T l r n f hb hf sn q tl b pl h) (hs : s = 1 - l) (l2 : l < 2) (g : Ry s SRa [75, 77] FRa h h1) (e2 : xI h1 69 2 = nI 0) : RI T l r n f hb hf sn q 0 b v (xsI h1 69 17 v) ∧ KR h (xsI h1 69 17 v) := by
  obtain ⟨⟨i1, i2, i3, i4⟩, i5, i6, i7, i8, i9, i10, i11⟩ := i
  have G : Rx SRa [75, 77] (17 :: FRa) h (xsI h1 69 17 v) := (g.1.mono (fun _ h => h) (fun _ h => h) (fun _ h => List.mem_cons_of_mem _ h)).fld (by decide)
  have O : othS s h (xsI h1 69 17 v) := g.2.set (Or.inl rfl)
  have s1 := G.sh i1 (by decide)
  have el : 1 - s = l := by omega
  have ag := oth_ag (s := s) (by omega) O
  rw [el] at ag
  refine ⟨⟨⟨s1, by rw [G.f (by decide)]; exact i2, i3.up ag, i4⟩, by rw [G.at (by decide) (by decide)]; exact i5, ?_, ?_, ?_, ⟨Nat.zero_le _, by rw [xI_sd (by decide)]; exact e2, fun i hi => absurd hi (Nat.not_lt_zero _)⟩, xI_ss, ?_⟩, ?_⟩
  · unfold PR
    rw [G.f (by decide), G.at (by decide) (by decide)]
    exact i6
  · unfold HR
    rw [G.at (a := 122) (by decide) (by decide), G.at (a := 123) (by decide) (by decide)]
    exact i7
  · unfold SNr
    rw [G.f (by decide), G.at (a := 118) (by decide) (by decide), G.at (a := 119) (by decide) (by decide), G.at (a := 120) (by decide) (by decide)]
    exact i8
  · unfold KD
    rw [G.al (by decide)]
    exact i11
  · exact G.1.mono (by decide) (by decide)
theorem l_held (hs : Sh h0) (kk : ∀ h1, Gx [122] [] h0 h1 → (∀ j, j < 3 → xI h1 122 j = nI 0) → Q (.int 0) h1) : ∀ (k i : Nat) (h : XH), i + k = 3 → Gx [122] [] h0 h → (∀ j, j < i → xI h 122 j = nI 0) → Ev 178 339 [.ref 69, .int (nI i)] [] h Q := by
  intro k
  induction k with
  | zero =>
    intro i h hi g hj
    have : i = 3 := by omega
    subst this
    exact B_178_339 (g.sh hs (by decide)) ⟨fun _ => kk h g hj, fun z => absurd (by decide : (3 : Int32) ≤ nI 3) z⟩
  | succ k ih =>
    intro i h hi g hj
    refine B_178_339 (g.sh hs (by decide)) ?_
    rw [tn_nI (show i < 2 ^ 31 by omega), nI_1]
    refine ⟨fun z => absurd z (nI_ge (a := i) (b := 3) (by omega) (by decide)), fun _ => ⟨inb (by omega) (by decide), ih (i + 1) _ (by omega) (g.set (by decide) (by decide)) (fun j hj' => ?_)⟩⟩
    by_cases z : j = i
    · rw [z]; exact xI_ss
    · rw [xI_sd z]; exact hj j (by omega)
/-- the text is begun -/
theorem l_begun {K : Int32 → XH → Prop} (i : RI T l r n f hb hf sn q tl b pl h) (hs : s = 1 - l) (l2 : l < 2) (g : Ry s SRa [75, 77] FRa h h1) (e2 : xI h1 69 2 = nI 0) (e19 : xI h1 69 19 = nI s) (tie : TieS T' (rt h1) s) (t : tA T') (k : ∀ h2, KR h h2 → RI T' s (setS T' (tR T')) 0 f (fun _ => false) hf 0 q 0 b (-1) h2 → K 0 h2) : ClV 161 [.ref 69] (xsI (xsI h1 69 17 (-1)) 69 18 (xI (xsI h1 69 17 (-1)) 69 19)) (fun h1 => Sh h1 ∧ (ClV 174 [.ref 69] h1 (fun h3 => Sh h3 ∧ (Ev 178 339 [.ref 69, .int 0] [] (xsI (xsI h3 69 65 0) 69 71 0) (fun v h => ∃ v2, v = .int v2 ∧ K v2 h))))) := by
  obtain ⟨⟨i1, i2, i3, i4⟩, i5, i6, i7, i8, i9, i10, i11⟩ := i
  have j19 : xI (xsI h1 69 17 (-1)) 69 19 = nI s := by rw [xI_sd (by decide)]; exact e19
  rw [j19]
  have G : Rx SRa [75, 77] (17 :: 18 :: FRa) h (xsI (xsI h1 69 17 (-1)) 69 18 (nI s)) := ((g.1.mono (fun _ h => h) (fun _ h => h) (fun _ h => List.mem_cons_of_mem _ (List.mem_cons_of_mem _ h))).fld (by decide)).fld (by decide)
  have v18 : xI (xsI (xsI h1 69 17 (-1)) 69 18 (nI s)) 69 18 = nI s := xI_ss
  have v17 : xI (xsI (xsI h1 69 17 (-1)) 69 18 (nI s)) 69 17 = -1 := by rw [xI_sd (by decide)]; exact xI_ss
  have v2 : xI (xsI (xsI h1 69 17 (-1)) 69 18 (nI s)) 69 2 = nI 0 := by rw [xI_sd (by decide), xI_sd (by decide)]; exact e2
  have ert : rt (xsI (xsI h1 69 17 (-1)) 69 18 (nI s)) = rt h1 := by
    funext c
    unfold rt
    by_cases hc : 79 ≤ c ∧ c ≤ 104
    · rw [if_pos hc, if_pos hc, xI_n (by omega), xI_n (by omega)]
    · rw [if_neg hc, if_neg hc]
  rw [← ert] at tie
  generalize xsI (xsI h1 69 17 (-1)) 69 18 (nI s) = h2 at G v18 v17 v2 tie ⊢
  have s2 := G.sh i1 (by decide)
  refine B_161_0 s2 (c_beg0 (T := T') (l := s) ⟨s2, v18, tie.tie, t⟩ (fun h3 g3 r3 => ?_))
  have s3 := g3.sh s2 (by decide)
  refine ⟨s3, rfl, s3, c_keepR s3 r3 (fun h4 g4 r4 => ?_)⟩
  have s4 := g4.sh s3 (by decide)
  refine ⟨s4, ?_⟩
  have g5 : Gx [] [65, 71] h4 (xsI (xsI h4 69 65 0) 69 71 0) := (Gx.rf.fld (by decide)).fld (by decide)
  have u71 : xI (xsI (xsI h4 69 65 0) 69 71 0) 69 71 = nI 0 := xI_ss
  have u65 : xI (xsI (xsI h4 69 65 0) 69 71 0) 69 65 = nI 0 := by rw [xI_sd (by decide)]; exact xI_ss
  generalize xsI (xsI h4 69 65 0) 69 71 0 = h5 at g5 u71 u65 ⊢
  have s5 := g5.sh s4 (by decide)
  refine l_held s5 (fun h6 g6 e6 => ⟨_, rfl, ?_⟩) 3 0 h5 (by omega) Gx.rf (fun j hj => absurd hj (Nat.not_lt_zero _))
  have s6 := g6.sh s5 (by decide)
  have H : Gx [106, 107, 108, 109, 110, 111, 122] [58, 61, 65, 71] h2 h6 := (((g3.mono (by decide) (by decide)).tr (g4.mono (by decide) (by decide))).tr (g5.mono (by decide) (by decide))).tr (g6.mono (by decide) (by decide))
  have R : Rx (106 :: 107 :: 108 :: 109 :: 110 :: 111 :: 122 :: SRa) [75, 77] (58 :: 61 :: 65 :: 71 :: 17 :: 18 :: FRa) h h6 := (G.mono (fun _ h => List.mem_cons_of_mem _ (List.mem_cons_of_mem _ (List.mem_cons_of_mem _ (List.mem_cons_of_mem _ (List.mem_cons_of_mem _ (List.mem_cons_of_mem _ (List.mem_cons_of_mem _ h))))))) (fun _ h => h) (fun _ h => List.mem_cons_of_mem _ (List.mem_cons_of_mem _ (List.mem_cons_of_mem _ (List.mem_cons_of_mem _ h))))).tr ((H.rx (L := [])).mono (by decide) (by decide) (by decide))
  refine k h6 (R.1.mono (by decide) (by decide)) ⟨⟨s6, by rw [H.f (by decide)]; exact v18, ?_, t⟩, ?_, ⟨Nat.zero_le _, by rw [g6.f (by decide)]; exact u65, fun k hk => absurd hk (Nat.not_lt_zero _)⟩, fun s hs => ⟨e6 s hs, fun z => (by cases z)⟩, ⟨Nat.zero_le _, by rw [g6.f (by decide)]; exact u71, fun k hk => absurd hk (Nat.not_lt_zero _)⟩, ⟨Nat.zero_le _, by rw [H.f (by decide)]; exact v2, fun k hk => absurd hk (Nat.not_lt_zero _)⟩, by rw [H.f (by decide)]; exact v17, ?_⟩
  · rw [rt_gx H (by decide)]
    exact tie
  · rw [g6.at (by decide) (by decide), g5.at (by decide) (by decide)]
    exact r4
  · unfold KD
    rw [R.al (by decide)]
    exact i11
theorem c_readR {K : Int32 → XH → Prop} (i : RI T l r n f hb hf sn q tl b pl h) (hB : tpB b tl B) (hpg : pg ≤ 6) (hT : ∀ a cs rs st, jdg B tl (txL B tl 401 (co0, stZ0 pg)) = .ok ((a, none, cs, rs), st) → TX T' (rzF B tl st.1 st.2.1) cs st)
    (k0 : ∀ e, jdg B tl (txL B tl 401 (co0, stZ0 pg)) = .error e → ∀ h1, KR h h1 → RI T l r n f hb hf sn q 0 b (nI e.2) h1 → K (nI e.1) h1) (k1 : ∀ a cs rs st, jdg B tl (txL B tl 401 (co0, stZ0 pg)) = .ok ((a, none, cs, rs), st) → ∀ h1, KR h h1 → RI T' (1 - l) (setS T' (tR T')) 0 f (fun _ => false) hf 0 q 0 b (-1) h1 → K (nI 0) h1) : ClI 178 [.ref 69] h K := by
  have l2 : l < 2 := i.1.2.2.1.tie.1
  have hs := i.1.1
  refine rd_start (pg := pg) hs i.2.2.2.2.2.2.2 i.2.2.2.2.2.1 hB l2 i.1.2.1 (fun h1 g1 e2 t1 => ?_)
  refine l_allR (h0 := h1) (M := txL B tl 401 (co0, stZ0 pg)) (fun h2 g2 t2 _ => ?_) 401 (co0, stZ0 pg) h1 (Nat.le_refl _) Rs.rf t1 (fun _ f g hf => absurd hf (Nat.not_lt_zero _)) rfl
  have hs1 : 1 - l < 2 := by omega
  have G2 : Ry (1 - l) SRa [75, 77] FRa h h2 := (g1.mono (by decide) (by decide) (by decide)).tr ⟨g2.1.mono (by decide) (by decide) (by decide), g2.2⟩
  have s2 := G2.1.sh hs (by decide)
  have e22 : xI h2 69 2 = nI 0 := by rw [g2.1.f (by decide)]; exact e2
  have fin : ∀ (x y : Nat) (h3 : XH), Ry (1 - l) SRa [75, 77] FRa h h3 → xI h3 69 2 = nI 0 → jdg B tl (txL B tl 401 (co0, stZ0 pg)) = .error (x, y) → K (nI x) (xsI h3 69 17 (nI y)) := by
    intro x y h3 g3 e3 ej
    obtain ⟨r1, r2⟩ := i.rd (v := nI y) rfl l2 g3 e3
    exact k0 (x, y) ej _ r2 r1
  have nz : ∀ x, 1 ≤ x → x < 20 → ¬ nI x = (0 : Int32) ∧ ¬ nI x ≤ (0 : Int32) := fun x h1 h2 => ⟨fun z => by have := (nI_eq (a := x) (b := 0) (by omega) (by decide)).mp z; omega, nI_ge (a := 0) (b := x) (by omega) (by omega)⟩
  have z0 : (nI 0 : Int32) ≤ 0 := by decide
  match hM : txL B tl 401 (co0, stZ0 pg) with
  | .error (x, y) =>
    rw [hM] at t2
    have r : RR (1 - l) 0 B tl (.error (x, y)) h2 := t2
    obtain ⟨e1, e3, e4, e13, e14, _⟩ := r.2
    have e13 : xI h2 69 13 = nI x := e13
    have e14 : xI h2 69 14 = nI y := e14
    have nx := nz x e1 e3
    refine B_178_236 s2 ?_
    rw [e13]
    refine ⟨fun _ => B_178_254 s2 ?_, fun z => absurd nx.1 z⟩
    have i13 : xI (xsI h2 69 17 (nI y)) 69 13 = nI x := by rw [xI_sd (by decide)]; exact e13
    rw [e13, e14, i13]
    exact ⟨fun z => absurd z nx.2, fun _ => ⟨fun z => absurd z nx.2, fun _ => ⟨_, rfl, fin x y h2 G2 e22 (by rw [hM]; rfl)⟩⟩⟩
  | .ok ((a, some (x, y), cs, rs), st) =>
    rw [hM] at t2
    have r : RR (1 - l) 0 B tl (.ok (a, some (x, y), cs, rs)) h2 := t2.1
    have e13 : xI h2 69 13 = nI 0 := r.2.1
    obtain ⟨v1, v2, v3, v4, v5, v6⟩ := r.2.2.2.2.1
    have nx := nz x v3 v4
    refine B_178_236 s2 ?_
    rw [e13, v1]
    refine ⟨fun z => absurd rfl z, fun _ => ⟨fun _ => B_178_254 s2 ?_, fun z => absurd nx.1 z⟩⟩
    have i13 : xI (xsI h2 69 17 (nI y)) 69 13 = nI 0 := by rw [xI_sd (by decide)]; exact e13
    have i15 : xI (xsI h2 69 17 (nI y)) 69 15 = nI x := by rw [xI_sd (by decide)]; exact v1
    rw [e13, v1, v2, i13, i15]
    exact ⟨fun _ => ⟨fun z => absurd z nx.2, fun _ => ⟨fun _ => ⟨fun z => absurd z nx.2, fun _ => ⟨_, rfl, fin x y h2 G2 e22 (by rw [hM]; rfl)⟩⟩, fun z => absurd z0 z⟩⟩, fun z => absurd z0 z⟩
  | .ok ((a, none, cs, rs), F, G, LW, BR, sl, sd, pg') =>
    rw [hM] at t2
    have r : RR (1 - l) 0 B tl (.ok (a, none, cs, rs)) h2 := t2.1
    have x : rST (1 - l) a none (F, G, LW, BR, sl, sd, pg') h2 := t2.2
    have P : PI (kS B tl) (vS B tl) (a, none, cs, rs) (F, G, LW, BR, sl, sd, pg') := PI.all 401 _ _ (PI.co0 hpg) hM
    have Pc : cP (kS B tl) (vS B tl) a cs rs := P.1
    obtain ⟨q1, q2, q3, q4, q5, q6, q7, q8, q9, q10⟩ := r.2
    have q4 : xI h2 69 15 = nI 0 := q4
    have r4 : rs.length ≤ 400 := by have := q3.1; omega
    obtain ⟨⟨NM, N1, N2⟩, x'⟩ := x
    have N1 : nmR F G NM := N1
    have NP : nP none F G := P.2.2.2.2.1
    have f0 : FN (1 - l) B tl a F G NM rs [] h2 := ⟨⟨r.1, q1, q3, q4⟩, N2, q9, q10, fun i hi => (q8 i hi).1, fun x hx => (by cases hx), fun i hi _ => (q8 i hi).2⟩
    refine B_178_236 s2 ?_
    rw [q1, q4]
    refine ⟨fun z => absurd rfl z, fun _ => ⟨fun z => absurd rfl z, fun _ => B_203_0 s2 (l_finds (F := F) (G := G) (h0 := h2) N1 NP r4 Pc.2.2.2.1 (fun x hx h11 => ?_) (fun h3 g3 f3 => ⟨rfl, f3.1.1.1, B_178_254 f3.1.1.1 ?_⟩) (rfA 0 rs) [] h2 rfl Gs.rf f0)⟩⟩
    · obtain ⟨pg2, _, hk⟩ := Pc.2.2.2.2.2 x hx
      rcases hk with ⟨z, _⟩ | ⟨z, _⟩ | ⟨_, z⟩ | ⟨z, _⟩ | ⟨z, z2, _⟩
      · omega
      · omega
      · exact z
      · omega
      · omega
    · have G3 : Ry (1 - l) SRa [75, 77] FRa h h3 := G2.tr ⟨((g3.gx.rx (L := [])).mono (by decide) (by decide) (by decide)), g3.2.2⟩
      have e32 : xI h3 69 2 = nI 0 := by rw [g3.f (by decide)]; exact e22
      have e13 : xI h3 69 13 = nI 0 := f3.1.2.1
      have sfp := f3.1.2.2.2
      rw [rfA_t] at sfp
      have ej : jdg B tl (.ok ((a, none, cs, rs), F, G, LW, BR, sl, sd, pg')) = match unkN B tl F G (tks rs) with
        | some j => .error (8, pS B tl j)
        | none => .ok ((a, none, cs, rs), F, G, LW, BR, sl, sd, pg') := rfl
      unfold sfU at sfp
      match hu : unkN B tl F G (tks rs) with
      | some j =>
        rw [hu] at sfp ej
        obtain ⟨v1, v2, v3, v4, v5, v6⟩ := sfp
        have nx := nz 8 (by decide) (by decide)
        have i13 : xI (xsI h3 69 17 (nI (pS B tl j))) 69 13 = nI 0 := by rw [xI_sd (by decide)]; exact e13
        have i15 : xI (xsI h3 69 17 (nI (pS B tl j))) 69 15 = nI 8 := by rw [xI_sd (by decide)]; exact v1
        rw [e13, v1, v2, i13, i15]
        exact ⟨fun _ => ⟨fun z => absurd z nx.2, fun _ => ⟨fun _ => ⟨fun z => absurd z nx.2, fun _ => ⟨_, rfl, fin 8 (pS B tl j) h3 G3 e32 (by rw [hM]; exact ej)⟩⟩, fun z => absurd z0 z⟩⟩, fun z => absurd z0 z⟩
      | none =>
        rw [hu] at sfp ej
        have v1 : xI h3 69 15 = nI 0 := sfp
        have i13 : xI (xsI h3 69 17 (-1)) 69 13 = nI 0 := by rw [xI_sd (by decide)]; exact e13
        have i15 : xI (xsI h3 69 17 (-1)) 69 15 = nI 0 := by rw [xI_sd (by decide)]; exact v1
        have x3 : rST (1 - l) a none (F, G, LW, BR, sl, sd, pg') h3 := rST.rx (L := []) ⟨⟨NM, N1, N2⟩, x'⟩ g3.gx.rx (by decide) (by decide) (by decide) (Nat.le_refl _) id
        have jr := x3.jr (NM := NM) Pc.2.1 r4 f3.atR
        have F8 : F.length ≤ 8 := P.2.1.1
        have G6 : G.length ≤ 6 := P.2.2.1.1
        have rl := rzF_lt (B := B) (n := tl) F8 G6
        have X : TX T' (rzF B tl F G) cs (F, G, LW, BR, sl, sd, pg') := hT a cs rs _ (by rw [hM]; exact ej)
        have tie : TieS T' (rt h3) (1 - l) := fun J gJ => (jr.ag F8 G6 (fun p hp => (P.2.2.1.2 p hp).1.2.1) gJ).tie X P rl hs1
        rw [e13, v1, i13, i15]
        exact ⟨fun _ => ⟨fun _ => ⟨fun _ => ⟨fun _ => l_begun i rfl l2 G3 e32 f3.1.1.2.2.1 tie (X.toA P rl) (fun h4 k4 i4 => k1 a cs rs _ (by rw [hM]; exact ej) h4 k4 i4), fun z => absurd z0 z⟩, fun z => absurd z0 z⟩, fun z => absurd z0 z⟩, fun z => absurd z0 z⟩
end RR3
