/-! THE CLASS: reach -/
abbrev SBf : List Nat := [34, 35, 36, 37, 38, 58, 62]
abbrev GB : List (Nat × Nat) := [(58, 8), (58, 9), (58, 11), (58, 12)]
theorem gb_gk : ∀ q ∈ GB, q ∈ GK := by decide
def Bx (h h1 : XH) : Prop := Hx SBf GB h h1 ∧ xI h1 58 0 = xI h 58 0
section RX
variable {T : Nat → Nat → Int32} {c : Nat} {h0 h h1 h2 : XH} {Q : Value → XH → Prop}
theorem Bx.rf (s : Sh h) : Bx h h := ⟨Hx.rf s, rfl⟩
theorem Bx.tr (p : Bx h h1) (q : Bx h1 h2) : Bx h h2 := ⟨p.1.tr q.1, q.2.trans p.2⟩
theorem Bx.of {G : List (Nat × Nat)} (p : Hx [] G h h1) (s : Sh h) (hG : ∀ q ∈ G, q ∈ GB) : Bx h h1 := ⟨p.mono (by decide) hG (fun q hq => gk_lt s q (by revert q; decide)), by rw [p.at s (by decide) (by decide) (fun q hq => gb_gk q (hG q hq)) (by decide)]⟩
def RO (T : Nat → Nat → Int32) (h : XH) (d : Nat) : Prop := (d = 0 ∧ wN T ≤ xN h (xR h 58 8) ∧ 31 * wN T ≤ xN h (xR h 58 9)) ∨ ∃ m, d = m + 1 ∧ BOn T h m
theorem BOn.fg {m : Nat} (B : BOn T h m) (s : Sh h) (p : Hx [] [(58, 11), (58, 12)] h h1) (cv : ∀ e, CV T e h1) : BOn T h1 m := by
  obtain ⟨b1, b2, b3, b4, b5, b6, b7, b8⟩ := B
  obtain ⟨r8, i8, -, n8⟩ := p.g s (58, 8, 1, 64) (by decide) (by decide) (by decide)
  obtain ⟨r9, i9, -, n9⟩ := p.g s (58, 9, 1, 65) (by decide) (by decide) (by decide)
  have e58 : xI h1 58 = xI h 58 := p.at s (by decide) (by decide) (by decide) (by decide)
  have e62 : xI h1 62 = xI h 62 := p.at s (by decide) (by decide) (by decide) (by decide)
  have r8 : xR h1 58 8 = xR h 58 8 := r8
  have r9 : xR h1 58 9 = xR h 58 9 := r9
  have i8 : xI h1 (xR h 58 8) = xI h (xR h 58 8) := i8
  have i9 : xI h1 (xR h 58 9) = xI h (xR h 58 9) := i9
  have n8 : xN h1 (xR h 58 8) = xN h (xR h 58 8) := n8
  have n9 : xN h1 (xR h 58 9) = xN h (xR h 58 9) := n9
  unfold BOn
  rw [r8, r9, i8, i9, n8, n9, e58, e62]
  exact ⟨b1, b2, b3, b4, b5, b6, b7, fun _ _ => cv 0⟩
theorem RO.fg {d : Nat} (B : RO T h d) (s : Sh h) (p : Hx [] [(58, 11), (58, 12)] h h1) (cv : ∀ e, CV T e h1) : RO T h1 d := by
  obtain ⟨r8, -, -, n8⟩ := p.g s (58, 8, 1, 64) (by decide) (by decide) (by decide)
  obtain ⟨r9, -, -, n9⟩ := p.g s (58, 9, 1, 65) (by decide) (by decide) (by decide)
  have r8 : xR h1 58 8 = xR h 58 8 := r8
  have r9 : xR h1 58 9 = xR h 58 9 := r9
  have n8 : xN h1 (xR h 58 8) = xN h (xR h 58 8) := n8
  have n9 : xN h1 (xR h 58 9) = xN h (xR h 58 9) := n9
  rcases B with ⟨d0, l8, l9⟩ | ⟨m, hm, B⟩
  · left
    rw [r8, r9, n8, n9]
    exact ⟨d0, l8, l9⟩
  · exact Or.inr ⟨m, hm, B.fg s p cv⟩
theorem l_rday {n d : Nat} (M : CM T c h) (rm : RmOk h) (hd : d ≤ 30) (ro : RO T h d) (cv : 1 ≤ d → CV T (d - 1) h) (hl : xN h (xR h 58 11) = xN h (xR h 58 12)) (kk : ∀ h1, Bx h h1 → CM T c h1 → RmOk h1 → BOn T h1 d → xN h1 (xR h1 58 11) = xN h1 (xR h1 58 12) → Ev 127 59 [.ref 58, .int (nI n), .ref c, .int (nI (wN T)), .int (nI (d + 1)), .null, .null] [] h1 Q) : Ev 127 89 [.ref 58, .int (nI n), .ref c, .int (nI (wN T)), .int (nI d), .null, .null] [] h Q := by
  have s := M.1
  have t := M.2.2.2
  have l8 : wN T ≤ xN h (xR h 58 8) := by
    rcases ro with ⟨-, q, -⟩ | ⟨m, -, B⟩
    · exact q
    · exact B.2.2.1
  have l9 : 31 * wN T ≤ xN h (xR h 58 9) := by
    rcases ro with ⟨-, -, q⟩ | ⟨m, -, B⟩
    · exact q
    · exact B.2.2.2.1
  have q8 := g_58 s (j := 8) (v := 64) (by decide)
  have q9 := g_58 s (j := 9) (v := 65) (by decide)
  have q11 := g_58 s (j := 11) (v := 67) (by decide)
  have q12 := g_58 s (j := 12) (v := 68) (by decide)
  refine B_127_89 s M.c2 ?_
  refine l_rin (g8 := xR h 58 8) (g9 := xR h 58 9) (g11 := xR h 58 11) (g12 := xR h 58 12) M rm rfl rfl rfl rfl hd l8 l9 (fun h1 f1 P => ?_) (wN T) 0 h (by omega) Fx.rf ?_
  · obtain ⟨P1, -, P3, P4, P5, P6⟩ := P
    have hp : Hx SBf GB h h1 := f1.hxG s (by simp; omega) (by
      intro a ha
      simp only [List.mem_cons, List.not_mem_nil, or_false] at ha
      rcases ha with e | e | e | e | e | e | e | e | e | e
      · exact Or.inr ⟨(58, 8), by simp, e⟩
      · exact Or.inr ⟨(58, 9), by simp, e⟩
      · exact Or.inr ⟨(58, 11), by simp, e⟩
      · exact Or.inr ⟨(58, 12), by simp, e⟩
      all_goals (left; rw [e]; decide))
    have f2 : Fx [58] h1 (xsI h1 58 7 (nI d)) := Fx.rf.set (by simp)
    have hp2 : Hx SBf GB h (xsI h1 58 7 (nI d)) := hp.tr (f2.hxG hp.1 (by decide) (by intro a ha; left; rw [List.mem_singleton.mp ha]; decide))
    have r8 : xR h1 58 8 = xR h 58 8 := by rw [f1.1]
    have r9 : xR h1 58 9 = xR h 58 9 := by rw [f1.1]
    have hN : xN h1 = xN h := f1.2.2.2.1
    have e58 : xI h1 58 = xI h 58 := f1.at (by simp; omega)
    rw [r8] at P1
    rw [r9] at P3 P4
    have MM := M.hx hp2 (by decide) (by decide)
    refine kk _ ⟨hp2, by rw [xI_sd (by decide), e58]⟩ MM (hp2.2.2.2.2.1 rm) ?_ ?_
    · refine ⟨hd, xI_ss, ?_, ?_, fun w hw => ?_, fun d' w h1' hw => ?_, ?_, fun h1d hst => ?_⟩
      · show wN T ≤ xN h1 (xR h1 58 8)
        rw [r8, hN]; exact l8
      · show 31 * wN T ≤ xN h1 (xR h1 58 9)
        rw [r9, hN]; exact l9
      · show xI (xsI h1 58 7 (nI d)) (xR h1 58 8) w = _
        rw [r8, xI_n (by omega)]; exact P1 w hw
      · show xI (xsI h1 58 7 (nI d)) (xR h1 58 9) _ = _
        rw [r9, xI_n (by omega)]
        rcases Nat.lt_or_ge d' d with z | z
        · exact P3 d' w z hw
        · have : d' = d := by omega
          subst this
          exact P4 w hw
      · rw [xI_n (by decide)]
        exact P5 (Or.inr wN_pos)
      · have cv1 := cv_D (e' := 0) t hst (P6 h1d)
        have c11 : xR h1 58 11 = xR h 58 11 := by rw [f1.1]
        have c12 : xR h1 58 12 = xR h 58 12 := by rw [f1.1]
        unfold CV at cv1 ⊢
        rw [show xR (xsI h1 58 7 (nI d)) = xR h1 from rfl, c11, c12, xI_n (by omega), xI_n (by omega)]
        rw [c11, c12] at cv1
        exact cv1
    · show xN h1 (xR h1 58 11) = xN h1 (xR h1 58 12)
      rw [f1.1, hN]; exact hl
  · refine ⟨fun v hv => absurd hv (by omega), fun v _ hv h1d => ?_, fun d' v hd' hv => ?_, fun v hv => absurd hv (by omega), fun q => ?_, cv⟩
    · rcases ro with ⟨d0, -, -⟩ | ⟨m, hm, B⟩
      · omega
      · subst hm
        exact B.2.2.2.2.1 v hv
    · rcases ro with ⟨d0, -, -⟩ | ⟨m, hm, B⟩
      · omega
      · exact B.2.2.2.2.2.1 d' v (by omega) hv
    · rcases ro with ⟨d0, -, -⟩ | ⟨m, hm, B⟩
      · omega
      · exact B.2.2.2.2.2.2.1
theorem l_rout {n : Nat} (hn : n ≤ 30) (kk : ∀ h1 m, Bx h0 h1 → CM T c h1 → RmOk h1 → BOn T h1 m → n ≤ m → xN h1 (xR h1 58 11) = xN h1 (xR h1 58 12) → Q .null h1) : ∀ (k d : Nat) (h : XH), d + k = 31 → Bx h0 h → CM T c h → RmOk h → RO T h d → xN h (xR h 58 11) = xN h (xR h 58 12) → Ev 127 59 [.ref 58, .int (nI n), .ref c, .int (nI (wN T)), .int (nI d), .null, .null] [] h Q := by
  have stop : ∀ (d : Nat) (h : XH), d ≤ 31 → n < d → Bx h0 h → CM T c h → RmOk h → RO T h d → xN h (xR h 58 11) = xN h (xR h 58 12) → Ev 127 59 [.ref 58, .int (nI n), .ref c, .int (nI (wN T)), .int (nI d), .null, .null] [] h Q := by
    intro d h h31 hlt b M rm ro hl
    refine B_127_59 M.1 M.c2 ?_
    try simp (disch := omega) only [lit, tn_nI, z_inb, nI_add, pk_mul, z_le, z_nle, z_lt, z_nlt, z_ne, z_m1, pk_sub, xI_ss, xI_sd, xI_n, eq_self, true_and, and_true, and_self, not_true_eq_false, not_false_eq_true, false_implies, true_implies, implies_true, Classical.not_not, forall_const, true_or, or_true, false_or, or_false, false_and, and_false, if_true, if_false, ite_true, ite_false, reduceIte, reduceCtorEq]
    refine B_127_227 M.1 ?_
    rcases ro with ⟨d0, -, -⟩ | ⟨m, hm, B⟩
    · omega
    · exact kk h m b M rm B (by omega) hl
  intro k
  induction k with
  | zero => intro d h hk b M rm ro hl; exact stop d h (by omega) (by omega) b M rm ro hl
  | succ k ih =>
    intro d h hk b M rm ro hl
    by_cases hlt : n < d
    · exact stop d h (by omega) hlt b M rm ro hl
    · have go : ∀ h1, Bx h0 h1 → CM T c h1 → RmOk h1 → RO T h1 d → (1 ≤ d → CV T (d - 1) h1) → xN h1 (xR h1 58 11) = xN h1 (xR h1 58 12) → Ev 127 89 [.ref 58, .int (nI n), .ref c, .int (nI (wN T)), .int (nI d), .null, .null] [] h1 Q := by
        intro h1 b1 M1 rm1 ro1 cv1 hl1
        exact l_rday M1 rm1 (by omega) ro1 cv1 hl1 (fun h2 b2 M2 rm2 B2 hl2 => ih (d + 1) h2 (by omega) (b1.tr b2) M2 rm2 (Or.inr ⟨d, rfl, B2⟩) hl2)
      have fg : Ev 127 85 [.ref 58, .int (nI n), .ref c, .int (nI (wN T)), .int (nI d), .null, .null] [] h Q := by
        refine B_127_85 M.1 M.c2 (c_forget M rm hl (fun h1 p cv => ⟨p.1, ?_⟩))
        exact go h1 (b.tr (Bx.of p M.1 (by decide))) (M.hx p (by decide) (by decide)) (p.2.2.2.2.1 rm) (ro.fg M.1 p cv) (fun _ => cv (d - 1)) ((cv 0).1.trans (cv 0).2.1.symm)
      have e8 : xI h c 8 = T 0 8 := by rw [M.t0]
      refine B_127_59 M.1 M.c2 ?_
      rw [e8]
      by_cases hd1 : d = 1
      · subst hd1
        try simp (disch := omega) only [lit, tn_nI, z_inb, nI_add, pk_mul, z_le, z_nle, z_lt, z_nlt, z_ne, z_m1, pk_sub, xI_ss, xI_sd, xI_n, eq_self, true_and, and_true, and_self, not_true_eq_false, not_false_eq_true, false_implies, true_implies, implies_true, Classical.not_not, forall_const, true_or, or_true, false_or, or_false, false_and, and_false, if_true, if_false, ite_true, ite_false, reduceIte, reduceCtorEq]
        exact fg
      · try simp (disch := omega) only [lit, tn_nI, z_inb, nI_add, pk_mul, z_le, z_nle, z_lt, z_nlt, z_ne, z_m1, pk_sub, xI_ss, xI_sd, xI_n, eq_self, true_and, and_true, and_self, not_true_eq_false, not_false_eq_true, false_implies, true_implies, implies_true, Classical.not_not, forall_const, true_or, or_true, false_or, or_false, false_and, and_false, if_true, if_false, ite_true, ite_false, reduceIte, reduceCtorEq]
        rcases M.2.2.2.x.2.2.2.1 with q | q
        · rw [q]
          try simp (disch := omega) only [lit, tn_nI, z_inb, nI_add, pk_mul, z_le, z_nle, z_lt, z_nlt, z_ne, z_m1, pk_sub, xI_ss, xI_sd, xI_n, eq_self, true_and, and_true, and_self, not_true_eq_false, not_false_eq_true, false_implies, true_implies, implies_true, Classical.not_not, forall_const, true_or, or_true, false_or, or_false, false_and, and_false, if_true, if_false, ite_true, ite_false, reduceIte, reduceCtorEq]
          exact fg
        · refine ⟨fun _ => go h b M rm ro (fun h1d => ?_) hl, fun z => absurd z (by rw [q]; decide)⟩
          rcases ro with ⟨d0, -, -⟩ | ⟨m, hm, B⟩
          · omega
          · exact cv_D M.2.2.2 q (B.2.2.2.2.2.2.2 (by omega) q)
theorem c_reach {n : Nat} {K : XH → Prop} (M : CM T c h) (rm : RmOk h) (B : BOk T h) (hn : n ≤ 30) (k : ∀ h1 m, Bx h h1 → CM T c h1 → RmOk h1 → BOk T h1 → BOn T h1 m → n ≤ m → K h1) : ClV 127 [.ref 58, .int (nI n)] h K := by
  have W2 : wN T ≤ 2000 := M.2.2.2.w.1
  have e6 : xI h (xR h 34 0) 6 = nI (wN T) := by rw [M.2.1, M.t0]; exact M.2.2.2.w.2.1
  have kk : ∀ h1 m, Bx h h1 → CM T c h1 → RmOk h1 → BOn T h1 m → n ≤ m → xN h1 (xR h1 58 11) = xN h1 (xR h1 58 12) → (Value.null = Value.null ∧ K h1) := fun h1 m b M1 r1 B1 q l1 => ⟨rfl, k h1 m b M1 r1 ⟨Or.inr ⟨m, B1⟩, l1⟩ B1 q⟩
  refine B_127_0 M.1 ?_
  rw [e6, M.2.1]
  obtain ⟨B, hl⟩ := B
  rcases B with e | ⟨m, B⟩
  · rw [e]
    refine ⟨fun z => absurd z (by decide), fun _ => ⟨fun z => absurd z (nI_pos (by omega)), fun _ => ?_⟩⟩
    refine c_room (q := (58, 8, 1, 64)) (need := wN T) (K := fun h' => Ev 127 36 [.ref 58, .int (nI n), .ref c, .int (nI (wN T)), .null, .null, .null] [] h' (fun r h1 => r = .null ∧ K h1)) M.1 (by decide) rfl rm (fun n => by unfold okL; simp) (by omega) (fun h1 p1 l1 => ?_)
    have s1 := p1.1
    have M1 := M.hx p1 (by decide) (by decide)
    have rm1 := p1.2.2.2.2.1 rm
    refine B_127_36 s1 M1.c2 ?_
    rw [show (31 : Int32) = nI 31 from rfl, pk_mul]
    refine c_room (q := (58, 9, 1, 65)) (need := 31 * wN T) (K := fun h' => Ev 127 51 [.ref 58, .int (nI n), .ref c, .int (nI (wN T)), .null, .null, .null] [] h' (fun r h1 => r = .null ∧ K h1)) s1 (by decide) rfl rm1 (fun n => by unfold okL; simp) (by omega) (fun h2 p2' l2 => ?_)
    have s2 := p2'.1
    have M2 := M1.hx p2' (by decide) (by decide)
    have rm2 := p2'.2.2.2.2.1 rm1
    have b1 : Bx h h1 := Bx.of p1 M.1 (by decide)
    have b2 : Bx h1 h2 := Bx.of p2' s1 (by decide)
    have e58 : xI h2 58 = xI h 58 := (p2'.at s1 (by decide) (by decide) (by decide) (by decide)).trans (p1.at M.1 (by decide) (by decide) (by decide) (by decide))
    obtain ⟨r8, -, -, n8⟩ := p2'.g s1 (58, 8, 1, 64) (by decide) (by decide) (by decide)
    have r8 : xR h2 58 8 = xR h1 58 8 := r8
    have n8 : xN h2 (xR h1 58 8) = xN h1 (xR h1 58 8) := n8
    have lq : ∀ (q : Nat × Nat × Nat × Nat), q ∈ shG → q.1 = 58 → q.2.1 = 11 ∨ q.2.1 = 12 → xN h2 (xR h2 q.1 q.2.1) = xN h (xR h q.1 q.2.1) := by
      intro q hq hq1 hq2
      have hne : ∀ x ∈ [((58, 8) : Nat × Nat)], x ∈ GK ∧ x ≠ (q.1, q.2.1) := by
        intro x hx
        rw [List.mem_singleton.mp hx]
        refine ⟨by decide, fun z => ?_⟩
        have := congrArg Prod.snd z
        have : 8 = q.2.1 := this
        omega
      have hne2 : ∀ x ∈ [((58, 9) : Nat × Nat)], x ∈ GK ∧ x ≠ (q.1, q.2.1) := by
        intro x hx
        rw [List.mem_singleton.mp hx]
        refine ⟨by decide, fun z => ?_⟩
        have := congrArg Prod.snd z
        have : 9 = q.2.1 := this
        omega
      obtain ⟨a1, -, -, a2⟩ := p1.g M.1 q hq (by intro a ha; cases ha) hne
      obtain ⟨a3, -, -, a4⟩ := p2'.g s1 q hq (by intro a ha; cases ha) hne2
      rw [a3, a4, a1, a2]
    have hl2 : xN h2 (xR h2 58 11) = xN h2 (xR h2 58 12) := by
      have z1 := lq (58, 11, 1, 67) (by decide) rfl (Or.inl rfl)
      have z2 := lq (58, 12, 1, 68) (by decide) rfl (Or.inr rfl)
      exact z1.trans (hl.trans z2.symm)
    refine B_127_51 s2 M2.c2 ?_
    rw [e58, e, show (-1 : Int32) + 1 = nI 0 from rfl]
    exact l_rout hn kk 31 0 h2 (by decide) (b1.tr b2) M2 rm2 (Or.inl ⟨rfl, by rw [r8, n8]; exact l1, l2⟩) hl2
  · have em := B.2.1
    have m30 := B.1
    rw [em]
    refine ⟨fun _ => ?_, fun z => absurd (nI_pos' (by omega)) z⟩
    refine B_127_51 M.1 M.c2 ?_
    rw [em, nI_1]
    exact l_rout hn kk (30 - m) (m + 1) h (by omega) (Bx.rf M.1) M rm (Or.inr ⟨m, rfl, B⟩) hl
theorem c_reachN {K : XH → Prop} (M : CM T c h) (B : BOk T h) (k : K h) : ClV 127 [.ref 58, .int (-1)] h K := by
  have W2 : wN T ≤ 2000 := M.2.2.2.w.1
  refine B_127_0 M.1 ?_
  have fin : ∀ d, d ≤ 31 → Ev 127 59 [.ref 58, .int (-1), .ref (xR h 34 0), .int (xI h (xR h 34 0) 6), .int (nI d), .null, .null] [] h (fun r h1 => r = .null ∧ K h1) := by
    intro d hd
    refine B_127_59 M.1 (ss_p M.1) ⟨fun _ => B_127_227 M.1 ⟨rfl, k⟩, fun z => ?_⟩
    exact absurd (Int32.lt_of_lt_of_le (by decide) (nI_pos' (by omega))) z
  rcases B.1 with e | ⟨m, B⟩
  · rw [e]
    refine ⟨fun z => absurd z (by decide), fun _ => ⟨fun _ => B_127_51 M.1 (ss_p M.1) ?_, fun z => absurd (by decide) z⟩⟩
    rw [e]
    exact fin 0 (by decide)
  · have em := B.2.1
    have m30 := B.1
    rw [em]
    refine ⟨fun _ => B_127_51 M.1 (ss_p M.1) ?_, fun z => absurd (nI_pos' (by omega)) z⟩
    rw [em, nI_1]
    exact fin (m + 1) (by omega)
end RX
