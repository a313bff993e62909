/-! READING: laws of the other side, all branches -/
def brA (l : List Br) (i : Nat) : Br := l.getD i (0, 0, 0, 0, 0)
theorem brA_l {l : List Br} {x : Br} {i : Nat} (hi : i < l.length) : brA (l ++ [x]) i = brA l i := by
  unfold brA
  rw [List.getD_eq_getElem?_getD, List.getElem?_append_left hi, ← List.getD_eq_getElem?_getD]
theorem brA_r {l : List Br} {x : Br} : brA (l ++ [x]) l.length = x := by
  unfold brA
  rw [List.getD_eq_getElem?_getD, List.getElem?_append_right (Nat.le_refl _), Nat.sub_self]
  rfl
def brQ (s i : Nat) (b : Br) (h : XH) : Prop := xI h 98 (130 * s + i) = nI b.1 ∧ (b.1 = 1 → xI h 99 (130 * s + i) = nI (420 * s + b.2.1) ∧ xI h 100 (130 * s + i) = nI (420 * s + b.2.2.1)) ∧ xI h 101 (130 * s + i) = nI (420 * s + b.2.2.2.1) ∧ xI h 102 (130 * s + i) = nI (420 * s + b.2.2.2.2)
def bQ (s : Nat) (BB : List Br) (m : Md) (h : XH) : Prop := match m with
  | .error _ => ∃ c, c ≤ 110 ∧ xI h 69 45 = nI (130 * s + c)
  | .ok (a, _, _, _) => xI h 69 45 = nI (130 * s + BB.length) ∧ 5 * BB.length + 3 ≤ a ∧ ∀ i, i < BB.length → brQ s i (brA BB i) h
section RL2
variable {s : Nat} {B : Nat → Nat} {n : Nat} {h h0 : XH} {m : Md} {a pg : Nat} {sf : Option (Nat × Nat)} {cs rs : List Cd} {Q : Value → XH → Prop} {BB : List Br}
theorem brQ.k {x i : Nat} {b : Br} {h1 : XH} (r : brQ s i b h) (k : bK x h h1) (hx : 130 * s + i ≠ x) : brQ s i b h1 := by
  obtain ⟨k1, k2, k3, k4, k5⟩ := k _ hx
  unfold brQ
  rw [k1, k2, k3, k4, k5]
  exact r
theorem c_ifR {x1 x2 x3 : Int32} (r : RR s 0 B n (.ok (a, sf, cs, rs)) h) (k11 : kS B n a = 111) (b : bQ s BB (.ok (a, sf, cs, rs)) h) (e42 : xI h 69 42 = 1) (hl : rs.length + 1 ≤ a)
    (kk : ∀ h1, Gs s SBr FB h h1 → RR s 0 B n (ifS (kS B n) (pS B n) (vS B n) pg (.ok (a, sf, cs, rs))) h1 → lt1 (ifS (kS B n) (pS B n) (vS B n) pg (.ok (a, sf, cs, rs))) → bQ s (BB ++ [ifB (kS B n) (pS B n) (vS B n) pg (.ok (a, sf, cs, rs))]) (ifS (kS B n) (pS B n) (vS B n) pg (.ok (a, sf, cs, rs))) h1 → Ev 195 12 [.ref 69, .int x1, .int x2, .int (x3 + 1)] [] h1 Q) : Ev 195 38 [.ref 69, .int x1, .int x2, .int x3] [] h Q := by
  have s2 := r.1.2.1
  obtain ⟨b1, b2, b3⟩ := b
  have a4 := r.2.2.2.1.1
  have et : gnS (pS B n) (.ok (a, sf, cs, rs)) = if1 (kS B n) (pS B n) (.ok (a, sf, cs, rs)) := by
    unfold if1
    show _ = (if kS B n a = 111 then _ else _)
    rw [if_pos k11]
    rfl
  refine B_195_38 r.sh ⟨fun _ => c_goesOn r (fun a' sf' cs' rs' e => by cases e; omega) (fun h1 g1 r1 _ _ => ?_), fun z => absurd (by rw [r.z]; decide) z⟩
  rw [et] at r1
  have l1 : lt1 (if1 (kS B n) (pS B n) (.ok (a, sf, cs, rs))) := lt1.tk (fun c hc => by cases hc; show rs.length ≤ a; omega)
  obtain ⟨c1, hc1, ec1, er1⟩ := r1.c51'
  have x45 : xI h1 69 45 = nI (130 * s + BB.length) := by rw [g1.f (by decide)]; exact b1
  have hx : 130 * s + BB.length < 258 := by omega
  generalize ex : 130 * s + BB.length = x at x45 hx
  have y45 : xI (xsI h1 98 x 1) 69 45 = nI x := by rw [xI_n (by decide)]; exact x45
  have y51 : xI (xsI h1 98 x 1) 69 51 = nI (420 * s + c1) := by rw [xI_n (by decide)]; exact ec1
  rw [x45, tn_nI (show x < 2 ^ 31 by omega), y45, tn_nI (show x < 2 ^ 31 by omega), y51]
  have gA : Gs s [98, 99] [] h1 (xsI (xsI h1 98 x 1) 99 x (nI (420 * s + c1))) := (Gs.rf.set (by decide) (by decide)).set (by decide) (by decide)
  have rA := r1.gx gA (by decide) (by decide)
  have A98 : xI (xsI (xsI h1 98 x 1) 99 x (nI (420 * s + c1))) 98 x = nI 1 := by rw [xI_n (by decide)]; exact xI_ss
  have A99 : xI (xsI (xsI h1 98 x 1) 99 x (nI (420 * s + c1))) 99 x = nI (420 * s + c1) := xI_ss
  have AK : bK x h1 (xsI (xsI h1 98 x 1) 99 x (nI (420 * s + c1))) := fun j hj => by
    rw [xI_n (by decide), xI_sd hj, xI_sd hj, xI_n (by decide), xI_n (by decide), xI_n (by decide), xI_n (by decide), xI_n (by decide), xI_n (by decide), xI_n (by decide)]
    exact ⟨rfl, rfl, rfl, rfl, rfl⟩
  have A45 : xI (xsI (xsI h1 98 x 1) 99 x (nI (420 * s + c1))) 69 45 = nI x := by rw [xI_n (by decide)]; exact y45
  have A42 : xI (xsI (xsI h1 98 x 1) 99 x (nI (420 * s + c1))) 69 42 = 1 := by rw [xI_n (by decide), xI_n (by decide), g1.f (by decide)]; exact e42
  generalize xsI (xsI h1 98 x 1) 99 x (nI (420 * s + c1)) = hA at gA rA A98 A99 AK A45 A42 ⊢
  have GA : Gs s SBr FB h hA := (gb2 g1).tr (gA.mono (by decide) (by decide))
  have KA : bK x h hA := (bK.ex g1).tr AK
  refine ⟨r1.sh, inb (by omega) (by decide), inb (by omega) (by decide), c_exprR (law := true) (pg := pg) rA A42 l1 (fun h3 g3 r3 l3 => ⟨r3.sh, c_must (x := 60) (by decide) (by decide) r3 (fun h5 g5 r5 => ?_)⟩)⟩
  have r5 : RR s 0 B n (if3 (kS B n) (pS B n) (vS B n) pg (.ok (a, sf, cs, rs))) h5 := r5
  have l5 : lt1 (if3 (kS B n) (pS B n) (vS B n) pg (.ok (a, sf, cs, rs))) := lt1.tk l3.le
  obtain ⟨c3, hc3, ec3, er3⟩ := r5.c51'
  have g35 := g3.tr g5
  have z45 : xI h5 69 45 = nI x := by rw [g35.f (by decide)]; exact A45
  rw [z45, tn_nI (show x < 2 ^ 31 by omega), ec3]
  have gB : Gs s [100] [] h5 (xsI h5 100 x (nI (420 * s + c3))) := Gs.rf.set (by decide) (by decide)
  have rB := r5.gx gB (by decide) (by decide)
  have B100 : xI (xsI h5 100 x (nI (420 * s + c3))) 100 x = nI (420 * s + c3) := xI_ss
  have BK : bK x h5 (xsI h5 100 x (nI (420 * s + c3))) := fun j hj => by
    rw [xI_n (by decide), xI_n (by decide), xI_sd hj, xI_n (by decide), xI_n (by decide)]
    exact ⟨rfl, rfl, rfl, rfl, rfl⟩
  have B98 : xI (xsI h5 100 x (nI (420 * s + c3))) 98 x = nI 1 := by rw [xI_n (by decide), g35.at (by decide) (by decide)]; exact A98
  have B99 : xI (xsI h5 100 x (nI (420 * s + c3))) 99 x = nI (420 * s + c1) := by rw [xI_n (by decide), g35.at (by decide) (by decide)]; exact A99
  have B45 : xI (xsI h5 100 x (nI (420 * s + c3))) 69 45 = nI x := by rw [xI_n (by decide)]; exact z45
  have B42 : xI (xsI h5 100 x (nI (420 * s + c3))) 69 42 = 1 := by rw [xI_n (by decide), g35.f (by decide)]; exact A42
  generalize xsI h5 100 x (nI (420 * s + c3)) = hB at gB rB B100 BK B98 B99 B45 B42 ⊢
  have GB : Gs s SBr FB h hB := (GA.tr (gb2 g35)).tr (gB.mono (by decide) (by decide))
  have KB : bK x h hB := (KA.tr (bK.ex g35)).tr BK
  have rest : ∀ h7, Gs s SE FE hB h7 → RR s 0 B n (exS (kS B n) (pS B n) (vS B n) true pg (if3 (kS B n) (pS B n) (vS B n) pg (.ok (a, sf, cs, rs)))) h7 → lt1 (exS (kS B n) (pS B n) (vS B n) true pg (if3 (kS B n) (pS B n) (vS B n) pg (.ok (a, sf, cs, rs)))) → Ev 195 110 [.ref 69, .int x1, .int x2, .int (x3 + 1)] [] h7 Q := by
    intro h7 g7 r7 l7
    refine B_195_110 r7.sh (c_must (x := 112) (by decide) (by decide) r7 (fun h9 g9 r9 => ?_))
    have l9 := lt1.tk (B := B) (n := n) (x := 112) l7.le
    have g79 := g7.tr g9
    refine ⟨r9.sh, c_term (pg := pg) (x := x) r9 (by rw [g79.f (by decide)]; exact B42) l9 (by omega) (by rw [g79.f (by decide)]; exact B45) (fun h11 g11 r11 l11 t45 tK t98 t99 t100 t12 => ?_)⟩
    refine ⟨r11.sh, c_must (x := 113) (by decide) (by decide) r11 (fun h13 g13 r13 => ?_)⟩
    have l13 := lt1.tk (B := B) (n := n) (x := 113) l11.le
    have q6 : eqC (tkS (kS B n) (pS B n) 112 (exS (kS B n) (pS B n) (vS B n) true pg (if3 (kS B n) (pS B n) (vS B n) pg (.ok (a, sf, cs, rs))))) (if6 (kS B n) (pS B n) (vS B n) pg (.ok (a, sf, cs, rs))) := (eqC.pu (6, 0) _).sy
    have q8 : eqC (exS (kS B n) (pS B n) (vS B n) true pg (tkS (kS B n) (pS B n) 112 (exS (kS B n) (pS B n) (vS B n) true pg (if3 (kS B n) (pS B n) (vS B n) pg (.ok (a, sf, cs, rs)))))) (if8 (kS B n) (pS B n) (vS B n) pg (.ok (a, sf, cs, rs))) := (q6.tr (eqC.pu (9, 0) _).sy).ex
    have qS : eqC (tkS (kS B n) (pS B n) 113 (exS (kS B n) (pS B n) (vS B n) true pg (tkS (kS B n) (pS B n) 112 (exS (kS B n) (pS B n) (vS B n) true pg (if3 (kS B n) (pS B n) (vS B n) pg (.ok (a, sf, cs, rs))))))) (ifS (kS B n) (pS B n) (vS B n) pg (.ok (a, sf, cs, rs))) := ((q8.tr (eqC.pu (10, 0) _).sy).tk).tr (eqC.pat _ _).sy
    have rS := r13.eq qS
    have GS : Gs s SBr FB h h13 := ((GB.tr (gb2 g79)).tr g11).tr (gb2 g13)
    have KS : bK x h h13 := ((KB.tr (bK.ex g79)).tr tK).tr (bK.ex g13)
    have s45 : xI h13 69 45 = nI (x + 1) := by rw [g13.f (by decide)]; exact t45
    refine ⟨rS.sh, kk h13 GS rS ?_ ?_⟩
    · intro c hc
      obtain ⟨c', e', e1, e2⟩ := qS.ok hc
      have := l13 c' e'
      rw [← e1, ← e2]
      exact this
    · match hm : ifS (kS B n) (pS B n) (vS B n) pg (.ok (a, sf, cs, rs)) with
      | .error e => exact ⟨BB.length + 1, by omega, by rw [s45, ← ex]; rfl⟩
      | .ok (aS, sfS, csS, rsS) =>
        obtain ⟨c7, e7, a7, _⟩ := qS.ok hm
        obtain ⟨c6, e6, a6⟩ := tk_at e7
        obtain ⟨c5, e5, a5⟩ := ex_at e6
        obtain ⟨c4, e4, a4'⟩ := tk_at e5
        obtain ⟨d3, e3, a3⟩ := ex_at e4
        obtain ⟨d2, e2, a2⟩ := tk_at e3
        obtain ⟨d1, e1, a1⟩ := ex_at e2
        obtain ⟨d0, e0, a0⟩ := tk_at e1
        cases e0
        have a7 : c7.1 = aS := a7
        have a0 : a + 1 = d1.1 := a0
        refine ⟨by rw [s45, ← ex, ap1]; rfl, by rw [ap1]; omega, fun i hi => ?_⟩
        rw [ap1] at hi
        by_cases q : i = BB.length
        · subst q
          rw [brA_r]
          obtain ⟨t101, t102⟩ := t12 _ e6
          unfold brQ
          rw [ex]
          refine ⟨?_, fun _ => ⟨?_, ?_⟩, ?_, ?_⟩
          · rw [g13.at (by decide) (by decide), t98, g79.at (by decide) (by decide)]; exact B98
          · rw [g13.at (by decide) (by decide), t99, g79.at (by decide) (by decide), B99, er1 _ e1]; rfl
          · rw [g13.at (by decide) (by decide), t100, g79.at (by decide) (by decide), B100, er3 _ e3]; rfl
          · rw [g13.at (by decide) (by decide), t101, q6.rl.1]; rfl
          · rw [g13.at (by decide) (by decide), t102, q8.rl.1]; rfl
        · rw [brA_l (by omega)]
          exact (b3 i (by omega)).k KS (by omega)
  refine ⟨r5.sh, inb (by omega) (by decide), fun z => ?_, fun z => ?_⟩
  · refine rest hB Gs.rf ?_ ?_
    · match hx3 : if3 (kS B n) (pS B n) (vS B n) pg (.ok (a, sf, cs, rs)), rB with
      | .error e, rB => exact rB
      | .ok (a2, sf2, cs2, rs2), rB => exact absurd rB.z z
    · match hx3 : if3 (kS B n) (pS B n) (vS B n) pg (.ok (a, sf, cs, rs)), rB with
      | .error e, rB => exact fun c hc => by cases hc
      | .ok (a2, sf2, cs2, rs2), rB => exact absurd rB.z z
  · exact c_exprR (law := true) (pg := pg) rB B42 l5 (fun h7 g7 r7 l7 => ⟨r7.sh, rest h7 g7 r7 l7⟩)
end RL2
