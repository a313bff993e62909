/-! READING, the other side: all names are found -/
/-- while names are found: those of u are done -/
def FN (s : Nat) (B : Nat → Nat) (n a : Nat) (F : List Fa) (G : List Pg) (NM : List (List Nat × Nat)) (rs : List Cd) (u : List (Nat × Nat)) (h : XH) : Prop := NR s B n a (sfU B n F G (u.map (·.2))) h ∧ nH NM h ∧ xI h 69 39 = nI (rfA 0 rs).length ∧ (∀ k, k < (rfA 0 rs).length → xI h 94 k = nI (420 * s + (rfG (rfA 0 rs) k).1) ∧ xI h 95 k = nI (rfG (rfA 0 rs) k).2) ∧ (∀ i, i < rs.length → xI h 103 (420 * s + i) = nI (rcK (cdAt rs i))) ∧ (∀ x ∈ u, xI h 104 (420 * s + x.1) = nI (rzF B n F G x.2)) ∧ ∀ i, i < rs.length → (cdAt rs i).1 ≠ 11 → xI h 104 (420 * s + i) = nI (rcV (cdAt rs i))
section RF2
variable {s : Nat} {B : Nat → Nat} {n : Nat} {h h0 h1 : XH} {a : Nat} {sf : Option (Nat × Nat)} {rs : List Cd} {Q : Value → XH → Prop} {NM : List (List Nat × Nat)} {nm : List Nat} {F : List Fa} {G : List Pg}
theorem FN.st {u : List (Nat × Nat)} {x : Nat × Nat} (f : NR s B n a (sfU B n F G ((u ++ [x]).map (·.2))) h) (f2 : nH NM h) (f3 : xI h 69 39 = nI (rfA 0 rs).length) (f4 : ∀ k, k < (rfA 0 rs).length → xI h 94 k = nI (420 * s + (rfG (rfA 0 rs) k).1) ∧ xI h 95 k = nI (rfG (rfA 0 rs) k).2) (f5 : ∀ i, i < rs.length → xI h 103 (420 * s + i) = nI (rcK (cdAt rs i))) (f6 : ∀ x ∈ u, xI h 104 (420 * s + x.1) = nI (rzF B n F G x.2)) (f7 : ∀ i, i < rs.length → (cdAt rs i).1 ≠ 11 → xI h 104 (420 * s + i) = nI (rcV (cdAt rs i))) (hu : ∀ y ∈ u ++ [x], y.1 < rs.length ∧ cdAt rs y.1 = (11, y.2)) (r4 : rs.length ≤ 400) : FN s B n a F G NM rs (u ++ [x]) (xsI h 104 (420 * s + x.1) (nI (rzF B n F G x.2))) ∧ Gs s [104] [] h (xsI h 104 (420 * s + x.1) (nI (rzF B n F G x.2))) := by
  have hx := hu x (List.mem_append_right _ List.mem_cons_self)
  have w4 : wd 104 = 420 := by decide
  have g : Gs s [104] [] h (xsI h 104 (420 * s + x.1) (nI (rzF B n F G x.2))) := Gs.rf.set (by decide) (by decide) (Or.inr (by rw [w4]; omega))
  refine ⟨⟨f.gs g (by decide) (by decide), f2.gs g (by decide) (by decide), by rw [g.f (by decide)]; exact f3, fun k hk => by rw [g.at (by decide) (by decide), g.at (by decide) (by decide)]; exact f4 k hk, fun i hi => by rw [g.at (by decide) (by decide)]; exact f5 i hi, fun y hy => ?_, fun i hi h11 => ?_⟩, g⟩
  · by_cases q : y.1 = x.1
    · have hy1 := hu y hy
      rw [q, hx.2] at hy1
      have : x.2 = y.2 := (Prod.mk.inj hy1.2).2
      rw [q, this]
      exact xI_ss
    · rw [xI_sd (by omega)]
      rcases List.mem_append.mp hy with z | z
      · exact f6 y z
      · exact absurd (congrArg Prod.fst (List.mem_singleton.mp z)) q
  · rw [xI_sd (fun z => ?_)]
    · exact f7 i hi h11
    · have : i = x.1 := by omega
      rw [this, hx.2] at h11
      exact h11 rfl
theorem l_finds (R : nmR F G NM) (N : nP none F G) (r4 : rs.length ≤ 400) (hi : inc 0 a (tks rs)) (hk : ∀ x ∈ rs, x.1 = 11 → kS B n x.2 = 2) (kk : ∀ h1, Gs s [104] [15, 16] h0 h1 → FN s B n a F G NM rs (rfA 0 rs) h1 → Q .null h1) :
    ∀ (w u : List (Nat × Nat)) (h : XH), rfA 0 rs = u ++ w → Gs s [104] [15, 16] h0 h → FN s B n a F G NM rs u h → Ev 203 2 [.ref 69, .int (nI u.length), .null, .null] [] h Q := by
  have rl := rfA_len rs 0
  intro w
  induction w with
  | nil =>
    intro u h e g f
    rw [List.append_nil] at e
    refine B_203_2 f.1.1.1 ?_
    rw [f.2.2.1, ← e]
    exact ⟨fun _ => kk h g (by rw [e]; exact f), fun q => absurd (nI_le (Nat.le_refl _) (by omega)) q⟩
  | cons x w ih =>
    intro u h e g f
    have lu : u.length < (rfA 0 rs).length := by rw [e, List.length_append]; show u.length < u.length + (w.length + 1); omega
    have hx : rfG (rfA 0 rs) u.length = x := by
      unfold rfG
      rw [e, List.getD_eq_getElem?_getD, List.getElem?_append_right (Nat.le_refl _), Nat.sub_self]
      rfl
    have mem : ∀ y, y ∈ u ++ [x] → y ∈ rfA 0 rs := by
      intro y hy
      rw [e]
      rcases List.mem_append.mp hy with z | z
      · exact List.mem_append_left _ z
      · rw [List.mem_singleton.mp z]; exact List.mem_append_right _ List.mem_cons_self
    have hu : ∀ y ∈ u ++ [x], y.1 < rs.length ∧ cdAt rs y.1 = (11, y.2) := by
      intro y hy
      have := rfA_m rs 0 y (mem y hy)
      exact ⟨by omega, this.2.2⟩
    have hx2 := hu x (List.mem_append_right _ List.mem_cons_self)
    have k2 : kS B n x.2 = 2 := by
      have := hk (cdAt rs x.1) (cdAt_mem hx2.1) (by rw [hx2.2])
      rw [hx2.2] at this
      exact this
    have et : tks rs = u.map (·.2) ++ x.2 :: w.map (·.2) := by rw [← rfA_t rs 0, e, List.map_append]; rfl
    have ja := inc_mem _ _ _ x.2 hi (by rw [et]; exact List.mem_append_right _ List.mem_cons_self)
    have e' : rfA 0 rs = (u ++ [x]) ++ w := by rw [e, List.append_assoc]; rfl
    obtain ⟨f1, f2, f3, f4, f5, f6, f7⟩ := f
    have hr : rch B n a := f1.2.2.1
    have a4 := hr.1
    have e45 := f4 u.length lu
    rw [hx] at e45
    have v75 : xL h 75 x.2 = oL (enc 27 (nS B n x.2)) := (f1.1.2.2.2.1 x.2 (hr.lt (by omega))).2.2.1 k2
    have gR := goN_R (B := B) (n := n) (j := x.2) R N
    have s2 : s < 2 := f1.1.2.1
    refine B_203_2 f1.1.1 ?_
    rw [f3]
    refine ⟨fun q => absurd q (nI_ge (by omega) (by omega)), fun _ => l_f14 f1.1.1 f2 e45.2 (by omega) (by omega) v75 (nS_ok k2) ?_ NM.length 0 none (by omega) rfl⟩
    refine B_203_14 f1.1.1 ?_
    rw [f2.1, tn_nI (show u.length < 2 ^ 31 by omega), gR, e45.2, e45.1, tn_nI (show 420 * s + x.1 < 2 ^ 31 by omega)]
    refine ⟨fun _ => ?_, fun q => absurd (nI_le (Nat.le_refl _) (by have := f2.2.1; omega)) q⟩
    have iu : InB (nI u.length) 400 := inb (by omega) (by decide)
    have i8 : InB (nI (420 * s + x.1)) 840 := inb (by omega) (by decide)
    have nx : ∀ h1, Gs s [104] [15, 16] h0 h1 → FN s B n a F G NM rs (u ++ [x]) h1 → Ev 203 2 [.ref 69, .int (nI u.length + 1), .null, .null] [] h1 Q := by
      intro h1 g1 f1
      rw [nI_1]
      have := ih (u ++ [x]) h1 e' g1 f1
      rw [ap1] at this
      exact this
    have em : (u ++ [x]).map (·.2) = u.map (·.2) ++ [x.2] := by rw [List.map_append]; rfl
    by_cases t : told (nS B n x.2) F G = true
    · rw [if_pos t]
      have rlt := f2.2.1
      have su : sfU B n F G ((u ++ [x]).map (·.2)) = sfU B n F G (u.map (·.2)) := by
        unfold sfU
        rw [em, unk_app]
        cases unkN B n F G (u.map (·.2)) with
        | some j => rfl
        | none =>
          dsimp only
          show (match (if told (nS B n x.2) F G = true then unkN B n F G [] else some x.2) with
            | none => none
            | some j => some (8, pS B n j)) = none
          rw [if_pos t]
          rfl
      obtain ⟨s1, s3⟩ := FN.st (u := u) (x := x) (by rw [su]; exact f1) f2 f3 f4 f5 f6 f7 hu r4
      have ge : (0 : Int32) ≤ oIx (some (rzF B n F G x.2)) := by
        have : rzF B n F G x.2 < 2 ^ 31 := by
          have gg := gR
          rw [if_pos t] at gg
          rcases goN_eq (NM := NM) (nm := nS B n x.2) NM.length 0 none with ⟨i, h1, h2, h3, h5⟩ | ⟨h1, h2⟩
          · rw [h5] at gg
            have := (f2.2.2 i (by omega)).2.2.2
            have : (nmA NM i).2 = rzF B n F G x.2 := Option.some.inj gg
            omega
          · rw [h2] at gg
            cases gg
        exact nI_le (a := 0) (by omega) this
      exact ⟨fun _ => ⟨iu, fun _ => ⟨i8, nx _ (g.tr (s3.mono (by decide) (by decide))) s1⟩, fun q => absurd ge q⟩, fun q => absurd ge q⟩
    · rw [if_neg t]
      have z0 : rzF B n F G x.2 = 0 := by
        have n1 : fiF (nS B n x.2) F F.length 0 = none := by
          cases e1 : fiF (nS B n x.2) F F.length 0 with
          | none => rfl
          | some g => exact absurd (by unfold told; rw [e1]; rfl) t
        have n2 : fiG (nS B n x.2) G G.length 0 = none := by
          cases e1 : fiG (nS B n x.2) G G.length 0 with
          | none => rfl
          | some g => exact absurd (by unfold told; rw [e1, Bool.or_eq_true]; exact Or.inr rfl) t
        unfold rzF
        rw [n1, n2]
      have ng : ¬ (0 : Int32) ≤ oIx none := by decide
      refine ⟨fun q => absurd q ng, fun _ => ⟨iu, c_wrongN (x := 8) (by decide) f1 ja.2 (fun h1 g1 r1 => ⟨r1.1.1, iu, fun q => absurd q ng, fun _ => ?_⟩)⟩⟩
      have c4 : xI h1 94 = xI h 94 := g1.at (by decide) (by decide)
      rw [c4, e45.1, tn_nI (show 420 * s + x.1 < 2 ^ 31 by omega)]
      refine ⟨i8, ?_⟩
      have su : sfW (sfU B n F G (u.map (·.2))) 8 (pS B n x.2) = sfU B n F G ((u ++ [x]).map (·.2)) := by
        unfold sfU
        rw [em, unk_app]
        cases eu : unkN B n F G (u.map (·.2)) with
        | none =>
          dsimp only
          have : unkN B n F G [x.2] = some x.2 := if_neg t
          rw [this]
          rfl
        | some j =>
          dsimp only
          have hj := unk_mem _ _ eu
          have lt : j < x.2 := inc_split _ _ _ _ _ _ (by rw [et] at hi; exact hi) hj
          have := pS_m (hr.lt (show x.2 ≤ a by omega)) lt
          show (if pS B n j < pS B n x.2 then some (8, pS B n j) else _) = _
          rw [if_pos this]
      rw [su] at r1
      have g1' : Gs s [104] [15, 16] h h1 := g1.mono (by decide) (by decide)
      obtain ⟨s1, s3⟩ := FN.st (u := u) (x := x) r1 (f2.gs g1 (by decide) (by decide)) (by rw [g1.f (by decide)]; exact f3) (fun k hk => by rw [g1.at (by decide) (by decide), g1.at (by decide) (by decide)]; exact f4 k hk) (fun i hi => by rw [g1.at (by decide) (by decide)]; exact f5 i hi) (fun y hy => by rw [g1.at (by decide) (by decide)]; exact f6 y hy) (fun i hi h11 => by rw [g1.at (by decide) (by decide)]; exact f7 i hi h11) hu r4
      rw [z0] at s1 s3
      exact nx _ ((g.tr g1').tr (s3.mono (by decide) (by decide))) s1
theorem FN.atR {NM : List (List Nat × Nat)} (f : FN s B n a F G NM rs (rfA 0 rs) h) : atR (xI h 103) (xI h 104) (rzF B n F G) (420 * s) rs := by
  obtain ⟨f1, f2, f3, f4, f5, f6, f7⟩ := f
  refine atR_all rs _ (fun j hj => ⟨f5 j hj, ?_⟩)
  unfold rvz
  by_cases q : (cdAt rs j).1 = 11
  · rw [if_pos q]
    have := f6 _ (rfA_h rs 0 j hj q)
    rw [Nat.zero_add] at this
    exact this
  · rw [if_neg q]
    exact f7 j hj q
end RF2
