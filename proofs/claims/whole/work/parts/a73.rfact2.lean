/-! READING: a whole fact of the other side -/
def sfM (x : Option (Nat × Nat)) (m : Md) : Md := match m with
  | .error e => .error e
  | .ok (a, _, cs, rs) => .ok (a, x, cs, rs)
def whS (B : Nat → Nat) (n : Nat) (m : Md) : Md := match m with
  | .error e => .error e
  | .ok (a, sf, cs, rs) => if kS B n a = 101 ∨ kS B n a = 102 then tkS (kS B n) (pS B n) (kS B n a) (.ok (a, sf, cs, rs)) else .ok (a, sf, cs, rs)
def whN (B : Nat → Nat) (n : Nat) (m : Md) : Nat := match m with
  | .error _ => 0
  | .ok (a, _, _, _) => if kS B n a = 101 then 1 else if kS B n a = 102 then 2 else 0
section RFB
variable {s o : Nat} {B : Nat → Nat} {n : Nat} {h h0 h1 h2 : XH} {m : Md} {a a' : Nat} {sf sf' : Option (Nat × Nat)} {cs rs : List Cd} {Q : Value → XH → Prop} {NM : List (List Nat × Nat)} {nm : List Nat} {F : List Fa} {G : List Pg} {LW : List Lw} {BR : List Br} {sl sd pg : Nat} {st : St}
theorem tk_sfM {k p : Nat → Nat} {x : Nat} {S : Option (Nat × Nat)} : tkS k p x (sfM S m) = sfM S (tkS k p x m) := by
  match m with
  | .error e => rfl
  | .ok (a, sf, cs, rs) =>
    show (if k a = x then (if a < 400 then .ok (a + 1, S, cs, rs) else .error (2, p a)) else .error (1, p a)) = sfM S (if k a = x then (if a < 400 then .ok (a + 1, sf, cs, rs) else .error (2, p a)) else .error (1, p a))
    split
    · split <;> rfl
    · rfl
theorem wh_sfM {S : Option (Nat × Nat)} : whS B n (sfM S m) = sfM S (whS B n m) ∧ whN B n (sfM S m) = whN B n m := by
  match m with
  | .error e => exact ⟨rfl, rfl⟩
  | .ok (a, sf, cs, rs) =>
    refine ⟨?_, rfl⟩
    show (if kS B n a = 101 ∨ kS B n a = 102 then tkS (kS B n) (pS B n) (kS B n a) (sfM S (.ok (a, sf, cs, rs))) else .ok (a, S, cs, rs)) = sfM S (if kS B n a = 101 ∨ kS B n a = 102 then tkS (kS B n) (pS B n) (kS B n a) (.ok (a, sf, cs, rs)) else .ok (a, sf, cs, rs))
    rw [tk_sfM]
    split <;> rfl
theorem sfM_e {S : Option (Nat × Nat)} {e : Nat × Nat} : sfM S m = .error e ↔ m = .error e := by
  match m with
  | .error e' => exact Iff.rfl
  | .ok (a, sf, cs, rs) => exact ⟨fun q => (by cases q), fun q => (by cases q)⟩
theorem nd_eq : ndS B n NM a (.ok (a, sf, cs, rs)) = sfM (nmF NM (nS B n (a + 1)) 3 (pS B n (a + 1)) NM.length 0 sf) (tkS (kS B n) (pS B n) 2 (tkS (kS B n) (pS B n) (kS B n a) (.ok (a, sf, cs, rs)))) := by
  have e : tkS (kS B n) (pS B n) (kS B n a) (.ok (a, sf, cs, rs)) = gnS (pS B n) (.ok (a, sf, cs, rs)) := if_pos rfl
  rw [e]
  unfold ndS
  match hm : tkS (kS B n) (pS B n) 2 (gnS (pS B n) (.ok (a, sf, cs, rs))) with
  | .error e => rfl
  | .ok (b, sf', cs', rs') =>
    obtain ⟨a1, sf1, cs1, rs1, e1, z1, l1, w1⟩ := tk_ok hm
    have eg : gnS (pS B n) (.ok (a, sf, cs, rs)) = if a < 400 then .ok (a + 1, sf, cs, rs) else .error (2, pS B n a) := rfl
    have a4 : a < 400 := Classical.byContradiction (fun q => by rw [eg, if_neg q] at e1; cases e1)
    rw [eg, if_pos a4] at e1
    cases e1
    cases w1
    rfl
theorem bd_eq {lo hi : Nat} {S : Option (Nat × Nat)} : bdS B n lo hi (sfM S m) = sfM (if vS B n (atM m) < lo ∨ hi < vS B n (atM m) then sfO S (some (5, pS B n (atM m))) else S) (tkS (kS B n) (pS B n) 3 m) := by
  match m with
  | .error e => rfl
  | .ok (a, sf, cs, rs) =>
    rw [← tk_sfM]
    rfl
theorem c_boundM {lo hi : Nat} {K : Int32 → XH → Prop} (hlo : lo < 10000) (hhi : hi < 10000) (r : RR s o B n m h) (k : ∀ v h1, Gs s SE FE h h1 → RR s o B n (bdS B n lo hi m) h1 → (∀ c, bdS B n lo hi m = .ok c → v = nI (vS B n (atM m))) → K v h1) : ClI 193 [.ref 69, .int (nI lo), .int (nI hi)] h K := by
  match m, r, k with
  | .error e, r, k => exact c_boundE r (fun h1 g1 r1 => k _ h1 g1 r1 (fun c hc => by cases hc))
  | .ok (a, sf, cs, rs), r, k => exact c_bound hlo hhi r k
theorem l_fT {m5 : Md} {x2 x3 x4 x5 : Int32} (r5 : RR s 0 B n m5 h) (hF : F.length < 8) (k1 : ∀ h1, Gs s (82 :: SE) FE h h1 → RR s 0 B n (whS B n m5) h1 → xI h1 82 = up (xI h 82) (8 * s + F.length) (nI (whN B n m5)) → Ev 188 104 [.ref 69, .int (nI (8 * s + F.length)), .int x2, .int x3, .int x4, .int x5] [] h1 Q) :
    InB (nI (8 * s + F.length)) 16 ∧ (ClI 185 [.ref 69, .int 32] (xsI h 82 (tn (nI (8 * s + F.length))) 0) (fun v8 h7 => Sh h7 ∧ (((¬ v8 = 0) → Ev 188 80 [.ref 69, .int (nI (8 * s + F.length)), .int x2, .int x3, .int x4, .int x5] [] h7 Q) ∧ (¬ (¬ v8 = 0) → ClI 185 [.ref 69, .int 33] h7 (fun v10 h9 => Sh h9 ∧ (((v10 = 0) → Ev 188 104 [.ref 69, .int (nI (8 * s + F.length)), .int x2, .int x3, .int x4, .int x5] [] h9 Q) ∧ (¬ (v10 = 0) → Ev 188 80 [.ref 69, .int (nI (8 * s + F.length)), .int x2, .int x3, .int x4, .int x5] [] h9 Q))))))) := by
  have s2 : s < 2 := r5.1.2.1
  have ti : tn (nI (8 * s + F.length)) = 8 * s + F.length := tn_nI (by omega)
  have ib : InB (nI (8 * s + F.length)) 16 := inb (by omega) (by decide)
  rw [ti]
  have gz : ∀ v : Int32, Gs s (82 :: SE) FE h (xsI h 82 (8 * s + F.length) v) := fun v => Gs.rf.set (by decide) (by decide)
  have gz' : ∀ v : Int32, Gs s [82] [] h (xsI h 82 (8 * s + F.length) v) := fun v => Gs.rf.set (by decide) (by decide)
  have rz := r5.gx (gz' 0) (by decide) (by decide)
  have E82 : ∀ v : Int32, xI (xsI h 82 (8 * s + F.length) v) 82 = up (xI h 82) (8 * s + F.length) v := fun v => xI_s
  have gx2 : ∀ v : Int32, xsI (xsI h 82 (8 * s + F.length) 0) 82 (8 * s + F.length) v = xsI h 82 (8 * s + F.length) v := fun v => by
    unfold xsI
    simp only
    congr 1
    funext c i
    by_cases q : c = 82
    · subst q
      rw [up_same, up_same, up_same]
      by_cases q2 : i = 8 * s + F.length
      · subst q2; rw [up_same, up_same]
      · rw [up_ne q2, up_ne q2, up_ne q2]
    · rw [up_ne q, up_ne q, up_ne q]
  refine ⟨ib, c_is (x := 101) (by decide) rz ⟨rz.sh, ?_⟩⟩
  match m5, r5, rz, k1 with
  | .error e, r5, rz, k1 =>
    refine ⟨fun z => absurd rfl z, fun _ => c_is (x := 102) (by decide) rz ⟨rz.sh, fun _ => k1 _ (gz 0) rz (E82 0), fun z => absurd rfl z⟩⟩
  | .ok (b, sf, cs, rs), r5, rz, k1 =>
    have i1 : isM (kS B n) 101 (.ok (b, sf, cs, rs)) = if kS B n b = 101 then 1 else 0 := rfl
    have i2 : isM (kS B n) 102 (.ok (b, sf, cs, rs)) = if kS B n b = 102 then 1 else 0 := rfl
    have ew : whS B n (.ok (b, sf, cs, rs)) = if kS B n b = 101 ∨ kS B n b = 102 then gnS (pS B n) (.ok (b, sf, cs, rs)) else .ok (b, sf, cs, rs) := by
      show (if kS B n b = 101 ∨ kS B n b = 102 then (if kS B n b = kS B n b then gnS (pS B n) (.ok (b, sf, cs, rs)) else _) else _) = _
      rw [if_pos (rfl : kS B n b = kS B n b)]
    have en : whN B n (.ok (b, sf, cs, rs)) = if kS B n b = 101 then 1 else if kS B n b = 102 then 2 else 0 := rfl
    have rl : rs.length ≤ b := r5.2.2.2.2.2.2.1
    rw [i1]
    have go : ∀ v : Nat, whN B n (.ok (b, sf, cs, rs)) = v → (kS B n b = 101 ∨ kS B n b = 102) → ClV 190 [.ref 69] (xsI (xsI h 82 (8 * s + F.length) 0) 82 (8 * s + F.length) (nI v)) (fun h3 => Sh h3 ∧ (Ev 188 104 [.ref 69, .int (nI (8 * s + F.length)), .int x2, .int x3, .int x4, .int x5] [] h3 Q)) := by
      intro v hv hk
      rw [gx2]
      have rv := r5.gx (gz' (nI v)) (by decide) (by decide)
      refine c_goesOn rv (fun a' sf' cs' rs' e => by cases e; exact ⟨by omega, by omega⟩) (fun h3 g3 r3 _ _ => ⟨r3.sh, k1 h3 ((gz (nI v)).tr (g3.mono (by decide) (by decide))) ?_ ?_⟩)
      · rw [ew, if_pos hk]; exact r3
      · rw [g3.at (by decide) (by decide), hv, E82]
    have l80 : (kS B n b = 101 ∨ kS B n b = 102) → Ev 188 80 [.ref 69, .int (nI (8 * s + F.length)), .int x2, .int x3, .int x4, .int x5] [] (xsI h 82 (8 * s + F.length) 0) Q := by
      intro hk
      refine B_188_80 rz.sh (c_is (x := 101) (by decide) rz ⟨rz.sh, ?_⟩)
      rw [i1, ti]
      by_cases q : kS B n b = 101
      · rw [if_pos q] at en ⊢
        exact ⟨fun z => absurd z (by decide), fun _ => ⟨ib, go 1 en hk⟩⟩
      · rw [if_neg q] at en ⊢
        rw [if_pos (by omega)] at en
        exact ⟨fun _ => ⟨ib, go 2 en hk⟩, fun z => absurd rfl z⟩
    by_cases q : kS B n b = 101
    · rw [if_pos q]
      exact ⟨fun _ => l80 (Or.inl q), fun z => absurd (by decide) z⟩
    · rw [if_neg q]
      refine ⟨fun z => absurd rfl z, fun _ => c_is (x := 102) (by decide) rz ⟨rz.sh, ?_⟩⟩
      rw [i2]
      by_cases q2 : kS B n b = 102
      · rw [if_pos q2]
        exact ⟨fun z => absurd z (by decide), fun _ => l80 (Or.inr q2)⟩
      · rw [if_neg q2]
        refine ⟨fun _ => k1 _ (gz 0) ?_ ?_, fun z => absurd rfl z⟩
        · rw [ew, if_neg (by omega)]; exact rz
        · rw [en, if_neg q, if_neg q2]; exact E82 0
end RFB
