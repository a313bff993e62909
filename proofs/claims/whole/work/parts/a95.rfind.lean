/-! READING, the other side: names are found -/
def NR (s : Nat) (B : Nat → Nat) (n a : Nat) (sf : Option (Nat × Nat)) (h : XH) : Prop := RBs s B n h ∧ xI h 69 13 = nI 0 ∧ rch B n a ∧ sfP B n a sf h
def goN (NM : List (List Nat × Nat)) (nm : List Nat) : Nat → Nat → Option Nat → Option Nat
  | 0, _, o => o
  | r + 1, k, o => goN NM nm r (k + 1) (if (nmA NM k).1 = nm then some (nmA NM k).2 else o)
/-- what counts after these tokens -/
def sfU (B : Nat → Nat) (n : Nat) (F : List Fa) (G : List Pg) (l : List Nat) : Option (Nat × Nat) := match unkN B n F G l with
  | none => none
  | some j => some (8, pS B n j)
section RFN
variable {s : Nat} {B : Nat → Nat} {n : Nat} {h h0 h1 : XH} {a : Nat} {sf : Option (Nat × Nat)} {rs : List Cd} {Q : Value → XH → Prop} {NM : List (List Nat × Nat)} {nm : List Nat} {F : List Fa} {G : List Pg}
theorem NR.gs {S F' : List Nat} (r : NR s B n a sf h) (g : Gs s S F' h h1) (hS : ∀ x ∈ [1, 72, 73, 74], x ∉ S) (hF : ∀ x ∈ [13, 15, 16, 19], x ∉ F') : NR s B n a sf h1 := by
  obtain ⟨⟨r1, r2, r3, r4, r5⟩, q1, q2, q3⟩ := r
  refine ⟨⟨g.sh r1 (hS 1 (by decide)), r2, by rw [g.f (hF 19 (by decide))]; exact r3, fun j hj => ?_, r5⟩, by rw [g.f (hF 13 (by decide))]; exact q1, q2, ?_⟩
  · unfold rT1
    rw [g.at (hS 72 (by decide)) (by decide), g.at (hS 73 (by decide)) (by decide), g.at (hS 74 (by decide)) (by decide), g.1.2.1]
    exact r4 j hj
  · unfold sfP
    rw [g.f (hF 15 (by decide)), g.f (hF 16 (by decide))]
    exact q3
theorem NR.sf2 {sf' : Option (Nat × Nat)} (r : NR s B n a sf h) (g : Gs s [] [15, 16] h h1) (p : sfP B n a sf' h1) : NR s B n a sf' h1 := by
  obtain ⟨⟨r1, r2, r3, r4, r5⟩, q1, q2, q3⟩ := r
  refine ⟨⟨g.sh r1 (by decide), r2, by rw [g.f (by decide)]; exact r3, fun j hj => ?_, r5⟩, by rw [g.f (by decide)]; exact q1, q2, p⟩
  unfold rT1
  rw [g.at (by decide) (by decide), g.at (by decide) (by decide), g.at (by decide) (by decide), g.1.2.1]
  exact r4 j hj
theorem c_wrongN {x j : Nat} {K : XH → Prop} (hx : 1 ≤ x ∧ x < 20) (r : NR s B n a sf h) (hj : j < a) (k : ∀ h1, Gs s [] [15, 16] h h1 → NR s B n a (sfW sf x (pS B n j)) h1 → K h1) : ClV 192 [.ref 69, .int (nI x), .int (nI j)] h K := by
  have hr : rch B n a := r.2.2.1
  have a4 := hr.1
  have e13 : xI h 69 13 = nI 0 := r.2.1
  have p73 : xI h 73 j = nI (pS B n j) := (r.1.2.2.2.1 j (hr.lt (by omega))).2.1
  have p2 := pS_2000 (B := B) (n := n) r.1.2.2.2.2 j
  have pl := pS_m hr hj
  have q4 : sfP B n a sf h := r.2.2.2
  have g : Gs s [] [15, 16] h (xsI (xsI h 69 15 (nI x)) 69 16 (nI (pS B n j))) := (Gs.rf.fld (by decide)).fld (by decide)
  have set : sfW sf x (pS B n j) = some (x, pS B n j) → K (xsI (xsI h 69 15 (nI x)) 69 16 (nI (pS B n j))) := by
    intro e
    rw [e] at k
    exact k _ g (r.sf2 g ⟨by rw [xI_sd (by decide)]; exact xI_ss, xI_ss, hx.1, hx.2, p2, pl⟩)
  refine B_192_0 r.1.1 ?_
  rw [e13, tn_nI (show j < 2 ^ 31 by omega), p73]
  refine ⟨inb (by omega) (by decide), fun z => absurd z (by decide), fun _ => ?_⟩
  match sf, q4, k, r, set with
  | none, q4, k, r, set =>
    have v : xI h 69 15 = nI 0 := q4
    rw [v]
    exact ⟨fun _ => ⟨rfl, set rfl⟩, fun z => absurd rfl z⟩
  | some (x', y), q4, k, r, set =>
    obtain ⟨v1, v2, v3, v4, v5, v6⟩ := q4
    have e : sfW (some (x', y)) x (pS B n j) = if y < pS B n j then some (x', y) else if pS B n j = y ∧ ¬ x < x' then some (x', y) else some (x, pS B n j) := rfl
    rw [v1, v2]
    have stay : sfW (some (x', y)) x (pS B n j) = some (x', y) → K h := fun q => by rw [q] at k; exact k h Gs.rf r
    refine ⟨fun z => absurd z (fun q => by have := (nI_eq (a := x') (b := 0) (by omega) (by decide)).mp q; omega), fun _ => ⟨fun z => ⟨rfl, stay ?_⟩, fun z => ⟨fun z2 => ⟨rfl, set ?_⟩, fun z2 => ⟨fun z3 => ⟨rfl, set ?_⟩, fun z3 => ⟨rfl, stay ?_⟩⟩⟩⟩⟩
    · rw [e, if_pos ((nI_ltI (by omega) (by omega)).mp z)]
    · have n1 : ¬ y < pS B n j := fun q => z (nI_lt q (by omega))
      rw [e, if_neg n1, if_neg (fun q => z2 (by rw [q.1]))]
    · have n1 : ¬ y < pS B n j := fun q => z (nI_lt q (by omega))
      rw [e, if_neg n1, if_neg (fun q => q.2 ((nI_ltI (by omega) (by omega)).mp z3))]
    · have n1 : ¬ y < pS B n j := fun q => z (nI_lt q (by omega))
      rw [e, if_neg n1, if_pos ⟨(nI_eq (by omega) (by omega)).mp (Classical.not_not.mp z2), fun q => z3 (nI_lt q (by omega))⟩]
theorem goN_eq : ∀ r k o, (∃ i, k ≤ i ∧ i < k + r ∧ (nmA NM i).1 = nm ∧ goN NM nm r k o = some (nmA NM i).2) ∨ ((∀ i, k ≤ i → i < k + r → (nmA NM i).1 ≠ nm) ∧ goN NM nm r k o = o) := by
  intro r
  induction r with
  | zero => intro k o; exact Or.inr ⟨fun i h1 h2 => absurd h1 (by omega), rfl⟩
  | succ r ih =>
    intro k o
    have e : goN NM nm (r + 1) k o = goN NM nm r (k + 1) (if (nmA NM k).1 = nm then some (nmA NM k).2 else o) := rfl
    rw [e]
    rcases ih (k + 1) (if (nmA NM k).1 = nm then some (nmA NM k).2 else o) with ⟨i, h1, h2, h3, h5⟩ | ⟨h1, h2⟩
    · exact Or.inl ⟨i, by omega, by omega, h3, h5⟩
    · by_cases q : (nmA NM k).1 = nm
      · rw [if_pos q] at h2 ⊢
        exact Or.inl ⟨k, by omega, by omega, q, h2⟩
      · rw [if_neg q] at h2 ⊢
        refine Or.inr ⟨fun i h3 h4 => ?_, h2⟩
        by_cases w : i = k
        · rw [w]; exact q
        · exact h1 i (by omega) (by omega)
theorem fiG_nm : ∀ k f g, fiG nm G k f = some g → (pgA G g).1 = nm := by
  intro k
  induction k with
  | zero => intro f g e; cases e
  | succ k ih =>
    intro f g e
    have e : (if (pgA G f).1 = nm then some f else fiG nm G k (f + 1)) = some g := e
    split at e
    · rename_i q; cases e; exact q
    · exact ih _ _ e
theorem goN_R {j : Nat} (R : nmR F G NM) (N : nP none F G) : goN NM (nS B n j) NM.length 0 none = if told (nS B n j) F G = true then some (rzF B n F G j) else none := by
  obtain ⟨r1, r2, r3, r4⟩ := R
  obtain ⟨n1, n2, n3⟩ := N rfl
  have toldF : ∀ f, f < F.length → (faA F f).1 = nS B n j → told (nS B n j) F G = true := by
    intro f hf e
    unfold told
    rw [Bool.or_eq_true]
    exact Or.inl ((fiF_some _ _).mpr ⟨f, by omega, by omega, e⟩)
  have toldG : ∀ f, f < G.length → (pgA G f).1 = nS B n j → told (nS B n j) F G = true := by
    intro f hf e
    unfold told
    rw [Bool.or_eq_true]
    exact Or.inr ((fiG_some _ _).mpr ⟨f, by omega, by omega, e⟩)
  rcases goN_eq (NM := NM) (nm := nS B n j) NM.length 0 none with ⟨i, h1, h2, h3, h5⟩ | ⟨h1, h2⟩
  · rw [h5]
    rcases r1 i (by omega) with ⟨f, hf, q⟩ | ⟨p, hp, q⟩
    · rw [q] at h3 ⊢
      rw [if_pos (toldF f hf h3)]
      obtain ⟨g, e1, e2, e3⟩ := fiF_is hf h3
      have : g = f := n1 g f e2 hf (by rw [e3]; exact h3.symm)
      unfold rzF
      rw [e1, this]
    · rw [q] at h3 ⊢
      rw [if_pos (toldG p hp h3)]
      have e1 : fiF (nS B n j) F F.length 0 = none := fiF_none (fun f hf e => n3 f p hf hp (by rw [e]; exact h3.symm))
      unfold rzF
      rw [e1]
      dsimp only
      cases e2 : fiG (nS B n j) G G.length 0 with
      | none =>
        have := (fiG_some (nm := nS B n j) (G := G) G.length 0).mpr ⟨p, by omega, by omega, h3⟩
        rw [e2] at this
        cases this
      | some g =>
        have gl := fiG_lt _ _ _ e2
        have gn : (pgA G g).1 = nS B n j := fiG_nm _ _ _ e2
        have : g = p := n2 g p (by omega) hp (by rw [gn]; exact h3.symm)
        rw [this]
  · rw [h2]
    have nt : ¬ told (nS B n j) F G = true := by
      intro t
      unfold told at t
      rw [Bool.or_eq_true] at t
      rcases t with t | t
      · obtain ⟨f, _, hf, e⟩ := (fiF_some _ _).mp t
        obtain ⟨k, hk, q⟩ := r2 f (by omega)
        exact h1 k (by omega) (by omega) (by rw [q]; exact e)
      · obtain ⟨f, _, hf, e⟩ := (fiG_some _ _).mp t
        obtain ⟨k, hk, q⟩ := r3 f (by omega)
        exact h1 k (by omega) (by omega) (by rw [q]; exact e)
    rw [if_neg nt]
theorem l_f14 {k j : Nat} (hs : Sh h) (N : nH NM h) (e95 : xI h 95 k = nI j) (hk : k < 400) (hj : j ≤ 400) (v75 : xL h 75 j = oL (enc 27 nm)) (hn : okN nm ∧ nm.length ≤ 8) (kk : Ev 203 14 [.ref 69, .int (nI k), .int (oIx (goN NM nm NM.length 0 none)), .int (nI NM.length)] [] h Q) :
    ∀ (r i : Nat) (o : Option Nat), i + r = NM.length → goN NM nm NM.length 0 none = goN NM nm r i o → Ev 203 14 [.ref 69, .int (nI k), .int (oIx o), .int (nI i)] [] h Q := by
  obtain ⟨N1, N2, N3⟩ := N
  intro r
  induction r with
  | zero =>
    intro i o hi e
    have e : goN NM nm NM.length 0 none = o := e
    rw [e, ← show i = NM.length by omega] at kk
    exact kk
  | succ r ih =>
    intro i o hi e
    have e : goN NM nm NM.length 0 none = goN NM nm r (i + 1) (if (nmA NM i).1 = nm then some (nmA NM i).2 else o) := e
    obtain ⟨a1, a2, a3, a4⟩ := N3 i (by omega)
    have hi27 := enc27_i a2 hn
    refine B_203_14 hs ?_
    rw [N1, tn_nI (show i < 2 ^ 31 by omega), tn_nI (show k < 2 ^ 31 by omega), e95, tn_nI (show j < 2 ^ 31 by omega), v75, a1, lg_cmp_eq, a3, nI_1 i]
    refine ⟨fun q => absurd q (nI_ge (by omega) (by omega)), fun _ => ⟨inb (by omega) (by decide), inb (by omega) (by decide), inb (by omega) (by decide), fun q => ?_, fun q => ⟨inb (by omega) (by decide), ?_⟩⟩⟩
    · rw [if_neg (fun z => q (hi27.mpr z))] at e
      exact ih (i + 1) o (by omega) e
    · rw [if_pos (hi27.mp (Classical.not_not.mp q))] at e
      exact ih (i + 1) (some (nmA NM i).2) (by omega) e
theorem unk_app : ∀ (l1 l2 : List Nat), unkN B n F G (l1 ++ l2) = match unkN B n F G l1 with
    | some j => some j
    | none => unkN B n F G l2 := by
  intro l1
  induction l1 with
  | nil => intro l2; rfl
  | cons i t ih =>
    intro l2
    show (if told (nS B n i) F G = true then unkN B n F G (t ++ l2) else some i) = match (if told (nS B n i) F G = true then unkN B n F G t else some i) with
      | some j => some j
      | none => unkN B n F G l2
    split
    · exact ih l2
    · rfl
theorem unk_mem : ∀ (l : List Nat) (j : Nat), unkN B n F G l = some j → j ∈ l := by
  intro l
  induction l with
  | nil => intro j e; cases e
  | cons i t ih =>
    intro j e
    have e : (if told (nS B n i) F G = true then unkN B n F G t else some i) = some j := e
    split at e
    · exact List.mem_cons_of_mem _ (ih j e)
    · cases e; exact List.mem_cons_self
theorem inc_split : ∀ (l1 l2 : List Nat) (lo hi j i : Nat), inc lo hi (l1 ++ j :: l2) → i ∈ l1 → i < j := by
  intro l1
  induction l1 with
  | nil => intro l2 lo hi j i _ h; cases h
  | cons c t ih =>
    intro l2 lo hi j i h hi'
    rcases List.mem_cons.mp hi' with q | q
    · rw [q]
      have := inc_mem _ _ _ j h.2.2 (List.mem_append_right _ List.mem_cons_self)
      omega
    · exact ih l2 _ _ j i h.2.2 q
theorem rfA_m : ∀ (l : List Cd) (i : Nat) (x : Nat × Nat), x ∈ rfA i l → i ≤ x.1 ∧ x.1 < i + l.length ∧ cdAt l (x.1 - i) = (11, x.2) := by
  intro l
  induction l with
  | nil => intro i x hx; cases hx
  | cons c t ih =>
    intro i x hx
    have hx : x ∈ if c.1 = 11 then (i, c.2) :: rfA (i + 1) t else rfA (i + 1) t := hx
    have rest : x ∈ rfA (i + 1) t → i ≤ x.1 ∧ x.1 < i + (c :: t).length ∧ cdAt (c :: t) (x.1 - i) = (11, x.2) := by
      intro q
      obtain ⟨h1, h2, h3⟩ := ih (i + 1) x q
      refine ⟨by omega, by show x.1 < i + (t.length + 1); omega, ?_⟩
      rw [show x.1 - i = (x.1 - (i + 1)) + 1 by omega]
      exact h3
    split at hx
    · rename_i q
      rcases List.mem_cons.mp hx with z | z
      · rw [z]
        refine ⟨Nat.le_refl _, by show i < i + (t.length + 1); omega, ?_⟩
        rw [show (i, c.2).1 - i = 0 by show i - i = 0; omega]
        show c = (11, c.2)
        rw [← q]
      · exact rest z
    · exact rest hx
theorem rfA_h : ∀ (l : List Cd) (i j : Nat), j < l.length → (cdAt l j).1 = 11 → (i + j, (cdAt l j).2) ∈ rfA i l := by
  intro l
  induction l with
  | nil => intro i j hj; exact absurd hj (Nat.not_lt_zero _)
  | cons c t ih =>
    intro i j hj h11
    show _ ∈ if c.1 = 11 then (i, c.2) :: rfA (i + 1) t else rfA (i + 1) t
    cases j with
    | zero =>
      have h11 : c.1 = 11 := h11
      rw [if_pos h11]
      exact List.mem_cons_self
    | succ j =>
      have hj : j + 1 < t.length + 1 := hj
      have := ih (i + 1) j (by omega) h11
      rw [show i + 1 + j = i + (j + 1) by omega] at this
      split
      · exact List.mem_cons_of_mem _ this
      · exact this
theorem rfA_t : ∀ (l : List Cd) (i : Nat), (rfA i l).map (·.2) = tks l := by
  intro l
  induction l with
  | nil => intro i; rfl
  | cons c t ih =>
    intro i
    show (if c.1 = 11 then (i, c.2) :: rfA (i + 1) t else rfA (i + 1) t).map (·.2) = if c.1 = 11 then c.2 :: tks t else tks t
    split
    · show c.2 :: (rfA (i + 1) t).map (·.2) = _
      rw [ih]
    · exact ih (i + 1)
end RFN
