/-! READING: the other side; names, bounds -/
def sfW (sf : Option (Nat × Nat)) (x p : Nat) : Option (Nat × Nat) := match sf with
  | none => some (x, p)
  | some (x', y) => if y < p then some (x', y) else if p = y ∧ ¬ x < x' then some (x', y) else some (x, p)
def nmA (NM : List (List Nat × Nat)) (k : Nat) : List Nat × Nat := NM.getD k ([], 0)
/-- names as the other side holds them -/
def nH (NM : List (List Nat × Nat)) (h : XH) : Prop := xI h 69 20 = nI NM.length ∧ NM.length ≤ 14 ∧ ∀ k, k < NM.length → xL h 77 k = oL (enc 27 (nmA NM k).1) ∧ (okN (nmA NM k).1 ∧ (nmA NM k).1.length ≤ 8) ∧ xI h 78 k = nI (nmA NM k).2 ∧ (nmA NM k).2 < 14
def nmF (NM : List (List Nat × Nat)) (nm : List Nat) (x p : Nat) : Nat → Nat → Option (Nat × Nat) → Option (Nat × Nat)
  | 0, _, sf => sf
  | r + 1, k, sf => nmF NM nm x p r (k + 1) (if (nmA NM k).1 = nm then sfW sf x p else sf)
def hasN (NM : List (List Nat × Nat)) (nm : List Nat) : Prop := ∃ k, k < NM.length ∧ (nmA NM k).1 = nm
abbrev SAl : List Nat := [78, 79, 80, 81, 82, 83, 84, 85, 86, 87, 88, 89, 90, 91, 92, 93, 94, 95, 96, 97, 98, 99, 100, 101, 102, 103, 104, 105]
abbrev FAl : List Nat := [11, 12, 13, 14, 15, 16, 20, 32, 39, 42, 45, 51, 55]
/-- what telling may change -/
def Rs (s : Nat) (h h1 : XH) : Prop := Rx SAl [77] FAl h h1 ∧ othS s h h1
section RNM
variable {s o : Nat} {B : Nat → Nat} {n : Nat} {h h0 h1 h2 : XH} {m : Md} {a : Nat} {sf : Option (Nat × Nat)} {cs rs : List Cd} {Q : Value → XH → Prop} {NM : List (List Nat × Nat)} {nm : List Nat}
theorem Rs.rf : Rs s h h := ⟨Rx.rf, othS.rf⟩
theorem Rs.tr (p : Rs s h h1) (q : Rs s h1 h2) : Rs s h h2 := ⟨p.1.tr q.1, p.2.tr q.2⟩
theorem Gs.rS {S F : List Nat} (g : Gs s S F h h1) (hS : ∀ x ∈ S, x ∈ SAl) (hF : ∀ x ∈ F, x ∈ FAl) : Rs s h h1 := ⟨(g.gx.mono hS hF).rx, g.2.2⟩
theorem gsE (g : Gs s SE FE h h1) : Rs s h h1 := g.rS (by decide) (by decide)
theorem sfW_O {x p : Nat} (hl : ∀ x' y, sf = some (x', y) → y < p) : sfW sf x p = sfO sf (some (x, p)) := by
  match sf, hl with
  | none, hl => rfl
  | some (x', y), hl =>
    show (if y < p then some (x', y) else _) = some (x', y)
    rw [if_pos (hl x' y rfl)]
theorem sfW_id {x p : Nat} : sfW (sfW sf x p) x p = sfW sf x p := by
  have own : sfW (some (x, p)) x p = some (x, p) := by
    show (if p < p then _ else if p = p ∧ ¬ x < x then _ else _) = _
    rw [if_neg (by omega), if_pos ⟨rfl, by omega⟩]
  match sf with
  | none => exact own
  | some (x', y) =>
    have e : sfW (some (x', y)) x p = if y < p then some (x', y) else if p = y ∧ ¬ x < x' then some (x', y) else some (x, p) := rfl
    by_cases q : y < p
    · rw [if_pos q] at e; rw [e, e]
    · rw [if_neg q] at e
      by_cases q2 : p = y ∧ ¬ x < x'
      · rw [if_pos q2] at e; rw [e, e]
      · rw [if_neg q2] at e; rw [e, own]
theorem nmF_eq {x p : Nat} : ∀ r k sf, ((∃ i, k ≤ i ∧ i < k + r ∧ (nmA NM i).1 = nm) → nmF NM nm x p r k sf = sfW sf x p) ∧ ((¬ ∃ i, k ≤ i ∧ i < k + r ∧ (nmA NM i).1 = nm) → nmF NM nm x p r k sf = sf) := by
  intro r
  induction r with
  | zero => intro k sf; exact ⟨fun ⟨i, h1, h2, _⟩ => absurd h1 (by omega), fun _ => rfl⟩
  | succ r ih =>
    intro k sf
    have e : nmF NM nm x p (r + 1) k sf = nmF NM nm x p r (k + 1) (if (nmA NM k).1 = nm then sfW sf x p else sf) := rfl
    obtain ⟨i1, i2⟩ := ih (k + 1) (if (nmA NM k).1 = nm then sfW sf x p else sf)
    rw [e]
    by_cases q : (nmA NM k).1 = nm
    · rw [if_pos q] at i1 i2 ⊢
      refine ⟨fun _ => ?_, fun z => absurd ⟨k, by omega, by omega, q⟩ z⟩
      by_cases w : ∃ i, k + 1 ≤ i ∧ i < k + 1 + r ∧ (nmA NM i).1 = nm
      · rw [i1 w, sfW_id]
      · exact i2 w
    · rw [if_neg q] at i1 i2 ⊢
      refine ⟨fun ⟨i, h1, h2, h3⟩ => i1 ⟨i, ?_, by omega, h3⟩, fun z => i2 (fun ⟨i, h1, h2, h3⟩ => z ⟨i, by omega, by omega, h3⟩)⟩
      have : i ≠ k := fun e => q (by rw [← e]; exact h3)
      omega
theorem nmF_has {x p : Nat} : (hasN NM nm → nmF NM nm x p NM.length 0 sf = sfW sf x p) ∧ (¬ hasN NM nm → nmF NM nm x p NM.length 0 sf = sf) := by
  obtain ⟨i1, i2⟩ := nmF_eq (NM := NM) (nm := nm) (x := x) (p := p) NM.length 0 sf
  refine ⟨fun ⟨k, h1, h2⟩ => i1 ⟨k, by omega, by omega, h2⟩, fun z => i2 (fun ⟨k, h1, h2, h3⟩ => z ⟨k, by omega, h3⟩)⟩
theorem pS_mo (hr : rch B n a) : ∀ d j, j + d + 1 ≤ a → pS B n j < pS B n (j + d + 1) := by
  have one : ∀ j, j + 1 ≤ a → pS B n j < pS B n (j + 1) := fun j hj => pS_lt (by
    apply Classical.byContradiction
    intro q
    have : kS B n j = 0 := by unfold kS; rw [if_neg q]
    exact (hr.2 j (by omega)).1 this)
  intro d
  induction d with
  | zero => intro j hj; exact one j hj
  | succ d ih =>
    intro j hj
    have h1 := ih j (by omega)
    have h2 := one (j + d + 1) (by omega)
    show pS B n j < pS B n (j + d + 1 + 1)
    omega
theorem pS_m {j : Nat} (hr : rch B n a) (hj : j < a) : pS B n j < pS B n a := by
  have := pS_mo hr (a - j - 1) j (by omega)
  rwa [show j + (a - j - 1) + 1 = a by omega] at this
theorem rch.lt {j : Nat} (hr : rch B n a) (hj : j ≤ a) : rch B n j := ⟨by have := hr.1; omega, fun i hi => hr.2 i (by omega)⟩
theorem RR.sf2 {sf' : Option (Nat × Nat)} (r : RR s o B n (.ok (a, sf, cs, rs)) h) (g : Gs s [] [15, 16] h h1) (p : sfP B n a sf' h1) : RR s o B n (.ok (a, sf', cs, rs)) h1 := by
  have rb := r.1.gx (g.mono (by decide) (by decide))
  obtain ⟨q1, q2, q3, q4, q5, q6, q7, q8, q9, q10⟩ := r.2
  exact ⟨rb, by rw [g.f (by decide)]; exact q1, by rw [g.f (by decide)]; exact q2, q3, p, by rw [g.f (by decide)]; exact q5, q6, by rw [g.f (by decide)]; exact q7, fun i hi => by rw [g.at (by decide) (by decide), g.at (by decide) (by decide)]; exact q8 i hi, by rw [g.f (by decide)]; exact q9, fun i hi => by rw [g.at (by decide) (by decide), g.at (by decide) (by decide)]; exact q10 i hi⟩
theorem c_wrongR {x j : Nat} {K : XH → Prop} (hx : 1 ≤ x ∧ x < 20) (r : RR s o B n (.ok (a, sf, cs, rs)) h) (hj : j < a) (k : ∀ h1, Gs s [] [15, 16] h h1 → RR s o B n (.ok (a, sfW sf x (pS B n j), cs, rs)) h1 → K h1) : ClV 192 [.ref 69, .int (nI x), .int (nI j)] h K := by
  have hr : rch B n a := r.2.2.2.1
  have a4 := hr.1
  have e13 : xI h 69 13 = nI 0 := r.2.1
  have p73 : xI h 73 j = nI (pS B n j) := (r.1.2.2.2.1 j (hr.lt (by omega))).2.1
  have p2 := pS_2000 (B := B) (n := n) r.1.2.2.2.2 j
  have pl := pS_m hr hj
  have q4 : sfP B n a sf h := r.2.2.2.2.1
  have g : Gs s [] [15, 16] h (xsI (xsI h 69 15 (nI x)) 69 16 (nI (pS B n j))) := (Gs.rf.fld (by decide)).fld (by decide)
  have new : K h → K h := id
  have set : sfW sf x (pS B n j) = some (x, pS B n j) → K (xsI (xsI h 69 15 (nI x)) 69 16 (nI (pS B n j))) := by
    intro e
    rw [e] at k
    exact k _ g (r.sf2 g ⟨by rw [xI_sd (by decide)]; exact xI_ss, xI_ss, hx.1, hx.2, p2, pl⟩)
  refine B_192_0 r.sh ?_
  rw [e13, tn_nI (show j < 2 ^ 31 by omega), p73]
  refine ⟨inb (by omega) (by decide), fun z => absurd z (by decide), fun _ => ?_⟩
  match sf, q4, k, r, set with
  | none, q4, k, r, set =>
    have v : xI h 69 15 = nI 0 := q4
    rw [v]
    exact ⟨fun _ => ⟨rfl, set rfl⟩, fun z => absurd rfl z⟩
  | some (x', y), q4, k, r, set =>
    obtain ⟨v1, v2, v3, v4, v5, v6⟩ := q4
    have e : sfW (some (x', y)) x (pS B n j) = if y < pS B n j then some (x', y) else if pS B n j = y ∧ ¬ x < x' then some (x', y) else some (x, pS B n j) := rfl
    rw [v1, v2]
    have stay : sfW (some (x', y)) x (pS B n j) = some (x', y) → K h := fun q => by rw [q] at k; exact k h Gs.rf r
    refine ⟨fun z => absurd z (fun q => by have := (nI_eq (a := x') (b := 0) (by omega) (by decide)).mp q; omega), fun _ => ⟨fun z => ⟨rfl, stay ?_⟩, fun z => ⟨fun z2 => ⟨rfl, set ?_⟩, fun z2 => ⟨fun z3 => ⟨rfl, set ?_⟩, fun z3 => ⟨rfl, stay ?_⟩⟩⟩⟩⟩
    · rw [e, if_pos ((nI_ltI (by omega) (by omega)).mp z)]
    · have n1 : ¬ y < pS B n j := fun q => z (nI_lt q (by omega))
      rw [e, if_neg n1, if_neg (fun q => z2 (by rw [q.1]))]
    · have n1 : ¬ y < pS B n j := fun q => z (nI_lt q (by omega))
      rw [e, if_neg n1, if_neg (fun q => q.2 ((nI_ltI (by omega) (by omega)).mp z3))]
    · have n1 : ¬ y < pS B n j := fun q => z (nI_lt q (by omega))
      rw [e, if_neg n1, if_pos ⟨(nI_eq (by omega) (by omega)).mp (Classical.not_not.mp z2), fun q => z3 (nI_lt q (by omega))⟩]
theorem enc27_i {l m : List Nat} (hl : okN l ∧ l.length ≤ 8) (hm : okN m ∧ m.length ≤ 8) : oL (enc 27 l) = oL (enc 27 m) ↔ l = m := by
  constructor
  · intro q
    have h1 := enc27_lt hl.1 hl.2
    have h2 := enc27_lt hm.1 hm.2
    exact enc_inj (by decide) _ _ hl.1 hm.1 (oL_inj (by omega) (by omega) q)
  · intro q; rw [q]
theorem nH.gs {S F : List Nat} (N : nH NM h) (g : Gs s S F h h1) (hS : 78 ∉ S) (hF : 20 ∉ F) : nH NM h1 := by
  unfold nH
  rw [g.f hF, g.1.2.1, g.at hS (by decide)]
  exact N
/-- what is named: the token behind this one -/
def ndS (B : Nat → Nat) (n : Nat) (NM : List (List Nat × Nat)) (a : Nat) (m : Md) : Md := match tkS (kS B n) (pS B n) 2 (gnS (pS B n) m) with
  | .error e => .error e
  | .ok (b, sf, cs, rs) => .ok (b, nmF NM (nS B n (a + 1)) 3 (pS B n (a + 1)) NM.length 0 sf, cs, rs)
theorem l_named {j : Nat} {sfz : Option (Nat × Nat)} (hj : j < a) (kj : kS B n j = 2) (kk : ∀ h1, Gs s SE FE h0 h1 → RR s o B n (.ok (a, sfz, cs, rs)) h1 → Q (.int (nI j)) h1) :
    ∀ (r k : Nat) (sf : Option (Nat × Nat)) (h : XH), k + r = NM.length → Gs s SE FE h0 h → nH NM h → RR s o B n (.ok (a, sf, cs, rs)) h → sfz = nmF NM (nS B n j) 3 (pS B n j) r k sf → Ev 189 16 [.ref 69, .int (nI j), .int (nI k)] [] h Q := by
  intro r
  induction r with
  | zero =>
    intro k sf h hk g N r e
    refine B_189_16 r.sh ?_
    have l14 := N.2.1
    rw [N.1]
    exact ⟨fun _ => kk h g (by rw [e]; exact r), fun z => absurd (nI_le (by omega) (by omega)) z⟩
  | succ r ih =>
    intro k sf h hk g N rr e
    have l14 := N.2.1
    obtain ⟨n1, n2, n3, n4⟩ := N.2.2 k (by omega)
    have hr : rch B n a := rr.2.2.2.1
    have a4 := hr.1
    have t75 : xL h 75 j = oL (enc 27 (nS B n j)) := (rr.1.2.2.2.1 j (hr.lt (by omega))).2.2.1 kj
    have hi := enc27_i n2 (nS_ok kj)
    have e : sfz = nmF NM (nS B n j) 3 (pS B n j) r (k + 1) (if (nmA NM k).1 = nS B n j then sfW sf 3 (pS B n j) else sf) := e
    refine B_189_16 rr.sh ?_
    rw [N.1, rr.z, tn_nI (show k < 2 ^ 31 by omega), tn_nI (show j < 2 ^ 31 by omega), n1, t75, lg_cmp_eq, nI_1]
    refine ⟨fun z => absurd z (nI_ge (by omega) (by omega)), fun _ => ⟨fun z => absurd rfl z, fun _ => ⟨inb (by omega) (by decide), inb (by omega) (by decide), fun z => ?_, fun z => ?_⟩⟩⟩
    · rw [if_neg (fun q => z (hi.mpr q))] at e
      exact ih (k + 1) sf h (by omega) g N rr e
    · rw [if_pos (hi.mp (Classical.not_not.mp z))] at e
      exact c_wrongR (x := 3) (by decide) rr hj (fun h1 g1 r1 => ⟨r1.sh, ih (k + 1) _ h1 (by omega) (g.tr (g1.mono (by decide) (by decide))) (N.gs g1 (by decide) (by decide)) r1 e⟩)
theorem l_namedE {e : Nat × Nat} {x1 x2 : Int32} (r : RR s o B n (.error e) h) (kk : Q (.int x1) h) : Ev 189 16 [.ref 69, .int x1, .int x2] [] h Q :=
  B_189_16 r.sh ⟨fun _ => kk, fun _ => ⟨fun _ => kk, fun z => absurd r.ne.1 z⟩⟩
theorem c_named {K : Int32 → XH → Prop} (N : nH NM h) (r : RR s 0 B n (.ok (a, sf, cs, rs)) h) (hk : 2 ≤ kS B n a) (k : ∀ v h1, Gs s SE FE h h1 → RR s 0 B n (ndS B n NM a (.ok (a, sf, cs, rs))) h1 → (∀ c, ndS B n NM a (.ok (a, sf, cs, rs)) = .ok c → v = nI (a + 1)) → K v h1) : ClI 189 [.ref 69] h K := by
  have rl : rs.length ≤ a := r.2.2.2.2.2.2.1
  refine B_189_0 r.sh (c_goesOn r (fun a' sf' cs' rs' e => by cases e; exact ⟨hk, by omega⟩) (fun h1 g1 r1 _ _ => ⟨r1.sh, c_must (x := 2) (by decide) (by decide) r1 (fun h3 g3 r3 => ⟨r3.sh, ?_⟩)⟩))
  match hm : tkS (kS B n) (pS B n) 2 (gnS (pS B n) (.ok (a, sf, cs, rs))) with
  | .error e =>
    rw [hm] at r3
    have en : ndS B n NM a (.ok (a, sf, cs, rs)) = .error e := by unfold ndS; rw [hm]
    rw [en] at k
    exact l_namedE r3 ⟨_, rfl, k _ h3 (g1.tr g3) r3 (fun c hc => by cases hc)⟩
  | .ok (b, sf', cs', rs') =>
    rw [hm] at r3
    obtain ⟨a1, sf1, cs1, rs1, e1, z1, l1, w1⟩ := tk_ok hm
    have eg : gnS (pS B n) (.ok (a, sf, cs, rs)) = if a < 400 then .ok (a + 1, sf, cs, rs) else .error (2, pS B n a) := rfl
    have a4 : a < 400 := Classical.byContradiction (fun q => by rw [eg, if_neg q] at e1; cases e1)
    rw [eg, if_pos a4] at e1
    cases e1
    cases w1
    have en : ndS B n NM a (.ok (a, sf, cs, rs)) = .ok (a + 1 + 1, nmF NM (nS B n (a + 1)) 3 (pS B n (a + 1)) NM.length 0 sf, cs, rs) := by unfold ndS; rw [hm]
    rw [en] at k
    have e11 : xI h1 69 11 = nI (a + 1) := by rw [eg, if_pos a4] at r1; exact r1.2.2.1
    rw [e11]
    exact l_named (h0 := h3) (NM := NM) (by omega) z1 (fun h5 g5 r5 => ⟨_, rfl, k _ h5 ((g1.tr g3).tr g5) r5 (fun _ _ => rfl)⟩) NM.length 0 sf h3 (by omega) Gs.rf ((N.gs g1 (by decide) (by decide)).gs g3 (by decide) (by decide)) r3 rfl
def bdS (B : Nat → Nat) (n lo hi : Nat) (m : Md) : Md := match m with
  | .error e => .error e
  | .ok (a, sf, cs, rs) => tkS (kS B n) (pS B n) 3 (.ok (a, if vS B n a < lo ∨ hi < vS B n a then sfO sf (some (5, pS B n a)) else sf, cs, rs))
theorem c_boundE {e : Nat × Nat} {x1 x2 : Int32} {K : Int32 → XH → Prop} (r : RR s o B n (.error e) h) (k : ∀ h1, Gs s SE FE h h1 → RR s o B n (.error e) h1 → K x1 h1) : ClI 193 [.ref 69, .int x1, .int x2] h K :=
  B_193_0 r.sh ⟨fun _ => c_fail (x := 1) (by decide) r (fun c hc => by cases hc) (fun h1 g r1 _ _ => ⟨r1.sh, _, rfl, k h1 g r1⟩), fun z => absurd r.ne.2.2 z⟩
theorem c_bound {lo hi : Nat} {K : Int32 → XH → Prop} (hlo : lo < 10000) (hhi : hi < 10000) (r : RR s o B n (.ok (a, sf, cs, rs)) h) (k : ∀ v h1, Gs s SE FE h h1 → RR s o B n (bdS B n lo hi (.ok (a, sf, cs, rs))) h1 → (∀ c, bdS B n lo hi (.ok (a, sf, cs, rs)) = .ok c → v = nI (vS B n a)) → K v h1) : ClI 193 [.ref 69, .int (nI lo), .int (nI hi)] h K := by
  have hr : rch B n a := r.2.2.2.1
  have a4 := hr.1
  have rl : rs.length ≤ a := r.2.2.2.2.2.2.1
  have e11 : xI h 69 11 = nI a := r.2.2.1
  have eb : bdS B n lo hi (.ok (a, sf, cs, rs)) = if kS B n a = 3 then gnS (pS B n) (.ok (a, if vS B n a < lo ∨ hi < vS B n a then sfO sf (some (5, pS B n a)) else sf, cs, rs)) else .error (1, pS B n a) := rfl
  refine B_193_0 r.sh ⟨fun z => absurd z (by rw [r.z]; decide), fun _ => c_is (x := 3) (by decide) r ⟨r.sh, ?_⟩⟩
  have ki : isM (kS B n) 3 (.ok (a, sf, cs, rs)) = if kS B n a = 3 then 1 else 0 := rfl
  rw [ki]
  by_cases q : kS B n a = 3
  · rw [if_pos q] at eb ⊢
    have v74 : xI h 74 a = nI (vS B n a) := (r.1.2.2.2.1 a hr).2.2.2 q
    have vl := vS_lt q
    rw [eb] at k
    rw [e11, tn_nI (show a < 2 ^ 31 by omega), v74]
    have bad : (vS B n a < lo ∨ hi < vS B n a) → ClV 192 [.ref 69, .int 5, .int (nI a)] h (fun h5 => Sh h5 ∧ (ClV 190 [.ref 69] h5 (fun h7 => Sh h7 ∧ (∃ v, Value.int (nI (vS B n a)) = .int v ∧ K v h7)))) := by
      intro w
      rw [if_pos w] at k
      refine c_wrong (x := 5) (by decide) r.1 r.2.1 hr (r.2.2.2.2.1).v (r.2.2.2.2.1).lt (fun h5 g5 v5 => ?_)
      have C5 : cdR s rs h5 := by unfold cdR; rw [g5.f (by decide), g5.at (by decide) (by decide), g5.at (by decide) (by decide)]; exact r.C
      have R5 : rfR s rs h5 := by unfold rfR; rw [g5.f (by decide), g5.at (by decide) (by decide), g5.at (by decide) (by decide)]; exact r.R
      have rb5 := r.1.gx (g5.mono (by decide) (by decide))
      refine ⟨rb5.1, c_goesU (cs := cs) rb5 (by rw [g5.f (by decide)]; exact r.2.1) (by rw [g5.f (by decide)]; exact e11) hr (by omega) v5 (fun x y e => ?_) (by rw [g5.f (by decide)]; exact r.2.2.2.2.2.1) (by omega) C5 R5 (fun h7 g7 r7 => ⟨r7.sh, _, rfl, k _ h7 ((g5.mono (by decide) (by decide)).tr (g7.mono (by decide) (by decide))) r7 (fun _ _ => rfl)⟩)⟩
      match sf, r, e with
      | none, r, e => cases e; exact Nat.le_refl _
      | some (x', y'), r, e =>
        cases e
        have := (r.2.2.2.2.1).lt _ _ rfl
        omega
    refine ⟨fun _ => ⟨inb (by omega) (by decide), fun z => bad (Or.inl ((nI_ltI (by omega) (by omega)).mp z)), fun z => ⟨fun z2 => ?_, fun z2 => bad (Or.inr ?_)⟩⟩, fun z => absurd (by decide) z⟩
    · have w : ¬ (vS B n a < lo ∨ hi < vS B n a) := by
        have h1 : ¬ vS B n a < lo := fun q => z (nI_lt q (by omega))
        have h2 := (nI_leI (by omega) (by omega)).mp z2
        omega
      rw [if_neg w] at k
      exact c_goesOn r (fun a' sf' cs' rs' e => by cases e; exact ⟨by omega, by omega⟩) (fun h9 g9 r9 _ _ => ⟨r9.sh, _, rfl, k _ h9 g9 r9 (fun _ _ => rfl)⟩)
    · exact Classical.byContradiction (fun y => z2 (nI_le (by omega) (by omega)))
  · rw [if_neg q] at eb ⊢
    rw [eb] at k
    exact ⟨fun z => absurd z (by decide), fun _ => c_fail (x := 1) (by decide) r (fun c hc => by cases hc; show rs.length ≤ 402; omega) (fun h1 g r1 _ _ => ⟨r1.sh, _, rfl, k _ h1 g r1 (fun c hc => by cases hc)⟩)⟩
end RNM
