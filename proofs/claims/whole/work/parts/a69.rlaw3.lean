/-! READING: a whole law of the other side -/
section RL3
variable {s : Nat} {B : Nat → Nat} {n : Nat} {h h0 : XH} {m : Md} {a pg : Nat} {sf : Option (Nat × Nat)} {cs rs : List Cd} {Q : Value → XH → Prop} {BR : List Br}
theorem l_lawR {x1 x2 : Int32} {M : Md × List Br} (e42 : xI h0 69 42 = 1)
    (k9 : ∀ m' b' h', Gs s SBr FB h0 h' → RR s 0 B n m' h' → lt1 m' → bQ s (BR ++ b') m' h' → M = (m', b') → Ev 195 129 [.ref 69, .int x1, .int x2, .null] [] h' Q)
    (kE : ∀ e h', Gs s SBr FB h0 h' → RR s 0 B n (.error e) h' → M.1 = .error e → (∃ c, c ≤ 112 ∧ xI h' 69 45 = nI (130 * s + c)) → Q .null h') :
    ∀ (f : Nat) (m : Md) (b : List Br) (h : XH), f ≤ 4 → Gs s SBr FB h0 h → RR s 0 B n m h → lt1 m → bQ s (BR ++ b) m h → M = lawL (kS B n) (pS B n) (vS B n) pg (f + 1) m b → Ev 195 12 [.ref 69, .int x1, .int x2, .int (nI (4 - f))] [] h Q := by
  intro f
  induction f with
  | zero =>
    intro m b h hf g r l q eM
    match m, r, l, q, eM with
    | .error e, r, l, q, eM => exact B_195_12 r.sh ⟨fun _ => k9 _ b h g r l q eM, fun z => absurd r.ne.1 z⟩
    | .ok (a, sf, cs, rs), r, l, q, eM =>
      have eM : M = if kS B n a = 111 then (if (0 : Nat) = 0 then (.error (2, pS B n a), b) else lawL (kS B n) (pS B n) (vS B n) pg 0 (ifS (kS B n) (pS B n) (vS B n) pg (.ok (a, sf, cs, rs))) (b ++ [ifB (kS B n) (pS B n) (vS B n) pg (.ok (a, sf, cs, rs))])) else (.ok (a, sf, cs, rs), b) := eM
      have l1 : rs.length + 1 ≤ a := l _ rfl
      have a4 := r.2.2.2.1.1
      refine B_195_12 r.sh ⟨fun z => absurd r.z z, fun _ => c_is (x := 111) (by decide) r ⟨r.sh, fun z => ?_, fun z => ⟨fun y => absurd rfl y, fun _ => ?_⟩⟩⟩
      · have n1 : kS B n a ≠ 111 := fun q => by have : isM (kS B n) 111 (.ok (a, sf, cs, rs)) = 1 := if_pos q; rw [this] at z; exact absurd z (by decide)
        rw [if_neg n1] at eM
        exact k9 _ b h g r l q eM
      · have k1 : kS B n a = 111 := Classical.byContradiction (fun q => by have : isM (kS B n) 111 (.ok (a, sf, cs, rs)) = 0 := if_neg q; rw [this] at z; exact z rfl)
        rw [if_pos k1, if_pos rfl] at eM
        refine c_fail (x := 2) (by decide) r (fun c hc => by cases hc; show rs.length ≤ 402; omega) (fun h1 g1 r1 _ _ => ⟨r1.sh, ?_⟩)
        have r1 : RR s 0 B n (.error (2, pS B n a)) h1 := r1
        refine B_195_38 r1.sh ⟨fun y => absurd y r1.ne.2.1, fun _ => kE _ h1 (g.tr (gb2 g1)) r1 (by rw [eM]) ⟨(BR ++ b).length, by have := q.2.1; omega, by rw [g1.f (by decide)]; exact q.1⟩⟩
  | succ f ih =>
    intro m b h hf g r l q eM
    match m, r, l, q, eM with
    | .error e, r, l, q, eM => exact B_195_12 r.sh ⟨fun _ => k9 _ b h g r l q eM, fun z => absurd r.ne.1 z⟩
    | .ok (a, sf, cs, rs), r, l, q, eM =>
      have eM : M = if kS B n a = 111 then (if f + 1 = 0 then (.error (2, pS B n a), b) else lawL (kS B n) (pS B n) (vS B n) pg (f + 1) (ifS (kS B n) (pS B n) (vS B n) pg (.ok (a, sf, cs, rs))) (b ++ [ifB (kS B n) (pS B n) (vS B n) pg (.ok (a, sf, cs, rs))])) else (.ok (a, sf, cs, rs), b) := eM
      have l1 : rs.length + 1 ≤ a := l _ rfl
      refine B_195_12 r.sh ⟨fun z => absurd r.z z, fun _ => c_is (x := 111) (by decide) r ⟨r.sh, fun z => ?_, fun z => ⟨fun y => ?_, fun y => ?_⟩⟩⟩
      · have n1 : kS B n a ≠ 111 := fun q => by have : isM (kS B n) 111 (.ok (a, sf, cs, rs)) = 1 := if_pos q; rw [this] at z; exact absurd z (by decide)
        rw [if_neg n1] at eM
        exact k9 _ b h g r l q eM
      · have k1 : kS B n a = 111 := Classical.byContradiction (fun q => by have : isM (kS B n) 111 (.ok (a, sf, cs, rs)) = 0 := if_neg q; rw [this] at z; exact z rfl)
        rw [if_pos k1, if_neg (by omega)] at eM
        refine c_ifR (pg := pg) r k1 q (by rw [g.f (by decide)]; exact e42) l1 (fun h1 g1 r1 l1' q1 => ?_)
        rw [nI_1, show 4 - (f + 1) + 1 = 4 - f by omega]
        rw [List.append_assoc] at q1
        exact ih _ _ h1 (by omega) (g.tr g1) r1 l1' q1 eM
      · have := (nI_eq (a := 4 - (f + 1)) (b := 4) (by omega) (by decide)).mp (Classical.not_not.mp y)
        omega
abbrev SLw : List Nat := [94, 95, 96, 97, 98, 99, 100, 101, 102, 103, 104, 105]
/-- the branches of a law, the last one too -/
def lwB (B : Nat → Nat) (n pg : Nat) (m : Md) : List Br := (lawM (kS B n) (pS B n) (vS B n) pg m).2 ++ [(0, 0, 0, rlM (lawM (kS B n) (pS B n) (vS B n) pg m).1, rlM (exS (kS B n) (pS B n) (vS B n) true pg (lawM (kS B n) (pS B n) (vS B n) pg m).1))]
def bQ0 (s : Nat) (BR : List Br) (m : Md) (h : XH) : Prop := match m with
  | .error _ => ∃ c, c ≤ 100 ∧ xI h 69 45 = nI (130 * s + c)
  | .ok (a, _, _, _) => xI h 69 45 = nI (130 * s + BR.length) ∧ 5 * BR.length + 2 ≤ a ∧ ∀ i, i < BR.length → brQ s i (brA BR i) h
theorem c_lawR {x1 : Int32} {K : XH → Prop} (hx1 : x1 = -1 ∨ ∃ f, f < 8 ∧ x1 = nI f) (r : RR s 0 B n m h) (e42 : xI h 69 42 = 1)
    (q : bQ0 s BR m h)
    (k : ∀ h1, Gs s SLw FB h h1 → RR s 0 B n (tkS (kS B n) (pS B n) 59 (lawS (kS B n) (pS B n) (vS B n) pg m)) h1 → (∀ e, tkS (kS B n) (pS B n) 59 (lawS (kS B n) (pS B n) (vS B n) pg m) = .error e → ∃ c, c ≤ 112 ∧ xI h1 69 45 = nI (130 * s + c)) → (∀ c, tkS (kS B n) (pS B n) 59 (lawS (kS B n) (pS B n) (vS B n) pg m) = .ok c → xI h1 69 45 = nI (130 * s + (BR ++ lwB B n pg m).length) ∧ 5 * (BR ++ lwB B n pg m).length ≤ c.1 ∧ (∀ i, i < (BR ++ lwB B n pg m).length → brQ s i (brA (BR ++ lwB B n pg m) i) h1) ∧ (x1 = -1 → xI h1 96 = xI h 96 ∧ xI h1 97 = xI h 97) ∧ ∀ f, f < 8 → x1 = nI f → xI h1 96 = up (xI h 96) (8 * s + f) (nI (130 * s + BR.length)) ∧ xI h1 97 = up (xI h 97) (8 * s + f) (nI (130 * s + (BR ++ lwB B n pg m).length))) → K h1) : ClV 195 [.ref 69, .int x1] h K := by
  have s2 := r.1.2.1
  refine B_195_0 r.sh (c_must (x := 61) (by decide) (by decide) r (fun h1 g1 r1 => ⟨r1.sh, ?_⟩))
  have l1 : lt1 (tkS (kS B n) (pS B n) 61 m) := lt1.tk (fun c hc => by subst hc; exact r.2.2.2.2.2.2.1)
  have q1 : bQ s (BR ++ []) (tkS (kS B n) (pS B n) 61 m) h1 := by
    rw [List.append_nil]
    match hm : tkS (kS B n) (pS B n) 61 m with
    | .error e =>
      show ∃ c, c ≤ 110 ∧ xI h1 69 45 = nI (130 * s + c)
      rw [g1.f (by decide)]
      match m, q, r, hm with
      | .error e', q, r, hm => obtain ⟨c, c1, c2⟩ := q; exact ⟨c, by omega, c2⟩
      | .ok (a, sf, cs, rs), q, r, hm => exact ⟨BR.length, by have := q.2.1; have := r.2.2.2.1.1; omega, q.1⟩
    | .ok (a', sf', cs', rs') =>
      obtain ⟨a, sf, cs, rs, e1, _, _, e2⟩ := tk_ok hm
      subst e1
      cases e2
      obtain ⟨p1, p2, p3⟩ := q
      refine ⟨by rw [g1.f (by decide)]; exact p1, by omega, fun i hi => ?_⟩
      unfold brQ
      rw [g1.at (a := 98) (by decide) (by decide), g1.at (a := 99) (by decide) (by decide), g1.at (a := 100) (by decide) (by decide), g1.at (a := 101) (by decide) (by decide), g1.at (a := 102) (by decide) (by decide)]
      exact p3 i hi
  have x2ok : ∀ c, tkS (kS B n) (pS B n) 61 m = .ok c → xI h1 69 45 = nI (130 * s + BR.length) := by
    intro c hc
    rw [hc] at q1
    have := q1.1
    rw [List.append_nil] at this
    exact this
  have eL : ∀ e, (lawM (kS B n) (pS B n) (vS B n) pg m).1 = .error e → tkS (kS B n) (pS B n) 59 (lawS (kS B n) (pS B n) (vS B n) pg m) = .error e := by
    intro e he
    unfold lawS
    rw [he]
    rfl
  have gSL : ∀ {ha hb : XH}, Gs s SBr FB ha hb → Gs s SLw FB ha hb := fun g => g.mono (by decide) (by decide)
  refine l_lawR (h0 := h1) (BR := BR) (pg := pg) (M := lawM (kS B n) (pS B n) (vS B n) pg m) (by rw [g1.f (by decide)]; exact e42) (fun m' b' h' g' r' l' q' eM => ?_) (fun e h' g' r' eM hc => ⟨rfl, ?_⟩) 4 _ [] h1 (by decide) Gs.rf r1 l1 q1 rfl
  · have em1 : (lawM (kS B n) (pS B n) (vS B n) pg m).1 = m' := by rw [eM]
    have em2 : (lawM (kS B n) (pS B n) (vS B n) pg m).2 = b' := by rw [eM]
    have qL : eqC (tkS (kS B n) (pS B n) 59 (exS (kS B n) (pS B n) (vS B n) true pg m')) (tkS (kS B n) (pS B n) 59 (lawS (kS B n) (pS B n) (vS B n) pg m)) := by
      unfold lawS
      rw [em1]
      exact ((eqC.pu (10, 0) _).sy).tk
    obtain ⟨x, hx, ex, exo⟩ : ∃ x, (130 * s ≤ x ∧ x ≤ 130 * s + 112) ∧ xI h' 69 45 = nI x ∧ ((∃ c, m' = .ok c) → x = 130 * s + (BR ++ b').length) ∧ ((∀ c, m' ≠ .ok c) → ∃ c, c ≤ 110 ∧ x = 130 * s + c) := by
      match m', q', r' with
      | .error e, q', r' => obtain ⟨c, c1, c2⟩ := q'; exact ⟨130 * s + c, by omega, c2, fun ⟨c, hc⟩ => (by cases hc), fun _ => ⟨c, c1, rfl⟩⟩
      | .ok (a, sf, cs, rs), q', r' => exact ⟨130 * s + (BR ++ b').length, by have := q'.2.1; have := r'.2.2.2.1.1; omega, q'.1, fun _ => rfl, fun hn => absurd rfl (hn _)⟩
    refine B_195_129 r'.sh ?_
    rw [ex, tn_nI (show x < 2 ^ 31 by omega)]
    have gA : Gs s [98] [] h' (xsI h' 98 x 0) := Gs.rf.set (by decide) (by decide)
    have rA := r'.gx gA (by decide) (by decide)
    have A98 : xI (xsI h' 98 x 0) 98 x = nI 0 := xI_ss
    have AK : bK x h' (xsI h' 98 x 0) := fun j hj => by
      rw [xI_sd hj, xI_n (by decide), xI_n (by decide), xI_n (by decide), xI_n (by decide)]
      exact ⟨rfl, rfl, rfl, rfl, rfl⟩
    have A45 : xI (xsI h' 98 x 0) 69 45 = nI x := by rw [xI_n (by decide)]; exact ex
    have A42 : xI (xsI h' 98 x 0) 69 42 = 1 := by rw [xI_n (by decide), g'.f (by decide), g1.f (by decide)]; exact e42
    generalize xsI h' 98 x 0 = hA at gA rA A98 AK A45 A42 ⊢
    refine ⟨inb (by omega) (by decide), c_term (pg := pg) (x := x) rA A42 l' (by omega) A45 (fun h3 g3 r3 l3 t45 tK t98 t99 t100 t12 => ⟨r3.sh, c_must (x := 59) (by decide) (by decide) r3 (fun h5 g5 r5 => ⟨r5.sh, ?_⟩)⟩)⟩
    have r5' := r5.eq qL
    have G5 : Gs s SBr FB h1 h5 := ((g'.tr (gA.mono (by decide) (by decide))).tr g3).tr (gb2 g5)
    have K5 : bK x h' h5 := (AK.tr tK).tr (bK.ex g5)
    have s45 : xI h5 69 45 = nI (x + 1) := by rw [g5.f (by decide)]; exact t45
    have g15 : Gs s SLw FB h h5 := (g1.mono (by decide) (by decide)).tr (gSL G5)
    have bad : ∀ e, tkS (kS B n) (pS B n) 59 (lawS (kS B n) (pS B n) (vS B n) pg m) = .error e → ∃ c, c ≤ 112 ∧ x + 1 = 130 * s + c := by
      intro e he
      match m', exo, q', r' with
      | .error e', exo, q', r' => obtain ⟨c, c1, c2⟩ := exo.2 (fun c hc => by cases hc); exact ⟨c + 1, by omega, by omega⟩
      | .ok (a, sf, cs, rs), exo, q', r' => exact ⟨(BR ++ b').length + 1, by have := q'.2.1; have := r'.2.2.2.1.1; omega, by rw [exo.1 ⟨_, rfl⟩]; rfl⟩
    have good : ∀ c, tkS (kS B n) (pS B n) 59 (lawS (kS B n) (pS B n) (vS B n) pg m) = .ok c → x + 1 = 130 * s + (BR ++ lwB B n pg m).length ∧ 5 * (BR ++ lwB B n pg m).length ≤ c.1 ∧ (∀ i, i < (BR ++ lwB B n pg m).length → brQ s i (brA (BR ++ lwB B n pg m) i) h5) ∧ xI h1 69 45 = nI (130 * s + BR.length) := by
      intro c hc
      obtain ⟨c7, e7, a7, _⟩ := qL.ok hc
      obtain ⟨c6, e6, a6⟩ := tk_at e7
      obtain ⟨c5, e5, a5⟩ := ex_at e6
      have eB : BR ++ lwB B n pg m = (BR ++ b') ++ [(0, 0, 0, rlM m', rlM (exS (kS B n) (pS B n) (vS B n) true pg m'))] := by
        unfold lwB
        rw [em1, em2, List.append_assoc]
      subst e5
      obtain ⟨c5a, c5sf, c5cs, c5rs⟩ := c5
      have xe := exo.1 ⟨_, rfl⟩
      obtain ⟨p1, p2, p3⟩ := q'
      have a5 : c5a + 1 ≤ c6.1 := a5
      refine ⟨by rw [eB, ap1, xe]; rfl, by rw [eB, ap1]; omega, fun i hi => ?_, ?_⟩
      · rw [eB]
        rw [eB, ap1] at hi
        by_cases qi : i = (BR ++ b').length
        · subst qi
          rw [brA_r]
          obtain ⟨t101, t102⟩ := t12 _ e6
          unfold brQ
          rw [← xe]
          refine ⟨?_, fun z => (by cases z), ?_, ?_⟩
          · rw [g5.at (by decide) (by decide), t98]; exact A98
          · rw [g5.at (by decide) (by decide)]; exact t101
          · rw [g5.at (by decide) (by decide)]; exact t102
        · rw [brA_l (by omega)]
          exact (p3 i (by omega)).k K5 (by omega)
      · match hm : tkS (kS B n) (pS B n) 61 m with
        | .ok c => exact x2ok _ hm
        | .error e =>
          exfalso
          unfold lawM at em1
          rw [hm] at em1
          have em1 : (.error e : Md) = .ok (c5a, c5sf, c5cs, c5rs) := em1
          cases em1
    have e13 : (∃ e, tkS (kS B n) (pS B n) 59 (lawS (kS B n) (pS B n) (vS B n) pg m) = .error e ∧ RR s 0 B n (.error e) h5) ∨ (∃ c, tkS (kS B n) (pS B n) 59 (lawS (kS B n) (pS B n) (vS B n) pg m) = .ok c ∧ xI h5 69 13 = (0 : Int32)) := by
      match hm : tkS (kS B n) (pS B n) 59 (lawS (kS B n) (pS B n) (vS B n) pg m) with
      | .error e => rw [hm] at r5'; exact Or.inl ⟨e, rfl, r5'⟩
      | .ok (a, sf, cs, rs) => rw [hm] at r5'; exact Or.inr ⟨_, rfl, r5'.z⟩
    have g96 : xI h5 96 = xI h 96 := by rw [G5.at (by decide) (by decide), g1.at (by decide) (by decide)]
    have g97 : xI h5 97 = xI h 97 := by rw [G5.at (by decide) (by decide), g1.at (by decide) (by decide)]
    rcases e13 with ⟨e, he, re⟩ | ⟨c, hc, e13⟩
    · refine ⟨fun _ => B_195_159 r5.sh ⟨rfl, k h5 g15 r5' (fun e' he' => ?_) (fun c hc => by rw [he] at hc; cases hc)⟩, fun z => absurd re.ne.2.2 z⟩
      obtain ⟨c, c1, c2⟩ := bad e he
      exact ⟨c, c1, by rw [s45, c2]⟩
    · obtain ⟨d1, d2, d3, d4⟩ := good c hc
      refine ⟨fun z => absurd z (by rw [e13]; decide), fun _ => ⟨fun z => ?_, fun z => B_195_159 r5.sh ⟨rfl, k h5 g15 r5' (fun e he => by rw [he] at hc; cases hc) (fun c' hc' => ?_)⟩⟩⟩
      · obtain ⟨f, hf, rfl⟩ : ∃ f, f < 8 ∧ x1 = nI f := by
          rcases hx1 with e | e
          · subst e; exact absurd z (by decide)
          · exact e
        have e19 : xI h5 69 19 = nI s := r5.1.2.2.1
        have f8 : (8 : Int32) * nI s + nI f = nI (8 * s + f) := by rw [show (8 : Int32) = nI 8 from rfl, pk_mul, nI_add]
        have e19' : xI (xsI h5 96 (8 * s + f) (xI h1 69 45)) 69 19 = nI s := by rw [xI_n (by decide)]; exact e19
        have e45' : xI (xsI h5 96 (8 * s + f) (xI h1 69 45)) 69 45 = nI (x + 1) := by rw [xI_n (by decide)]; exact s45
        rw [e19, f8, tn_nI (show 8 * s + f < 2 ^ 31 by omega), e19', f8, tn_nI (show 8 * s + f < 2 ^ 31 by omega), e45']
        refine ⟨inb (by omega) (by decide), inb (by omega) (by decide), fun h6 eh => ⟨rfl, ?_⟩⟩
        have g6 : Gs s [96, 97] [] h5 h6 := by rw [eh]; exact (Gs.rf.set (by decide) (by decide)).set (by decide) (by decide)
        have z96 : xI h6 96 = up (xI h 96) (8 * s + f) (nI (130 * s + BR.length)) := by rw [eh, xI_n (by decide), xI_s, g96, d4]
        have z97 : xI h6 97 = up (xI h 97) (8 * s + f) (nI (x + 1)) := by rw [eh, xI_s, xI_n (by decide), g97]
        clear eh
        refine k h6 (g15.tr (g6.mono (by decide) (by decide))) (r5'.gx g6 (by decide) (by decide)) (fun e he => by rw [he] at hc; cases hc) (fun c' hc' => ?_)
        rw [hc] at hc'
        cases hc'
        refine ⟨by rw [g6.f (by decide), s45, d1], d2, fun i hi => ?_, fun z => absurd z (nI_m1 (by omega)), fun f' hf' ef => ?_⟩
        · have := d3 i hi
          unfold brQ at this ⊢
          rw [g6.at (a := 98) (by decide) (by decide), g6.at (a := 99) (by decide) (by decide), g6.at (a := 100) (by decide) (by decide), g6.at (a := 101) (by decide) (by decide), g6.at (a := 102) (by decide) (by decide)]
          exact this
        · have := (nI_eq (by omega) (by omega)).mp ef
          subst this
          rw [z96, z97, d1]
          exact ⟨rfl, rfl⟩
      · rw [hc] at hc'
        cases hc'
        refine ⟨by rw [s45, d1], d2, d3, fun _ => ⟨g96, g97⟩, fun f hf ef => ?_⟩
        subst ef
        exact absurd (nI_le (a := 0) (b := f) (by omega) (by omega)) z
  · have he := eL e eM
    refine k h' ((g1.mono (by decide) (by decide)).tr (gSL g')) (by rw [he]; exact r') (fun e' _ => hc) (fun c hcc => by rw [he] at hcc; cases hcc)
end RL3
