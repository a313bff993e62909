/-! READING: what was told, as the other side holds it -/
def nmR (F : List Fa) (G : List Pg) (NM : List (List Nat × Nat)) : Prop := (∀ k, k < NM.length → (∃ f, f < F.length ∧ nmA NM k = ((faA F f).1, f)) ∨ (∃ p, p < G.length ∧ nmA NM k = ((pgA G p).1, 8 + p))) ∧ (∀ f, f < F.length → ∃ k, k < NM.length ∧ nmA NM k = ((faA F f).1, f)) ∧ (∀ p, p < G.length → ∃ k, k < NM.length ∧ nmA NM k = ((pgA G p).1, 8 + p)) ∧ NM.length = F.length + G.length
def qn (G : List Pg) : Nat → Nat
  | 0 => 0
  | p + 1 => qn G p + (pgA G p).2.2.length
def lwX (s : Nat) : List Lw → Nat → Nat × Nat
  | [], _ => (0, 0)
  | (g, _, b, e) :: t, f => if g = f then (130 * s + b, 130 * s + e) else lwX s t f
def fH (s : Nat) (F : List Fa) (h : XH) : Prop := F.length ≤ 8 ∧ xI h 79 s = nI F.length ∧ ∀ f, f < F.length → xI h 80 (8 * s + f) = nI (faA F f).2.1 ∧ xI h 81 (8 * s + f) = nI (faA F f).2.2.1 ∧ xI h 82 (8 * s + f) = nI (faA F f).2.2.2
def wH (s : Nat) (F : List Fa) (sf : Option (Nat × Nat)) (h : XH) : Prop := ∃ w, w ≤ 2000 ∧ xI h 83 s = nI w ∧ (sf = none → w = wcF F F.length)
def gH (s : Nat) (G : List Pg) (h : XH) : Prop := G.length ≤ 6 ∧ xI h 84 s = nI G.length ∧ xI h 69 32 = nI (36 * s + qn G G.length) ∧ ∀ p, p < G.length → (pgA G p).2.2.length ≤ 6 ∧ xI h 85 (6 * s + p) = nI (pgA G p).2.1 ∧ xI h 86 (6 * s + p) = nI (36 * s + qn G p) ∧ xI h 87 (6 * s + p) = nI (36 * s + qn G (p + 1)) ∧ ∀ c, c < (pgA G p).2.2.length → qR s (36 * s + qn G p + c) (cmA (pgA G p).2.2 c) h
def bH (s : Nat) (BR : List Br) (a : Nat) (h : XH) : Prop := xI h 69 45 = nI (130 * s + BR.length) ∧ 5 * BR.length ≤ a ∧ ∀ i, i < BR.length → brQ s i (brA BR i) h
def lH (s : Nat) (LW : List Lw) (h : XH) : Prop := ∀ f, f < 8 → xI h 96 (8 * s + f) = nI (lwX s LW f).1 ∧ xI h 97 (8 * s + f) = nI (lwX s LW f).2
def oH (s sl sd : Nat) (h : XH) : Prop := xI h 92 s = nI sl ∧ xI h 93 s = nI sd
/-- all that was told so far, but for the codes -/
def rST (s a : Nat) (sf : Option (Nat × Nat)) (st : St) (h : XH) : Prop := (∃ NM, nmR st.1 st.2.1 NM ∧ nH NM h) ∧ fH s st.1 h ∧ wH s st.1 sf h ∧ gH s st.2.1 h ∧ bH s st.2.2.2.1 a h ∧ (sf = none → lH s st.2.2.1 h) ∧ oH s st.2.2.2.2.1 st.2.2.2.2.2.1 h
abbrev CST : List Nat := [78, 79, 80, 81, 82, 83, 84, 85, 86, 87, 88, 89, 90, 91, 92, 93, 96, 97, 98, 99, 100, 101, 102]
section RSTA
variable {s o : Nat} {B : Nat → Nat} {n : Nat} {h h0 h1 h2 : XH} {m : Md} {a a' : Nat} {sf sf' : Option (Nat × Nat)} {cs rs : List Cd} {Q : Value → XH → Prop} {NM : List (List Nat × Nat)} {nm : List Nat} {F : List Fa} {G : List Pg} {LW : List Lw} {BR : List Br} {sl sd pg : Nat} {st : St}
theorem nmA_l {x : List Nat × Nat} {k : Nat} (hk : k < NM.length) : nmA (NM ++ [x]) k = nmA NM k := by
  unfold nmA
  rw [List.getD_eq_getElem?_getD, List.getElem?_append_left hk, ← List.getD_eq_getElem?_getD]
theorem nmA_r {x : List Nat × Nat} : nmA (NM ++ [x]) NM.length = x := by
  unfold nmA
  rw [List.getD_eq_getElem?_getD, List.getElem?_append_right (Nat.le_refl _), Nat.sub_self]
  rfl
theorem nH.rx {S L F' : List Nat} (N : nH NM h) (g : Rx S L F' h h1) (hS : 78 ∉ S) (hL : 77 ∉ L) (hF : 20 ∉ F') : nH NM h1 := by
  unfold nH
  rw [g.f hF, g.al hL, g.at hS (by decide)]
  exact N
theorem rST.rx {S L F' : List Nat} (x : rST s a sf st h) (g : Rx S L F' h h1) (hS : ∀ c ∈ CST, c ∉ S) (hL : 77 ∉ L) (hF : ∀ c ∈ [20, 32, 45], c ∉ F') (ha : a ≤ a') (hf : sf' = none → sf = none) : rST s a' sf' st h1 := by
  have c : ∀ c, c ∈ CST → xI h1 c = xI h c := fun c hc => g.at (hS c hc) (fun e => by rw [e] at hc; revert hc; decide)
  obtain ⟨⟨NM, n1, n2⟩, x2, ⟨w, w1, w2, w3⟩, x4, ⟨b1, b2, b3⟩, x6, x7⟩ := x
  refine ⟨⟨NM, n1, n2.rx g (hS 78 (by decide)) hL (hF 20 (by decide))⟩, ?_, ⟨w, w1, by rw [c 83 (by decide)]; exact w2, fun e => w3 (hf e)⟩, ?_, ⟨by rw [g.f (hF 45 (by decide))]; exact b1, by omega, fun i hi => ?_⟩, fun e => ?_, ?_⟩
  · unfold fH
    rw [c 79 (by decide), c 80 (by decide), c 81 (by decide), c 82 (by decide)]
    exact x2
  · unfold gH qR
    rw [c 84 (by decide), c 85 (by decide), c 86 (by decide), c 87 (by decide), c 88 (by decide), c 89 (by decide), c 90 (by decide), c 91 (by decide), g.f (hF 32 (by decide))]
    exact x4
  · have := b3 i hi
    unfold brQ at this ⊢
    rw [c 98 (by decide), c 99 (by decide), c 100 (by decide), c 101 (by decide), c 102 (by decide)]
    exact this
  · unfold lH
    rw [c 96 (by decide), c 97 (by decide)]
    exact x6 (hf e)
  · unfold oH
    rw [c 92 (by decide), c 93 (by decide)]
    exact x7
theorem rST.gs (x : rST s a sf st h) (g : Gs s SE FE h h1) (ha : a ≤ a') (hf : sf' = none → sf = none) : rST s a' sf' st h1 := x.rx (L := []) g.gx.rx (by decide) (by decide) (by decide) ha hf
theorem RR.rx {S L F' : List Nat} (r : RR s o B n m h) (g : Rx S L F' h h1) (hS : ∀ x ∈ NS1, x ∉ S) (hL : 75 ∉ L) (hF : ∀ x ∈ NF1, x ∉ F') : RR s o B n m h1 := by
  have rb : RBs s B n h1 := by
    obtain ⟨r1, r2, r3, r4, r5⟩ := r.1
    refine ⟨g.sh r1 (hS 1 (by decide)), r2, by rw [g.f (hF 19 (by decide))]; exact r3, fun j hj => ?_, r5⟩
    unfold rT1
    rw [g.at (hS 72 (by decide)) (by decide), g.at (hS 73 (by decide)) (by decide), g.at (hS 74 (by decide)) (by decide), g.al hL]
    exact r4 j hj
  match m, r with
  | .error e, r =>
    obtain ⟨e1, e2, e3, e4, e5, ⟨b, e6, e7⟩, c, e8, e9⟩ := r.2
    exact ⟨rb, e1, e2, e3, by rw [g.f (hF 13 (by decide))]; exact e4, by rw [g.f (hF 14 (by decide))]; exact e5, ⟨b, e6, by rw [g.f (hF 11 (by decide))]; exact e7⟩, ⟨c, e8, by rw [g.f (hF 51 (by decide))]; exact e9⟩⟩
  | .ok (a, sf, cs, rs), r =>
    obtain ⟨q1, q2, q3, q4, q5, q6, q7, q8, q9, q10⟩ := r.2
    refine ⟨rb, by rw [g.f (hF 13 (by decide))]; exact q1, by rw [g.f (hF 11 (by decide))]; exact q2, q3, ?_, by rw [g.f (hF 12 (by decide))]; exact q5, q6, by rw [g.f (hF 51 (by decide))]; exact q7, fun i hi => by rw [g.at (hS 103 (by decide)) (by decide), g.at (hS 104 (by decide)) (by decide)]; exact q8 i hi, by rw [g.f (hF 39 (by decide))]; exact q9, fun i hi => by rw [g.at (hS 94 (by decide)) (by decide), g.at (hS 95 (by decide)) (by decide)]; exact q10 i hi⟩
    unfold sfP
    rw [g.f (hF 15 (by decide)), g.f (hF 16 (by decide))]
    exact q4
theorem othS.setL {a j : Nat} {v : Int64} (p : othS s h h1) : othS s h (xsL h1 a j v) := p
theorem c_notes {j t : Nat} {K : XH → Prop} (hs : Sh h) (N : nH NM h) (hN : NM.length < 14) (T : rTk B n h) (hj : rch B n j) (kj : kS B n j = 2) (ht : t < 14) (k : ∀ h1, Rx [78] [77] [20] h h1 → othS s h h1 → nH (NM ++ [(nS B n j, t)]) h1 → K h1) : ClV 194 [.ref 69, .int (nI j), .int (nI t)] h K := by
  obtain ⟨n1, n2, n3⟩ := N
  have j4 := hj.1
  have t75 : xL h 75 j = oL (enc 27 (nS B n j)) := (T j hj).2.2.1 kj
  have i20 : xI (xsL h 77 NM.length (oL (enc 27 (nS B n j)))) 69 20 = nI NM.length := n1
  have i21 : xI (xsI (xsL h 77 NM.length (oL (enc 27 (nS B n j)))) 78 NM.length (nI t)) 69 20 = nI NM.length := by rw [xI_n (by decide)]; exact i20
  refine B_194_0 hs ?_
  rw [n1, tn_nI (show NM.length < 2 ^ 31 by omega), tn_nI (show j < 2 ^ 31 by omega), t75, i20, tn_nI (show NM.length < 2 ^ 31 by omega), i21, nI_1]
  refine ⟨inb (by omega) (by decide), inb hN (by decide), inb hN (by decide), fun h1 eh => ⟨rfl, k h1 ?_ ?_ ?_⟩⟩
  · rw [eh]
    exact ((Rx.rf.setL (by decide)).set (by decide) (by decide)).fld (by decide)
  · rw [eh]
    exact ((othS.rf.setL).set (Or.inl rfl)).set (Or.inl rfl)
  · have e77 : xL h1 77 = up (xL h 77) NM.length (oL (enc 27 (nS B n j))) := by rw [eh]; exact xL_s
    have e78 : xI h1 78 = up (xI h 78) NM.length (nI t) := by rw [eh, xI_n (by decide), xI_s]; rfl
    have e20 : xI h1 69 20 = nI (NM.length + 1) := by rw [eh, xI_ss]
    unfold nH
    rw [ap1, e77, e78, e20]
    refine ⟨rfl, by omega, fun k hk => ?_⟩
    by_cases q : k = NM.length
    · subst q
      rw [nmA_r, up_same, up_same]
      exact ⟨rfl, nS_ok kj, rfl, ht⟩
    · rw [nmA_l (by omega), up_ne q, up_ne q]
      exact n3 k (by omega)
theorem fiF_some : ∀ k f, (fiF nm F k f).isSome = true ↔ ∃ g, f ≤ g ∧ g < f + k ∧ (faA F g).1 = nm := by
  intro k
  induction k with
  | zero => intro f; exact ⟨fun q => (by cases q), fun ⟨g, h1, h2, _⟩ => absurd h1 (by omega)⟩
  | succ k ih =>
    intro f
    have e : fiF nm F (k + 1) f = if (faA F f).1 = nm then some f else fiF nm F k (f + 1) := rfl
    rw [e]
    by_cases q : (faA F f).1 = nm
    · rw [if_pos q]
      exact ⟨fun _ => ⟨f, by omega, by omega, q⟩, fun _ => rfl⟩
    · rw [if_neg q, ih]
      constructor
      · rintro ⟨g, h1, h2, h3⟩; exact ⟨g, by omega, by omega, h3⟩
      · rintro ⟨g, h1, h2, h3⟩
        have : g ≠ f := fun e => q (by rw [← e]; exact h3)
        exact ⟨g, by omega, by omega, h3⟩
theorem fiG_some : ∀ k f, (fiG nm G k f).isSome = true ↔ ∃ g, f ≤ g ∧ g < f + k ∧ (pgA G g).1 = nm := by
  intro k
  induction k with
  | zero => intro f; exact ⟨fun q => (by cases q), fun ⟨g, h1, h2, _⟩ => absurd h1 (by omega)⟩
  | succ k ih =>
    intro f
    have e : fiG nm G (k + 1) f = if (pgA G f).1 = nm then some f else fiG nm G k (f + 1) := rfl
    rw [e]
    by_cases q : (pgA G f).1 = nm
    · rw [if_pos q]
      exact ⟨fun _ => ⟨f, by omega, by omega, q⟩, fun _ => rfl⟩
    · rw [if_neg q, ih]
      constructor
      · rintro ⟨g, h1, h2, h3⟩; exact ⟨g, by omega, by omega, h3⟩
      · rintro ⟨g, h1, h2, h3⟩
        have : g ≠ f := fun e => q (by rw [← e]; exact h3)
        exact ⟨g, by omega, by omega, h3⟩
theorem hasN_told (R : nmR F G NM) : hasN NM nm ↔ told nm F G = true := by
  unfold told
  rw [Bool.or_eq_true, fiF_some, fiG_some]
  obtain ⟨r1, r2, r3, r4⟩ := R
  constructor
  · rintro ⟨k, hk, e⟩
    rcases r1 k hk with ⟨f, hf, q⟩ | ⟨p, hp, q⟩
    · rw [q] at e; exact Or.inl ⟨f, by omega, by omega, e⟩
    · rw [q] at e; exact Or.inr ⟨p, by omega, by omega, e⟩
  · rintro (⟨f, _, hf, e⟩ | ⟨p, _, hp, e⟩)
    · obtain ⟨k, hk, q⟩ := r2 f (by omega)
      exact ⟨k, hk, by rw [q]; exact e⟩
    · obtain ⟨k, hk, q⟩ := r3 p (by omega)
      exact ⟨k, hk, by rw [q]; exact e⟩
theorem nmR.fact {x : Fa} (R : nmR F G NM) : nmR (F ++ [x]) G (NM ++ [(x.1, F.length)]) := by
  obtain ⟨r1, r2, r3, r4⟩ := R
  unfold nmR
  rw [ap1, ap1]
  refine ⟨fun k hk => ?_, fun f hf => ?_, fun p hp => ?_, by omega⟩
  · by_cases q : k = NM.length
    · subst q
      exact Or.inl ⟨F.length, by omega, by rw [nmA_r, faA_r]⟩
    · rw [nmA_l (by omega)]
      rcases r1 k (by omega) with ⟨f, hf, q⟩ | ⟨p, hp, q⟩
      · exact Or.inl ⟨f, by omega, by rw [q, faA_l hf]⟩
      · exact Or.inr ⟨p, hp, q⟩
  · by_cases q : f = F.length
    · subst q
      exact ⟨NM.length, by omega, by rw [nmA_r, faA_r]⟩
    · obtain ⟨k, hk, e⟩ := r2 f (by omega)
      exact ⟨k, by omega, by rw [nmA_l hk, e, faA_l (by omega)]⟩
  · obtain ⟨k, hk, e⟩ := r3 p hp
    exact ⟨k, by omega, by rw [nmA_l hk, e]⟩
theorem nmR.page {x : Pg} (R : nmR F G NM) : nmR F (G ++ [x]) (NM ++ [(x.1, 8 + G.length)]) := by
  obtain ⟨r1, r2, r3, r4⟩ := R
  unfold nmR
  rw [ap1, ap1]
  refine ⟨fun k hk => ?_, fun f hf => ?_, fun p hp => ?_, by omega⟩
  · by_cases q : k = NM.length
    · subst q
      exact Or.inr ⟨G.length, by omega, by rw [nmA_r, pgA_r]⟩
    · rw [nmA_l (by omega)]
      rcases r1 k (by omega) with ⟨f, hf, q⟩ | ⟨p, hp, q⟩
      · exact Or.inl ⟨f, hf, q⟩
      · exact Or.inr ⟨p, by omega, by rw [q, pgA_l hp]⟩
  · obtain ⟨k, hk, e⟩ := r2 f hf
    exact ⟨k, by omega, by rw [nmA_l hk, e]⟩
  · by_cases q : p = G.length
    · subst q
      exact ⟨NM.length, by omega, by rw [nmA_r, pgA_r]⟩
    · obtain ⟨k, hk, e⟩ := r3 p (by omega)
      exact ⟨k, by omega, by rw [nmA_l hk, e, pgA_l (by omega)]⟩
/-- the soft faults of a fact, in the one order and in the other -/
theorem sf_fact {t : Prop} [Decidable t] {p1 p2 p3 v2 v3 w W : Nat} (hl : ∀ x y, sf = some (x, y) → y < p1) (h12 : p1 < p2) (h23 : p2 < p3) (hw : sf = none → w = W) :
    (if (0 < v2 ∧ v2 < 4) ∧ 2000 < w * (v2 + 1) then sfW (if v3 < 0 ∨ (if 3 ≤ v2 then 3 else v2) < v3 then sfO (if v2 < 1 ∨ 3 < v2 then sfO (if t then sfW sf 3 p1 else sf) (some (5, p2)) else (if t then sfW sf 3 p1 else sf)) (some (5, p3)) else (if v2 < 1 ∨ 3 < v2 then sfO (if t then sfW sf 3 p1 else sf) (some (5, p2)) else (if t then sfW sf 3 p1 else sf))) 7 p2 else (if v3 < 0 ∨ (if 3 ≤ v2 then 3 else v2) < v3 then sfO (if v2 < 1 ∨ 3 < v2 then sfO (if t then sfW sf 3 p1 else sf) (some (5, p2)) else (if t then sfW sf 3 p1 else sf)) (some (5, p3)) else (if v2 < 1 ∨ 3 < v2 then sfO (if t then sfW sf 3 p1 else sf) (some (5, p2)) else (if t then sfW sf 3 p1 else sf))))
    = (if v2 < v3 then sfO (if 2000 < W * (v2 + 1) then sfO (if v2 < 1 ∨ 3 < v2 then sfO (if t then sfO sf (some (3, p1)) else sf) (some (5, p2)) else (if t then sfO sf (some (3, p1)) else sf)) (some (7, p2)) else (if v2 < 1 ∨ 3 < v2 then sfO (if t then sfO sf (some (3, p1)) else sf) (some (5, p2)) else (if t then sfO sf (some (3, p1)) else sf))) (some (5, p3)) else (if 2000 < W * (v2 + 1) then sfO (if v2 < 1 ∨ 3 < v2 then sfO (if t then sfO sf (some (3, p1)) else sf) (some (5, p2)) else (if t then sfO sf (some (3, p1)) else sf)) (some (7, p2)) else (if v2 < 1 ∨ 3 < v2 then sfO (if t then sfO sf (some (3, p1)) else sf) (some (5, p2)) else (if t then sfO sf (some (3, p1)) else sf)))) := by
  have kp : ∀ x y p x', y < p → sfW (some (x, y)) x' p = some (x, y) := fun x y p x' q => by show (if y < p then _ else _) = _; rw [if_pos q]
  have so : ∀ x b, sfO (some x) b = some x := fun _ _ => rfl
  have no : ∀ b, sfO none b = b := fun _ => rfl
  match sf, hl, hw with
  | some (x, y), hl, hw =>
    have l := hl x y rfl
    simp only [so, kp x y p1 3 l, kp x y p2 7 (by omega), ite_self]
  | none, hl, hw =>
    have hw := hw rfl
    subst hw
    have e0 : sfW none 3 p1 = some (3, p1) := rfl
    by_cases ht : t
    · simp only [if_pos ht, so, no, e0, kp 3 p1 p2 7 h12, ite_self]
    · simp only [if_neg ht, no]
      by_cases hv : v2 < 1 ∨ 3 < v2
      · rw [if_pos hv, if_neg (by omega)]
        simp only [so, ite_self]
      · rw [if_neg hv]
        have e1 : (if 3 ≤ v2 then 3 else v2) = v2 := by split <;> omega
        rw [e1]
        simp only [no]
        have e7 : sfW none 7 p2 = some (7, p2) := rfl
        have e57 : sfW (some (5, p3)) 7 p2 = some (7, p2) := by
          show (if p3 < p2 then _ else if p2 = p3 ∧ ¬ 7 < 5 then _ else _) = _
          rw [if_neg (by omega), if_neg (by omega)]
        have ev : (v3 < 0 ∨ v2 < v3) ↔ v2 < v3 := by omega
        by_cases h2 : 2000 < w * (v2 + 1)
        · rw [if_pos ⟨by omega, h2⟩, if_pos h2]
          simp only [so, ite_self]
          split
          · exact e57
          · exact e7
        · rw [if_neg (fun q => h2 q.2), if_neg h2]
          simp only [no, ev]
end RSTA
