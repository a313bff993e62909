/-! TOKENS: the other side cuts them -/
def Rx (S L F : List Nat) (h h1 : XH) : Prop := Lx (69 :: S) L h h1 ∧ ∀ j, j ∉ F → xI h1 69 j = xI h 69 j
section RX
variable {S S' L L' F F' : List Nat} {h h1 h2 : XH} {a j n : Nat}
theorem Rx.rf : Rx S L F h h := ⟨Lx.rf, fun _ _ => rfl⟩
theorem Rx.tr (p : Rx S L F h h1) (q : Rx S L F h1 h2) : Rx S L F h h2 := ⟨p.1.tr q.1, fun j hj => (q.2 j hj).trans (p.2 j hj)⟩
theorem Rx.mono (p : Rx S L F h h1) (hS : ∀ a ∈ S, a ∈ S') (hL : ∀ a ∈ L, a ∈ L') (hF : ∀ a ∈ F, a ∈ F') : Rx S' L' F' h h1 := ⟨p.1.mono (fun a ha => by
  rcases List.mem_cons.mp ha with e | e
  · rw [e]; exact List.mem_cons_self
  · exact List.mem_cons_of_mem _ (hS a e)) hL, fun j hj => p.2 j (fun q => hj (hF j q))⟩
theorem Gx.rx (p : Gx S F h h1) : Rx S L F h h1 := ⟨p.1.lx, p.2⟩
theorem Rx.set {v : Int32} (p : Rx S L F h h1) (ha : a ∈ S) (h69 : a ≠ 69) : Rx S L F h (xsI h1 a j v) := ⟨p.1.set (List.mem_cons_of_mem _ ha), fun i hi => by rw [xI_n (Ne.symm h69)]; exact p.2 i hi⟩
theorem Rx.fld {v : Int32} (p : Rx S L F h h1) (hj : j ∈ F) : Rx S L F h (xsI h1 69 j v) := ⟨p.1.set List.mem_cons_self, fun i hi => by rw [xI_s, up_ne (fun e => hi (by rw [e]; exact hj))]; exact p.2 i hi⟩
theorem Rx.setL {v : Int64} (p : Rx S L F h h1) (ha : a ∈ L) : Rx S L F h (xsL h1 a j v) := ⟨p.1.setL ha, fun i hi => p.2 i hi⟩
theorem Rx.sh (p : Rx S L F h h1) (hs : Sh h) (h1n : 1 ∉ S) : Sh h1 := p.1.sh hs (fun q => by
  rcases List.mem_cons.mp q with e | e
  · cases e
  · exact h1n e)
theorem Rx.at (p : Rx S L F h h1) (ha : a ∉ S) (h69 : a ≠ 69) : xI h1 a = xI h a := p.1.at (fun q => by
  rcases List.mem_cons.mp q with e | e
  · exact h69 e
  · exact ha e)
theorem Rx.f (p : Rx S L F h h1) (hj : j ∉ F) : xI h1 69 j = xI h 69 j := p.2 j hj
theorem Rx.al (p : Rx S L F h h1) (ha : a ∉ L) : xL h1 a = xL h a := p.1.al ha
end RX
theorem ap_lt : ∀ k, k < 256 → isL k = true → ((nI k - 97) + 1).toInt64 = oL (k - 96) := by decide +kernel
theorem ap_oL {a k : Nat} (ha : a < 2 ^ 40) (hk : k < 256) (hl : isL k = true) : ((27 : Int64) * oL a) + (((nI k - 97) + 1) : Int32).toInt64 = oL (27 * a + (k - 96)) := by
  apply uL_inj
  have e : uL (27 : Int64) = 27 := rfl
  rw [ap_lt k hk hl, uL_add, uL_mul, e, uL_oL (by omega), uL_oL (by omega), uL_oL (by omega), Nat.mod_eq_of_lt (show 27 * a < 18446744073709551616 by omega), Nat.mod_eq_of_lt (by omega)]
theorem enc27_lt {l : List Nat} (ho : okN l) (hl : l.length ≤ 8) : enc 27 l < 2 ^ 40 := by
  have h1 := enc_lt (b := 27) (by decide) l ho
  have h2 : 27 ^ l.length ≤ 27 ^ 8 := Nat.pow_le_pow_right (by decide) hl
  omega
theorem kwF_8 {nm : List Nat} (hl : 5 < nm.length) : ∀ k w, w + k ≤ 16 → kwF nm k w = 2 := by
  intro k
  induction k with
  | zero => intro w _; rfl
  | succ k ih =>
    intro w hw
    show (if KW w = nm then 100 + w else kwF nm k (w + 1)) = 2
    rw [if_neg (fun q => by have := (KW_ok w (by omega)).2.1; rw [q] at this; omega), ih (w + 1) (by omega)]
section RCUT
variable {h : XH} {B : Nat → Nat} {n : Nat} {Q : Value → XH → Prop}
/-- bytes of the text -/
def XB (B : Nat → Nat) (n : Nat) (h : XH) : Prop := n ≤ 2000 ∧ (∀ i, B i < 256) ∧ xI h 69 4 = nI n ∧ ∀ i, i < n → xI h 71 i = sx (B i)
def bA (B : Nat → Nat) (n i : Nat) : Nat := if i < n then B i else 0
theorem c_byteAt {i : Nat} {K : Int32 → XH → Prop} (hs : Sh h) (X : XB B n h) (hi : i < 2 ^ 31) (k : K (nI (bA B n i)) h) : ClI 180 [.ref 69, .int (nI i)] h K := by
  have n2 := X.1
  unfold bA at k
  refine B_180_0 hs ?_
  rw [X.2.2.1]
  by_cases q : i < n
  · rw [if_pos q] at k
    rw [tn_nI hi, X.2.2.2 i q, sx_255 _ (X.2.1 i)]
    exact ⟨fun z => absurd z (nI_ge q (by omega)), fun _ => ⟨inb (by omega) (by decide), _, rfl, k⟩⟩
  · rw [if_neg q] at k
    exact ⟨fun _ => ⟨_, rfl, k⟩, fun z => absurd (nI_le (by omega) hi) z⟩
theorem c_letR {k : Nat} {K : Int32 → XH → Prop} (hs : Sh h) (hk : k < 256) (k1 : isL k = true → K (nI 1) h) (k0 : isL k = false → K (nI 0) h) : ClI 182 [.int (nI k)] h K := by
  have a := nk_L k hk
  cases e : isL k with
  | true =>
    have b := a.mp e
    exact B_182_0 hs ⟨fun z => absurd z b.1, fun _ => ⟨fun z => absurd z b.2, fun _ => ⟨_, rfl, k1 e⟩⟩⟩
  | false => exact B_182_0 hs ⟨fun _ => ⟨_, rfl, k0 e⟩, fun z => ⟨fun _ => ⟨_, rfl, k0 e⟩, fun y => by rw [a.mpr ⟨z, y⟩] at e; cases e⟩⟩
theorem c_dgtR {k : Nat} {K : Int32 → XH → Prop} (hs : Sh h) (hk : k < 256) (k1 : isD k = true → K (nI 1) h) (k0 : isD k = false → K (nI 0) h) : ClI 183 [.int (nI k)] h K := by
  have a := nk_D k hk
  cases e : isD k with
  | true =>
    have b := a.mp e
    exact B_183_0 hs ⟨fun z => absurd z b.1, fun _ => ⟨fun z => absurd z b.2, fun _ => ⟨_, rfl, k1 e⟩⟩⟩
  | false => exact B_183_0 hs ⟨fun _ => ⟨_, rfl, k0 e⟩, fun z => ⟨fun _ => ⟨_, rfl, k0 e⟩, fun y => by rw [a.mpr ⟨z, y⟩] at e; cases e⟩⟩
/-- token m is put -/
def put4 (h : XH) (m : Nat) (k w v : Int32) (x : Int64) : XH := xsI (xsL (xsI (xsI (xsI h 72 m k) 73 m w) 74 m v) 75 m x) 69 10 (nI (m + 1))
theorem c_token {m : Nat} {k w v : Int32} {x : Int64} {K : XH → Prop} (hs : Sh h) (hm : m < 403) (e : xI h 69 10 = nI m) (kk : K (put4 h m k w v x)) : ClV 181 [.ref 69, .int k, .int w, .int v, .long x] h K := by
  have e1 : xI (xsI h 72 m k) 69 10 = nI m := by rw [xI_n (by decide)]; exact e
  have e2 : xI (xsI (xsI h 72 m k) 73 m w) 69 10 = nI m := by rw [xI_n (by decide)]; exact e1
  have e3 : xI (xsI (xsI (xsI h 72 m k) 73 m w) 74 m v) 69 10 = nI m := by rw [xI_n (by decide)]; exact e2
  have i := inb (k := m) (n := 403) hm (by decide)
  refine B_181_0 hs ?_
  rw [e, tn_nI (show m < 2 ^ 31 by omega), e1, tn_nI (show m < 2 ^ 31 by omega), e2, tn_nI (show m < 2 ^ 31 by omega)]
  refine ⟨i, i, i, fun h1 eh => ?_⟩
  subst eh
  rw [e3, tn_nI (show m < 2 ^ 31 by omega)]
  have e4 : xI (xsL (xsI (xsI (xsI h 72 m k) 73 m w) 74 m v) 75 m x) 69 10 = nI m := e3
  rw [e4, nI_1]
  exact ⟨i, rfl, kk⟩
abbrev SRt : List Nat := [72, 73, 74]
theorem put4_rx {h0 : XH} {m : Nat} {k w v : Int32} {x : Int64} (g : Rx SRt [75] [10] h0 h) : Rx SRt [75] [10] h0 (put4 h m k w v x) := (((((g.set (by decide) (by decide)).set (by decide) (by decide)).set (by decide) (by decide)).setL (by decide)).fld (by decide))
/-- token j as the other side holds it -/
def rT1 (B : Nat → Nat) (n j : Nat) (h : XH) : Prop := xI h 72 j = nI (rkd (kS B n j)) ∧ xI h 73 j = nI (pS B n j) ∧ (kS B n j = 2 → xL h 75 j = oL (enc 27 (nS B n j))) ∧ (kS B n j = 3 → xI h 74 j = nI (vS B n j))
def rTk (B : Nat → Nat) (n : Nat) (h : XH) : Prop := ∀ j, rch B n j → rT1 B n j h
theorem put4_T {m : Nat} {k w v : Int32} {x : Int64} (hT : ∀ j, j < m → rT1 B n j h) (e1 : k = nI (rkd (kS B n m))) (e2 : w = nI (pS B n m)) (e3 : kS B n m = 2 → x = oL (enc 27 (nS B n m))) (e4 : kS B n m = 3 → v = nI (vS B n m)) : ∀ j, j < m + 1 → rT1 B n j (put4 h m k w v x) := by
  intro j hj
  unfold rT1
  have i72 : xI (put4 h m k w v x) 72 = up (xI h 72) m k := by
    unfold put4
    rw [xI_n (by decide)]
    show xI (xsI (xsI (xsI h 72 m k) 73 m w) 74 m v) 72 = _
    rw [xI_n (by decide), xI_n (by decide), xI_s]
  have i73 : xI (put4 h m k w v x) 73 = up (xI h 73) m w := by
    unfold put4
    rw [xI_n (by decide)]
    show xI (xsI (xsI (xsI h 72 m k) 73 m w) 74 m v) 73 = _
    rw [xI_n (by decide), xI_s, xI_n (by decide)]
  have i74 : xI (put4 h m k w v x) 74 = up (xI h 74) m v := by
    unfold put4
    rw [xI_n (by decide)]
    show xI (xsI (xsI (xsI h 72 m k) 73 m w) 74 m v) 74 = _
    rw [xI_s, xI_n (by decide), xI_n (by decide)]
  have i75 : xL (put4 h m k w v x) 75 = up (xL h 75) m x := xL_s
  rw [i72, i73, i74, i75]
  by_cases e : j = m
  · subst e
    rw [up_same, up_same, up_same, up_same]
    exact ⟨e1, e2, e3, e4⟩
  · rw [up_ne e, up_ne e, up_ne e, up_ne e]
    exact hT j (by omega)
theorem put4_10 {m : Nat} {k w v : Int32} {x : Int64} : xI (put4 h m k w v x) 69 10 = nI (m + 1) := xI_ss
def sg5 (c x : Int32) : Int32 := if c = 62 then 16 else if c = 60 then 13 else if c = 47 then 15 else if c = 42 then 10 else if c = 45 then 9 else x
def sg0 (c : Int32) : Int32 := if c = 43 then 8 else if c = 59 then 4 else if c = 61 then 5 else if c = 40 then 6 else if c = 41 then 7 else 3
theorem sg_k : ∀ k, k < 256 → sg5 (nI k) (sg0 (nI k)) = nI (if isS k = true then rkd k else 3) := by decide +kernel
theorem l_sg5 {x1 c x : Int32} (hs : Sh h) (kk : Ev 184 105 [.ref 69, .int x1, .null, .null, .int (sg5 c x)] [] h Q) : Ev 184 55 [.ref 69, .int x1, .int c, .null, .int x] [] h Q := by
  unfold sg5 at kk
  have a62 : ∀ y, (¬ c = 62 → Ev 184 105 [.ref 69, .int x1, .null, .null, .int y] [] h Q) → (c = 62 → Ev 184 105 [.ref 69, .int x1, .null, .null, .int 16] [] h Q) → Ev 184 95 [.ref 69, .int x1, .int c, .null, .int y] [] h Q := fun y a b => B_184_95 hs ⟨fun z => a z, fun z => b (Classical.not_not.mp z)⟩
  have a60 : ∀ y, (¬ c = 60 → Ev 184 95 [.ref 69, .int x1, .int c, .null, .int y] [] h Q) → (c = 60 → Ev 184 95 [.ref 69, .int x1, .int c, .null, .int 13] [] h Q) → Ev 184 85 [.ref 69, .int x1, .int c, .null, .int y] [] h Q := fun y a b => B_184_85 hs ⟨fun z => a z, fun z => b (Classical.not_not.mp z)⟩
  have a47 : ∀ y, (¬ c = 47 → Ev 184 85 [.ref 69, .int x1, .int c, .null, .int y] [] h Q) → (c = 47 → Ev 184 85 [.ref 69, .int x1, .int c, .null, .int 15] [] h Q) → Ev 184 75 [.ref 69, .int x1, .int c, .null, .int y] [] h Q := fun y a b => B_184_75 hs ⟨fun z => a z, fun z => b (Classical.not_not.mp z)⟩
  have a42 : ∀ y, (¬ c = 42 → Ev 184 75 [.ref 69, .int x1, .int c, .null, .int y] [] h Q) → (c = 42 → Ev 184 75 [.ref 69, .int x1, .int c, .null, .int 10] [] h Q) → Ev 184 65 [.ref 69, .int x1, .int c, .null, .int y] [] h Q := fun y a b => B_184_65 hs ⟨fun z => a z, fun z => b (Classical.not_not.mp z)⟩
  have g62 : ∀ y, Ev 184 105 [.ref 69, .int x1, .null, .null, .int (if c = 62 then 16 else y)] [] h Q → Ev 184 95 [.ref 69, .int x1, .int c, .null, .int y] [] h Q := fun y k => a62 y (fun z => by rw [if_neg z] at k; exact k) (fun z => by rw [if_pos z] at k; exact k)
  have g60 : ∀ y, Ev 184 105 [.ref 69, .int x1, .null, .null, .int (if c = 62 then 16 else if c = 60 then 13 else y)] [] h Q → Ev 184 85 [.ref 69, .int x1, .int c, .null, .int y] [] h Q := fun y k => a60 y (fun z => g62 _ (by rw [if_neg z] at k; exact k)) (fun z => g62 _ (by rw [if_pos z] at k; exact k))
  have g47 : ∀ y, Ev 184 105 [.ref 69, .int x1, .null, .null, .int (if c = 62 then 16 else if c = 60 then 13 else if c = 47 then 15 else y)] [] h Q → Ev 184 75 [.ref 69, .int x1, .int c, .null, .int y] [] h Q := fun y k => a47 y (fun z => g60 _ (by rw [if_neg z] at k; exact k)) (fun z => g60 _ (by rw [if_pos z] at k; exact k))
  have g42 : ∀ y, Ev 184 105 [.ref 69, .int x1, .null, .null, .int (if c = 62 then 16 else if c = 60 then 13 else if c = 47 then 15 else if c = 42 then 10 else y)] [] h Q → Ev 184 65 [.ref 69, .int x1, .int c, .null, .int y] [] h Q := fun y k => a42 y (fun z => g47 _ (by rw [if_neg z] at k; exact k)) (fun z => g47 _ (by rw [if_pos z] at k; exact k))
  exact B_184_55 hs ⟨fun z => g42 _ (by rw [if_neg z] at kk; exact kk), fun z => g42 _ (by rw [if_pos (Classical.not_not.mp z)] at kk; exact kk)⟩
theorem c_sign {m i k : Nat} {y : Int32} {K : Int32 → XH → Prop} (hs : Sh h) (hm : m < 403) (hk : k < 256) (e : xI h 69 10 = nI m) (kk : K (nI 1) (put4 h m (nI (if isS k = true then rkd k else 3)) (nI i) 0 0)) : ClI 184 [.ref 69, .int (nI i), .int (nI k), .int y] h K := by
  have fin : Ev 184 105 [.ref 69, .int (nI i), .null, .null, .int (sg5 (nI k) (sg0 (nI k)))] [] h (fun r h1 => ∃ v, r = .int v ∧ K v h1) := by
    rw [sg_k k hk]
    refine B_184_105 hs (c_token hs hm e ⟨?_, _, rfl, kk⟩)
    exact (put4_rx (h0 := h) Rx.rf).sh hs (by decide)
  have go : ∀ x, x = sg0 (nI k) → Ev 184 55 [.ref 69, .int (nI i), .int (nI k), .null, .int x] [] h (fun r h1 => ∃ v, r = .int v ∧ K v h1) := fun x hx => l_sg5 hs (by rw [hx]; exact fin)
  refine B_184_0 hs ⟨fun z59 => ⟨fun z61 => ⟨fun z40 => ⟨fun z41 => ⟨fun z43 => go _ ?_, fun z43 => go _ ?_⟩, fun z41 => ⟨fun z43 => go _ ?_, fun z43 => go _ ?_⟩⟩, fun z40 => ⟨fun z43 => go _ ?_, fun z43 => go _ ?_⟩⟩, fun z61 => ⟨fun z43 => go _ ?_, fun z43 => go _ ?_⟩⟩, fun z59 => ⟨fun z43 => go _ ?_, fun z43 => go _ ?_⟩⟩
  · unfold sg0; rw [if_neg z43, if_neg z59, if_neg z61, if_neg z40, if_neg z41]
  · unfold sg0; rw [if_pos (Classical.not_not.mp z43)]
  · unfold sg0; rw [if_neg z43, if_neg z59, if_neg z61, if_neg z40, if_pos (Classical.not_not.mp z41)]
  · unfold sg0; rw [if_pos (Classical.not_not.mp z43)]
  · unfold sg0; rw [if_neg z43, if_neg z59, if_neg z61, if_pos (Classical.not_not.mp z40)]
  · unfold sg0; rw [if_pos (Classical.not_not.mp z43)]
  · unfold sg0; rw [if_neg z43, if_neg z59, if_pos (Classical.not_not.mp z61)]
  · unfold sg0; rw [if_pos (Classical.not_not.mp z43)]
  · unfold sg0; rw [if_neg z43, if_pos (Classical.not_not.mp z59)]
  · unfold sg0; rw [if_pos (Classical.not_not.mp z43)]
/-- the keys as they were made -/
def KD (h : XH) : Prop := ∀ k, k < 16 → xL h 76 k = oL (enc 27 (KW (KRi k)))
theorem l_keys {nm : List Nat} {i t : Nat} (hs : Sh h) (W : KD h) (ho : okN nm) (hl : nm.length ≤ 8) (kk : Ev 179 179 [.ref 69, .int (nI i), .null, .int (nI t), .long (oL (enc 27 nm)), .null, .int (nI (krF nm 16)), .null] [] h Q) : ∀ (k w : Nat), w + k = 16 → Ev 179 146 [.ref 69, .int (nI i), .null, .int (nI t), .long (oL (enc 27 nm)), .null, .int (nI (krF nm w)), .int (nI w)] [] h Q := by
  intro k
  induction k with
  | zero =>
    intro w hk
    refine B_179_146 hs ?_
    try simp (disch := omega) only [lit, tn_nI, z_inb, nI_add, pk_mul, z_le, z_nle, z_lt, z_nlt, z_ne, z_m1, pk_sub, xI_ss, xI_sd, xI_n, eq_self, true_and, and_true, and_self, not_true_eq_false, not_false_eq_true, false_implies, true_implies, implies_true, Classical.not_not, forall_const, true_or, or_true, false_or, or_false, false_and, and_false, if_true, if_false, ite_true, ite_false, reduceIte, reduceCtorEq]
    rw [show w = 16 by omega]
    exact kk
  | succ k ih =>
    intro w hk
    have kw := KW_ok (KRi w) (KRi_lt w (by omega))
    refine B_179_146 hs ?_
    rw [tn_nI (show w < 2 ^ 31 by omega), W w (by omega), lg_cmp_eq]
    have hiff : oL (enc 27 (KW (KRi w))) = oL (enc 27 nm) ↔ KW (KRi w) = nm := by
      constructor
      · intro q
        have h1 := enc27_lt kw.1 (by omega)
        have h2 := enc27_lt ho hl
        exact enc_inj (by decide) _ _ kw.1 ho (oL_inj (by omega) (by omega) q)
      · intro q; rw [q]
    have e : krF nm (w + 1) = if KW (KRi w) = nm then 20 + w else krF nm w := rfl
    have nx := ih (w + 1) (by omega)
    refine ⟨fun z => absurd z (nI_ge (a := w) (b := 16) (by omega) (by decide)), fun _ => ⟨inb (by omega) (by decide), fun z => ?_, fun z => ?_⟩⟩
    · rw [e, if_neg (fun q => z (hiff.mpr q))] at nx
      refine B_179_173 hs ?_
      rw [nI_1]
      exact nx
    · rw [e, if_pos (hiff.mp (Classical.not_not.mp z))] at nx
      refine B_179_173 hs ?_
      rw [nI_1, show (20 : Int32) + nI w = nI (20 + w) from nI_add 20 w]
      exact nx
theorem l_letR {i m : Nat} (hs : Sh h) (W : KD h) (X : XB B n h) (hm : m ≤ 400) (e10 : xI h 69 10 = nI m) (hi : i < n) (hl : isL (B i) = true) (pm : pS B n m = i) (kk : ∀ x : Int64, (kS B n m = 2 → x = oL (enc 27 (nS B n m))) → Ev 179 291 [.ref 69, .int (nI (tE B n i)), .null, .null, .null, .null, .null, .null] [] (put4 h m (nI (rkd (kS B n m))) (nI i) 0 x) Q) :
    ∀ (k t : Nat) (x : Int64), i + t + k = n → (∀ a, a < t → isL (B (i + a)) = true) → enR isL B n i = enR isL B n (i + t) → (t ≤ 8 → x = oL (enc 27 (ltS B i t))) → Ev 179 85 [.ref 69, .int (nI i), .null, .int (nI t), .long x, .null, .null, .null] [] h Q := by
  have n2 := X.1
  have eE : tE B n i = enR isL B n i := by unfold tE; rw [if_pos hl]
  have km : kS B n m = if 8 < tE B n i - i then 1 else kwF (ltS B i (tE B n i - i)) 16 0 := by unfold kS; rw [pm, if_pos hi]; unfold tK; rw [if_pos hl]
  have tok : ∀ (t : Nat) (x : Int64) (c : Int32), tE B n i = i + t → c = nI (rkd (kS B n m)) → (kS B n m = 2 → x = oL (enc 27 (nS B n m))) → Ev 179 179 [.ref 69, .int (nI i), .null, .int (nI t), .long x, .null, .int c, .null] [] h Q := by
    intro t x c et ec ex
    subst ec
    refine B_179_179 hs (c_token hs (by omega) e10 ⟨(put4_rx (h0 := h) Rx.rf).sh hs (by decide), ?_⟩)
    rw [nI_add, ← et]
    exact kk x ex
  have done : ∀ (t : Nat) (x : Int64), i + t ≤ n → tE B n i = i + t → (∀ a, a < t → isL (B (i + a)) = true) → (t ≤ 8 → x = oL (enc 27 (ltS B i t))) → ((nI t ≤ 8) → ((7 < nI t) → Ev 179 179 [.ref 69, .int (nI i), .null, .int (nI t), .long x, .null, .int 1, .null] [] h Q) ∧ (¬ (7 < nI t) → Ev 179 146 [.ref 69, .int (nI i), .null, .int (nI t), .long x, .null, .int 1, .int 0] [] h Q)) ∧ (¬ (nI t ≤ 8) → ((7 < nI t) → Ev 179 179 [.ref 69, .int (nI i), .null, .int (nI t), .long x, .null, .int 3, .null] [] h Q) ∧ (¬ (7 < nI t) → Ev 179 146 [.ref 69, .int (nI i), .null, .int (nI t), .long x, .null, .int 3, .int 0] [] h Q)) := by
    intro t x htn et ha hx
    rw [et, Nat.add_sub_cancel_left] at km
    have nm : nS B n m = ltS B i t := by unfold nS; rw [pm, et, Nat.add_sub_cancel_left]
    refine ⟨fun z => ?_, fun z => ?_⟩
    · have t8 : t ≤ 8 := (nI_leI (b := 8) (by omega) (by decide)).mp z
      have hx := hx t8
      subst hx
      rw [if_neg (by omega)] at km
      refine ⟨fun y => ?_, fun y => ?_⟩
      · have t7 : 7 < t := (nI_ltI (a := 7) (by decide) (by omega)).mp y
        have k2 : kS B n m = 2 := by rw [km]; exact kwF_8 (by rw [ltS_len]; omega) 16 0 (by omega)
        exact tok t _ 1 et (by rw [k2]; rfl) (fun _ => by rw [nm])
      · have kr := kr_kw (nm := ltS B i t)
        have := l_keys (i := i) (t := t) hs W (ltS_ok t ha) (by rw [ltS_len]; exact t8) (tok t _ (nI (krF (ltS B i t) 16)) et (by rw [kr, km]) (fun _ => by rw [nm])) 16 0 (by decide)
        exact this
    · have t8 : 8 < t := by
        apply Classical.byContradiction
        intro q
        exact z (nI_le (b := 8) (by omega) (by decide))
      rw [if_pos t8] at km
      refine ⟨fun _ => tok t x 3 et (by rw [km]; rfl) (fun q => by rw [km] at q; cases q), fun y => absurd (nI_lt (a := 7) (by omega) (by omega)) y⟩
  intro k
  induction k with
  | zero =>
    intro t x hk ha ee hx
    have eb : bA B n (i + t) = 0 := by unfold bA; rw [if_neg (by omega)]
    refine B_179_85 hs ?_
    rw [nI_add]
    refine c_byteAt hs X (by omega) ⟨hs, ?_⟩
    rw [eb]
    refine c_letR hs (by decide) (fun q => by cases q) (fun _ => ⟨hs, fun _ => ?_, fun z => absurd rfl z⟩)
    exact done t x (by omega) (by rw [eE, ee, enR_0 (fun q => by omega)]) ha hx
  | succ k ih =>
    intro t x hk ha ee hx
    have eb : bA B n (i + t) = B (i + t) := by unfold bA; rw [if_pos (by omega)]
    refine B_179_85 hs ?_
    rw [nI_add]
    refine c_byteAt hs X (by omega) ⟨hs, ?_⟩
    rw [eb]
    refine c_letR hs (X.2.1 _) (fun hL => ⟨hs, fun z => absurd z (by decide), fun _ => ?_⟩) (fun hL => ⟨hs, fun _ => ?_, fun z => absurd rfl z⟩)
    · have ha' : ∀ a, a < t + 1 → isL (B (i + a)) = true := fun a hA => by
        by_cases e : a = t
        · rw [e]; exact hL
        · exact ha a (by omega)
      have ee' : enR isL B n i = enR isL B n (i + (t + 1)) := by rw [ee]; exact enR_1 (by omega) hL
      refine ⟨fun z => ?_, fun z => ?_⟩
      · have t8 : 8 ≤ t := (nI_leI (a := 8) (by decide) (by omega)).mp z
        refine B_179_118 hs ?_
        rw [nI_1]
        exact ih (t + 1) x (by omega) ha' ee' (fun q => absurd q (by omega))
      · have t8 : t < 8 := by
          apply Classical.byContradiction
          intro q
          exact z (nI_le (a := 8) (by omega) (by omega))
        have hx := hx (by omega)
        subst hx
        have hlt := enc27_lt (ltS_ok t ha) (by rw [ltS_len]; omega)
        refine c_byteAt hs X (by omega) ⟨hs, ?_⟩
        rw [eb]
        have n0 : ¬ nI (B (i + t)) = 0 := fun q => by
          have := (nI_eq (a := B (i + t)) (b := 0) (by have := X.2.1 (i + t); omega) (by decide)).mp q
          rw [this] at hL
          cases hL
        refine B_160_0 hs ⟨fun _ => ⟨_, rfl, hs, ?_⟩, fun q => absurd n0 q⟩
        rw [ap_oL hlt (X.2.1 _) hL]
        refine B_179_118 hs ?_
        rw [nI_1]
        exact ih (t + 1) _ (by omega) ha' ee' (fun _ => rfl)
    · exact done t x (by omega) (by rw [eE, ee, enR_0 (fun q => by rw [q.2] at hL; cases hL)]) ha hx
theorem dvI {a k : Nat} (ha : a < 2 ^ 20) (hl : isD k = true) : ((10 * nI a) + nI k) - 48 = nI (10 * a + (k - 48)) := by
  unfold isD at hl
  simp at hl
  rw [show (10 : Int32) * nI a = nI (10 * a) from pk_mul 10 a, nI_add, show (48 : Int32) = nI 48 from rfl, pk_sub (by omega)]
  rw [show 10 * a + k - 48 = 10 * a + (k - 48) by omega]
theorem l_digR {i m : Nat} (hs : Sh h) (X : XB B n h) (hm : m ≤ 400) (e10 : xI h 69 10 = nI m) (hi : i < n) (hl0 : isL (B i) = false) (hl : isD (B i) = true) (pm : pS B n m = i) (kk : ∀ v : Int32, (kS B n m = 3 → v = nI (vS B n m)) → Ev 179 291 [.ref 69, .int (nI (tE B n i)), .null, .null, .null, .null, .null, .null] [] (put4 h m (nI (rkd (kS B n m))) (nI i) v 0) Q) :
    ∀ (k t : Nat) (v : Int32), i + t + k = n → (∀ a, a < t → isD (B (i + a)) = true) → enR isD B n i = enR isD B n (i + t) → (t ≤ 4 → v = nI (dvS B i t)) → Ev 179 208 [.ref 69, .int (nI i), .null, .int (nI t), .int v, .null, .null, .null] [] h Q := by
  have n2 := X.1
  have nl : ¬ isL (B i) = true := by rw [hl0]; decide
  have eE : tE B n i = enR isD B n i := by unfold tE; rw [if_neg nl, if_pos hl]
  have km : kS B n m = if 4 < tE B n i - i then 1 else 3 := by unfold kS; rw [pm, if_pos hi]; unfold tK; rw [if_neg nl, if_pos hl]
  have s4 : ∀ (c v : Int32), Sh (put4 h m c (nI i) v 0) := fun c v => (put4_rx (h0 := h) Rx.rf).sh hs (by decide)
  have done : ∀ (t : Nat) (v : Int32), i + t ≤ n → tE B n i = i + t → (t ≤ 4 → v = nI (dvS B i t)) → ((nI t ≤ 4) → ClV 181 [.ref 69, .int 2, .int (nI i), .int v, .long 0] h (fun h5 => Sh h5 ∧ (Ev 179 291 [.ref 69, .int (nI i + nI t), .null, .null, .null, .null, .null, .null] [] h5 Q))) ∧ (¬ (nI t ≤ 4) → ClV 181 [.ref 69, .int 3, .int (nI i), .int v, .long 0] h (fun h7 => Sh h7 ∧ (Ev 179 291 [.ref 69, .int (nI i + nI t), .null, .null, .null, .null, .null, .null] [] h7 Q))) := by
    intro t v htn et hv
    rw [nI_add, ← et]
    rw [et, Nat.add_sub_cancel_left] at km
    refine ⟨fun z => ?_, fun z => ?_⟩
    · have t4 : t ≤ 4 := (nI_leI (b := 4) (by omega) (by decide)).mp z
      rw [if_neg (by omega)] at km
      have := kk v (fun _ => by rw [hv t4]; unfold vS; rw [pm, et, Nat.add_sub_cancel_left])
      rw [km] at this
      exact c_token hs (by omega) e10 ⟨s4 _ _, this⟩
    · have t4 : 4 < t := by
        apply Classical.byContradiction
        intro q
        exact z (nI_le (b := 4) (by omega) (by decide))
      rw [if_pos t4] at km
      have := kk v (fun q => by rw [km] at q; cases q)
      rw [km] at this
      exact c_token hs (by omega) e10 ⟨s4 _ _, this⟩
  intro k
  induction k with
  | zero =>
    intro t v hk ha ee hv
    have eb : bA B n (i + t) = 0 := by unfold bA; rw [if_neg (by omega)]
    have d := done t v (by omega) (by rw [eE, ee, enR_0 (fun q => by omega)]) hv
    refine B_179_208 hs ?_
    rw [nI_add]
    rw [nI_add] at d
    refine c_byteAt hs X (by omega) ⟨hs, ?_⟩
    rw [eb]
    exact c_dgtR hs (by decide) (fun q => by cases q) (fun _ => ⟨hs, fun _ => d, fun z => absurd rfl z⟩)
  | succ k ih =>
    intro t v hk ha ee hv
    have eb : bA B n (i + t) = B (i + t) := by unfold bA; rw [if_pos (by omega)]
    refine B_179_208 hs ?_
    rw [nI_add]
    refine c_byteAt hs X (by omega) ⟨hs, ?_⟩
    rw [eb]
    refine c_dgtR hs (X.2.1 _) (fun hL => ⟨hs, fun z => absurd z (by decide), fun _ => ?_⟩) (fun hL => ⟨hs, fun _ => ?_, fun z => absurd rfl z⟩)
    · have ha' : ∀ a, a < t + 1 → isD (B (i + a)) = true := fun a hA => by
        by_cases e : a = t
        · rw [e]; exact hL
        · exact ha a (by omega)
      have ee' : enR isD B n i = enR isD B n (i + (t + 1)) := by rw [ee]; exact enR_1 (by omega) hL
      refine ⟨fun z => ?_, fun z => ?_⟩
      · have t8 : 4 ≤ t := (nI_leI (a := 4) (by decide) (by omega)).mp z
        refine B_179_244 hs ?_
        rw [nI_1]
        exact ih (t + 1) v (by omega) ha' ee' (fun q => absurd q (by omega))
      · have t8 : t < 4 := by
          apply Classical.byContradiction
          intro q
          exact z (nI_le (a := 4) (by omega) (by omega))
        have hv := hv (by omega)
        subst hv
        have hlt := dvS_lt t ha
        have h10 : 10 ^ t ≤ 10 ^ 4 := Nat.pow_le_pow_right (by decide) (by omega)
        refine c_byteAt hs X (by omega) ⟨hs, ?_⟩
        rw [eb, dvI (by omega) hL]
        refine B_179_244 hs ?_
        rw [nI_1]
        exact ih (t + 1) _ (by omega) ha' ee' (fun _ => rfl)
    · have d := done t v (by omega) (by rw [eE, ee, enR_0 (fun q => by rw [q.2] at hL; cases hL)]) hv
      rw [nI_add] at d
      exact d
theorem l_rcut {h0 : XH} (hs : Sh h0) (W : KD h0) (X : XB B n h0) (kk : ∀ h1, Rx SRt [75] [10] h0 h1 → rTk B n h1 → Q .null h1) :
    ∀ (f i m : Nat) (h : XH), n ≤ i + f → i ≤ n → Rx SRt [75] [10] h0 h → m ≤ 401 → pS B n m = enR isW B n i → xI h 69 10 = nI m → (∀ j, j < m → rT1 B n j h) → Ev 179 7 [.ref 69, .int (nI i), .null, .null, .null, .null, .null, .null] [] h Q := by
  have n2 := X.1
  have stop : ∀ (m : Nat) (h : XH), Rx SRt [75] [10] h0 h → 400 < m → (∀ j, j < m → rT1 B n j h) → Q .null h := fun m h g hm hT => kk h g (fun j hj => hT j (by have := hj.1; omega))
  intro f
  induction f with
  | zero =>
    intro i m h hf hi g hm pm e10 hT
    have s' := g.sh hs (by decide)
    have X' : XB B n h := ⟨X.1, X.2.1, by rw [g.f (by decide)]; exact X.2.2.1, fun i hi => by rw [g.at (by decide) (by decide)]; exact X.2.2.2 i hi⟩
    have pn : pS B n m = n := by rw [pm, enR_0 (fun q => by omega)]; omega
    have k0 : kS B n m = 0 := by unfold kS; rw [if_neg (by omega)]
    refine B_179_7 s' ?_
    rw [e10]
    refine ⟨fun z => stop m h g ((nI_ltI (a := 400) (by decide) (by omega)).mp z) hT, fun z => c_byteAt s' X' (by omega) ⟨s', ?_⟩⟩
    have m4 : m ≤ 400 := by
      apply Classical.byContradiction
      intro q
      exact z (nI_lt (a := 400) (by omega) (by omega))
    rw [X'.2.2.1]
    refine ⟨fun z => absurd z (nI_nlt (by omega) (by omega)), fun _ => c_token s' (by omega) e10 ⟨(put4_rx (h0 := h) Rx.rf).sh s' (by decide), kk _ (put4_rx g) (fun j hj => ?_)⟩⟩
    refine put4_T hT (by rw [k0]; rfl) (by rw [pn]) (fun q => by rw [k0] at q; cases q) (fun q => by rw [k0] at q; cases q) j ?_
    apply Classical.byContradiction
    intro q
    exact (hj.2 m (by omega)).1 k0
  | succ f ih =>
    intro i m h hf hi g hm pm e10 hT
    have s' := g.sh hs (by decide)
    have W' : KD h := fun w hw => by rw [g.al (by decide)]; exact W w hw
    have X' : XB B n h := ⟨X.1, X.2.1, by rw [g.f (by decide)]; exact X.2.2.1, fun i hi => by rw [g.at (by decide) (by decide)]; exact X.2.2.2 i hi⟩
    refine B_179_7 s' ?_
    rw [e10]
    refine ⟨fun z => stop m h g ((nI_ltI (a := 400) (by decide) (by omega)).mp z) hT, fun z => c_byteAt s' X' (by omega) ⟨s', ?_⟩⟩
    have m4 : m ≤ 400 := by
      apply Classical.byContradiction
      intro q
      exact z (nI_lt (a := 400) (by omega) (by omega))
    rw [X'.2.2.1]
    refine ⟨fun zi => ?_, fun zi => ?_⟩
    · have hin : i < n := (nI_ltI (by omega) (by omega)).mp zi
      have eb : bA B n i = B i := by unfold bA; rw [if_pos hin]
      rw [eb]
      have b256 := X.2.1 i
      have blank : isW (B i) = true → Ev 179 67 [.ref 69, .int (nI i), .null, .null, .null, .null, .null, .null] [] h Q := by
        intro q
        refine B_179_67 s' ?_
        rw [nI_1]
        refine B_179_291 s' (ih (i + 1) m h (by omega) (by omega) g hm (by rw [pm]; exact enR_1 hin q) e10 hT)
      have isw : ∀ a, (a = 9 ∨ a = 10 ∨ a = 13 ∨ a = 32) → nI (B i) = nI a → isW (B i) = true := fun a ha e => by
        have := (nI_eq (a := B i) (b := a) (by omega) (by omega)).mp e
        rw [this]
        rcases ha with q | q | q | q <;> subst q <;> rfl
      refine ⟨fun q => blank (isw 9 (by omega) q), fun q9 => ⟨fun q => blank (isw 10 (by omega) q), fun q10 => ⟨fun q => blank (isw 13 (by omega) q), fun q13 => ⟨fun q32 => ?_, fun q => blank (isw 32 (by omega) (Classical.not_not.mp q))⟩⟩⟩⟩
      have nb : isW (B i) = false := by
        cases e : isW (B i) with
        | false => rfl
        | true =>
          unfold isW at e
          simp at e
          rcases e with ((e | e) | e) | e <;> rw [e] at q9 q10 q13 q32
          · exact absurd rfl q9
          · exact absurd rfl q10
          · exact absurd rfl q13
          · exact absurd rfl q32
      have pmi : pS B n m = i := by rw [pm, enR_0 (fun q => by rw [q.2] at nb; cases nb)]
      have km : kS B n m = tK B n i := by unfold kS; rw [pmi, if_pos hin]
      have te := tE_in (B := B) hin
      have nx : pS B n (m + 1) = enR isW B n (tE B n i) := by rw [pS_s (by omega), pmi]
      refine c_letR s' b256 (fun hL => ⟨s', fun z => absurd z (by decide), fun _ => ?_⟩) (fun hL => ⟨s', fun _ => ?_, fun z => absurd rfl z⟩)
      · refine l_letR s' W' X' m4 e10 hin hL pmi (fun x ex => ?_) (n - i) 0 0 (by omega) (fun a ha => absurd ha (by omega)) rfl (fun _ => rfl)
        have gz := put4_rx (m := m) (k := nI (rkd (kS B n m))) (w := nI i) (v := 0) (x := x) g
        refine B_179_291 (gz.sh hs (by decide)) (ih (tE B n i) (m + 1) _ (by omega) te.2 gz (by omega) nx put4_10 ?_)
        refine put4_T hT rfl (by rw [pmi]) ex (fun q => ?_)
        rw [km] at q
        unfold tK at q
        rw [if_pos hL] at q
        split at q
        · cases q
        · rcases kwF_r (nm := ltS B i (tE B n i - i)) 16 0 rfl with w | w <;> omega
      · have nl : ¬ isL (B i) = true := by rw [hL]; decide
        refine c_dgtR s' b256 (fun hD => ⟨s', fun z => absurd z (by decide), fun _ => ?_⟩) (fun hD => ⟨s', fun _ => ?_, fun z => absurd rfl z⟩)
        · refine l_digR s' X' m4 e10 hin hL hD pmi (fun v ev => ?_) (n - i) 0 0 (by omega) (fun a ha => absurd ha (by omega)) rfl (fun _ => rfl)
          have gz := put4_rx (m := m) (k := nI (rkd (kS B n m))) (w := nI i) (v := v) (x := 0) g
          refine B_179_291 (gz.sh hs (by decide)) (ih (tE B n i) (m + 1) _ (by omega) te.2 gz (by omega) nx put4_10 ?_)
          refine put4_T hT rfl (by rw [pmi]) (fun q => ?_) ev
          rw [km] at q
          unfold tK at q
          rw [if_neg nl, if_pos hD] at q
          split at q <;> cases q
        · have nd : ¬ isD (B i) = true := by rw [hD]; decide
          have eE : tE B n i = i + 1 := by unfold tE; rw [if_neg nl, if_neg nd]
          have eK : kS B n m = if isS (B i) = true then B i else 1 := by rw [km]; unfold tK; rw [if_neg nl, if_neg nd]
          rw [nI_1]
          refine c_byteAt s' X' (by omega) ⟨s', c_sign s' (by omega) b256 e10 ⟨(put4_rx (h0 := h) Rx.rf).sh s' (by decide), ?_⟩⟩
          have gz := put4_rx (m := m) (k := nI (if isS (B i) = true then rkd (B i) else 3)) (w := nI i) (v := 0) (x := 0) g
          rw [nI_add, ← eE]
          refine B_179_291 (gz.sh hs (by decide)) (ih (tE B n i) (m + 1) _ (by omega) te.2 gz (by omega) nx put4_10 ?_)
          have rk3 : (if isS (B i) = true then rkd (B i) else 3) = rkd (kS B n m) := by
            rw [eK]
            split
            · rfl
            · rfl
          rw [rk3]
          have k23 : kS B n m ≠ 2 ∧ kS B n m ≠ 3 := by
            rw [eK]
            split
            · rename_i hS
              unfold isS at hS
              simp at hS
              omega
            · omega
          exact put4_T hT rfl (by rw [pmi]) (fun q => absurd q k23.1) (fun q => absurd q k23.2)
    · have hin : ¬ i < n := fun q => zi (nI_lt q (by omega))
      have pn : pS B n m = n := by rw [pm, enR_0 (fun q => by omega)]; omega
      have k0 : kS B n m = 0 := by unfold kS; rw [if_neg (by omega)]
      refine c_token s' (by omega) e10 ⟨(put4_rx (h0 := h) Rx.rf).sh s' (by decide), kk _ (put4_rx g) (fun j hj => ?_)⟩
      refine put4_T hT (by rw [k0]; rfl) (by rw [pn]) (fun q => by rw [k0] at q; cases q) (fun q => by rw [k0] at q; cases q) j ?_
      apply Classical.byContradiction
      intro q
      exact (hj.2 m (by omega)).1 k0
theorem c_cutR {h0 : XH} {K : XH → Prop} (hs : Sh h0) (W : KD h0) (X : XB B n h0) (k : ∀ h1, Rx SRt [75] [10] h0 h1 → rTk B n h1 → K h1) : ClV 179 [.ref 69] h0 K := by
  have f4 : Rx SRt [75] [10] h0 (xsI h0 69 10 (nI 0)) := Rx.rf.fld (by decide)
  refine B_179_0 hs (l_rcut (B := B) (n := n) (f4.sh hs (by decide)) (W : KD (xsI h0 69 10 (nI 0))) ⟨X.1, X.2.1, by rw [xI_sd (by decide)]; exact X.2.2.1, fun i hi => by rw [xI_n (by decide)]; exact X.2.2.2 i hi⟩ (fun h1 f1 c1 => ⟨rfl, k h1 (f4.tr f1) c1⟩) n 0 0 _ (by omega) (by omega) Rx.rf (by omega) rfl xI_ss (fun j hj => absurd hj (by omega)))
end RCUT
