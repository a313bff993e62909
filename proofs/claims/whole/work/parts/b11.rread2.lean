/-! READING, the other side: the call -/
def agS (l : Nat) (I J : Nat → Nat → Int32) : Prop := ∀ a j, wd a ≠ 0 → wd a * l ≤ j ∧ j < wd a * l + wd a → J a j = I a j
/-- tied, by what lies on side l alone -/
def TieS (T I : Nat → Nat → Int32) (l : Nat) : Prop := ∀ J, agS l I J → Tie T J l
/-- all that is known of the other side between calls -/
def RI (T : Nat → Nat → Int32) (l : Nat) (r : Nat → Int32) (n : Nat) (f : Nat → Nat → Int32) (hb : Nat → Bool) (hf : Nat → Nat → Int32) (sn : Nat) (q : Nat → Nat × Nat × Nat) (tl : Nat) (b : Nat → Int32) (pl : Int32) (h : XH) : Prop := (Sh h ∧ xI h 69 18 = nI l ∧ TieS T (rt h) l ∧ tA T) ∧ rq (xI h 108) r ∧ PR n f h ∧ HR hb hf h ∧ SNr T h sn q ∧ TR tl b h ∧ xI h 69 17 = pl ∧ KD h
abbrev SRf : List Nat := [69, 70, 71, 72, 73, 74, 75, 76, 77, 78, 79, 80, 81, 82, 83, 84, 85, 86, 87, 88, 89, 90, 91, 92, 93, 94, 95, 96, 97, 98, 99, 100, 101, 102, 103, 104, 105, 106, 107, 108, 109, 110, 111, 112, 113, 114, 115, 116, 117, 118, 119, 120, 121, 122, 123]
/-- what the other side's doings may change -/
def KR (h h1 : XH) : Prop := Lx SRf SRf h h1
section RR2
variable {s l n pg sn tl : Nat} {B : Nat → Nat} {T T' I J : Nat → Nat → Int32} {b r : Nat → Int32} {h h0 h1 h2 : XH} {Q : Value → XH → Prop} {f hf : Nat → Nat → Int32} {hb : Nat → Bool} {q : Nat → Nat × Nat × Nat} {pl : Int32} {F : List Fa} {G : List Pg} {LW : List Lw} {BR : List Br} {sl sd a : Nat} {cs rs : List Cd} {rz : Nat → Nat}
theorem TieS.tie (t : TieS T I l) : Tie T I l := t I (fun _ _ _ _ => rfl)
theorem TieS.up (t : TieS T I l) (g : agS l I J) : TieS T J l := fun J' g' => t J' (fun a j hw hj => (g' a j hw hj).trans (g a j hw hj))
theorem wd_rng {c : Nat} (h : wd c ≠ 0) : 79 ≤ c ∧ c ≤ 104 := by
  unfold wd at h
  split at h
  · omega
  · split at h
    · omega
    · split at h
      · omega
      · split at h
        · omega
        · split at h
          · omega
          · split at h
            · omega
            · exact absurd rfl h
theorem rt_at {c : Nat} (h : wd c ≠ 0) (x : XH) : rt x c = xI x c := by
  have := wd_rng h
  unfold rt
  rw [if_pos this]
theorem oth_ag (hs : s < 2) (o : othS s h h1) : agS (1 - s) (rt h) (rt h1) := by
  intro c j hw hj
  rw [rt_at hw, rt_at hw]
  refine o c j hw (fun z => ?_)
  have : s = 0 ∨ s = 1 := by omega
  rcases this with e | e <;> subst e
  · have h1 : wd c * (1 - 0) = wd c := by rw [show 1 - 0 = 1 from rfl]; omega
    rw [h1] at hj
    omega
  · have h1 : wd c * (1 - 1) = 0 := by rw [show 1 - 1 = 0 from rfl]; omega
    rw [h1] at hj
    omega
theorem RI.m (i : RI T l r n f hb hf sn q tl b pl h) : RM T l h := ⟨i.1.1, i.1.2.1, i.1.2.2.1.tie, i.1.2.2.2⟩
theorem qn_lt {p c : Nat} (hG : G.length ≤ 6) (hg : ∀ p, p < G.length → (pgA G p).2.2.length ≤ 6) (hp : p < G.length) (hc : c < (pgA G p).2.2.length) : qn G p + c < 36 := by
  have h1 := qn_le hg (p + 1) (by omega)
  have e : qn G (p + 1) = qn G p + (pgA G p).2.2.length := rfl
  omega
theorem JR.ag (j : JR I s rz rs (F, G, LW, BR, sl, sd, pg)) (hF : F.length ≤ 8) (hG : G.length ≤ 6) (hg : ∀ p, p < G.length → (pgA G p).2.2.length ≤ 6) (g : agS s I J) : JR J s rz rs (F, G, LW, BR, sl, sd, pg) := by
  obtain ⟨⟨j79, j83, j84, j92, j93⟩, jf, jp, jl, ⟨jb0, jb⟩, jr0, jr⟩ := j
  have jf : ∀ f, f < F.length → I 80 (8 * s + f) = nI (faA F f).2.1 ∧ I 81 (8 * s + f) = nI (faA F f).2.2.1 ∧ I 82 (8 * s + f) = nI (faA F f).2.2.2 := jf
  have jp : ∀ p, p < G.length → I 85 (6 * s + p) = nI (pgA G p).2.1 ∧ I 86 (6 * s + p) = nI (36 * s + qn G p) ∧ I 87 (6 * s + p) = nI (36 * s + qn G (p + 1)) ∧ ∀ c, c < (pgA G p).2.2.length → I 88 (36 * s + qn G p + c) = nI (cmA (pgA G p).2.2 c).2.2.2.2 ∧ I 89 (36 * s + qn G p + c) = nI (420 * s + (cmA (pgA G p).2.2 c).2.1) ∧ I 90 (36 * s + qn G p + c) = nI (420 * s + (cmA (pgA G p).2.2 c).2.2.1) ∧ I 91 (36 * s + qn G p + c) = nI (420 * s + (cmA (pgA G p).2.2 c).2.2.2.1) := jp
  have jb0 : BR.length ≤ 130 := jb0
  have jb : atB I s 0 BR := jb
  have g1 : ∀ c, wd c = 1 → J c s = I c s := fun c hc => g c s (by rw [hc]; decide) (by rw [hc]; omega)
  have g8 : ∀ c f, wd c = 8 → f < 8 → J c (8 * s + f) = I c (8 * s + f) := fun c f hc hf => g c _ (by rw [hc]; decide) (by rw [hc]; omega)
  have g6 : ∀ c f, wd c = 6 → f < 6 → J c (6 * s + f) = I c (6 * s + f) := fun c f hc hf => g c _ (by rw [hc]; decide) (by rw [hc]; omega)
  have g36 : ∀ c f, wd c = 36 → f < 36 → J c (36 * s + f) = I c (36 * s + f) := fun c f hc hf => g c _ (by rw [hc]; decide) (by rw [hc]; omega)
  have g130 : ∀ c f, wd c = 130 → f < 130 → J c (130 * s + f) = I c (130 * s + f) := fun c f hc hf => g c _ (by rw [hc]; decide) (by rw [hc]; omega)
  have g420 : ∀ c f, wd c = 420 → f < 420 → J c (420 * s + f) = I c (420 * s + f) := fun c f hc hf => g c _ (by rw [hc]; decide) (by rw [hc]; omega)
  have bl : ∀ (E : List Br) (i : Nat), i + E.length ≤ 130 → atB I s i E → atB J s i E := by
    intro E
    induction E with
    | nil => intro i _ _; trivial
    | cons c t ih =>
      intro i hi h
      have hi : i + (t.length + 1) ≤ 130 := hi
      refine ⟨?_, ih (i + 1) (by omega) h.2⟩
      unfold bq
      rw [g130 98 i (by decide) (by omega), g130 99 i (by decide) (by omega), g130 100 i (by decide) (by omega), g130 101 i (by decide) (by omega), g130 102 i (by decide) (by omega)]
      exact h.1
  have rl : ∀ (E : List Cd) (i : Nat), i + E.length ≤ 420 → atR (I 103) (I 104) rz (420 * s + i) E → atR (J 103) (J 104) rz (420 * s + i) E := by
    intro E
    induction E with
    | nil => intro i _ _; trivial
    | cons c t ih =>
      intro i hi h
      have hi : i + (t.length + 1) ≤ 420 := hi
      refine ⟨?_, ih (i + 1) (by omega) h.2⟩
      rw [g420 103 i (by decide) (by omega), g420 104 i (by decide) (by omega)]
      exact h.1
  refine ⟨⟨by rw [g1 79 (by decide)]; exact j79, by rw [g1 83 (by decide)]; exact j83, by rw [g1 84 (by decide)]; exact j84, by rw [g1 92 (by decide)]; exact j92, by rw [g1 93 (by decide)]; exact j93⟩, fun f hf => ?_, fun p hp => ?_, fun f hf => ?_, ⟨jb0, bl BR 0 (by omega) jb⟩, jr0, rl rs 0 (by omega) jr⟩
  · have hf : f < F.length := hf
    rw [g8 80 f (by decide) (by omega), g8 81 f (by decide) (by omega), g8 82 f (by decide) (by omega)]
    exact jf f hf
  · have hp : p < G.length := hp
    obtain ⟨q1, q2, q3, q4⟩ := jp p hp
    refine ⟨by rw [g6 85 p (by decide) (by omega)]; exact q1, by rw [g6 86 p (by decide) (by omega)]; exact q2, by rw [g6 87 p (by decide) (by omega)]; exact q3, fun c hc => ?_⟩
    have hc : c < (pgA G p).2.2.length := hc
    have ql := qn_lt hG hg hp hc
    have e : 36 * s + qn G p + c = 36 * s + (qn G p + c) := by omega
    have q5 := q4 c hc
    rw [e] at q5
    show J 88 (36 * s + qn G p + c) = _ ∧ J 89 (36 * s + qn G p + c) = _ ∧ J 90 (36 * s + qn G p + c) = _ ∧ J 91 (36 * s + qn G p + c) = _
    rw [e, g36 88 _ (by decide) ql, g36 89 _ (by decide) ql, g36 90 _ (by decide) ql, g36 91 _ (by decide) ql]
    exact q5
  · rw [g8 96 f (by decide) hf, g8 97 f (by decide) hf]
    exact jl f hf
theorem atB_all : ∀ (E : List Br) (i : Nat), (∀ j, j < E.length → bq I s (i + j) (brA E j)) → atB I s i E := by
  intro E
  induction E with
  | nil => intro i _; trivial
  | cons c t ih =>
    intro i h
    refine ⟨h 0 (Nat.succ_pos _), ih (i + 1) (fun j hj => ?_)⟩
    have := h (j + 1) (by show j + 1 < t.length + 1; omega)
    rw [show i + 1 + j = i + (j + 1) by omega]
    exact this
/-- what was told, with names found, as the other side holds it -/
theorem rST.jr {NM : List (List Nat × Nat)} (x : rST s a none (F, G, LW, BR, sl, sd, pg) h) (ha : a ≤ 400) (r4 : rs.length ≤ 400) (ar : atR (xI h 103) (xI h 104) rz (420 * s) rs) : JR (rt h) s rz rs (F, G, LW, BR, sl, sd, pg) := by
  obtain ⟨x1, x2, ⟨w, w1, w2, w3⟩, x4, ⟨b1, b2, b3⟩, x6, x7⟩ := x
  have b2 : 5 * BR.length ≤ a := b2
  have R : ∀ c, 79 ≤ c ∧ c ≤ 104 → rt h c = xI h c := fun c hc => by unfold rt; rw [if_pos hc]
  unfold JR
  rw [R 79 (by decide), R 80 (by decide), R 81 (by decide), R 82 (by decide), R 83 (by decide), R 84 (by decide), R 85 (by decide), R 86 (by decide), R 87 (by decide), R 88 (by decide), R 89 (by decide), R 90 (by decide), R 91 (by decide), R 92 (by decide), R 93 (by decide), R 96 (by decide), R 97 (by decide), R 103 (by decide), R 104 (by decide)]
  refine ⟨⟨x2.2.1, by rw [w2, w3 rfl], x4.2.1, x7.1, x7.2⟩, x2.2.2, fun p hp => ?_, x6 rfl, ⟨show BR.length ≤ 130 by omega, atB_all BR 0 (fun j hj => ?_)⟩, r4, ar⟩
  · have := x4.2.2.2 p hp
    exact ⟨this.2.1, this.2.2.1, this.2.2.2.1, fun c hc => this.2.2.2.2 c hc⟩
  · unfold bq
    rw [R 98 (by decide), R 99 (by decide), R 100 (by decide), R 101 (by decide), R 102 (by decide), Nat.zero_add]
    exact b3 j hj
end RR2
