/-! ROWS THAT GROW: the room that they take, and what else stays -/
def gl (h : XH) (q : Nat × Nat × Nat × Nat) : Nat := xN h (xR h q.1 q.2.1)
def p2 (n : Nat) : Prop := ∃ a, a ≤ 16 ∧ n = 2 ^ a
def okL (q : Nat × Nat × Nat × Nat) (n : Nat) : Prop := if q.1 = 49 then n = 1 ∨ n = 245 else if q.2.1 = 11 ∨ q.2.1 = 12 then n = 1 ∨ n = 4099 else p2 n
def RmOk (h : XH) : Prop := xS h ≤ 40000 + 2 * (shG.map (gl h)).sum ∧ xT h ≤ 124 + (shG.map (gl h)).sum ∧ ∀ q ∈ shG, okL q (gl h q)
theorem sum_up {α : Type} {f g : α → Nat} {a : α} : ∀ (l : List α), l.Nodup → a ∈ l → (∀ x ∈ l, x ≠ a → f x = g x) → (l.map f).sum + g a = (l.map g).sum + f a := by
  intro l
  induction l with
  | nil => intro _ h; cases h
  | cons b l ih =>
    intro hn hm he
    have hn' := List.nodup_cons.mp hn
    simp only [List.map_cons, List.sum_cons]
    rcases List.mem_cons.mp hm with e | e
    · subst e
      have e2 : l.map f = l.map g := List.map_congr_left (fun x hx => he x (List.mem_cons_of_mem _ hx) (fun q => hn'.1 (by rw [← q]; exact hx)))
      rw [e2]
      omega
    · have hb : b ≠ a := fun q => hn'.1 (by rw [q]; exact e)
      have := ih hn'.2 e (fun x hx => he x (List.mem_cons_of_mem _ hx))
      rw [he b List.mem_cons_self hb]
      omega
theorem xR_s {h : XH} {a j v b i : Nat} : xR (xsR h a j v) b i = if b = a ∧ i = j then v else xR h b i := by
  show up h.2.1 a (up (h.2.1 a) j v) b i = _
  by_cases e : b = a
  · subst e
    rw [up_same]
    by_cases e2 : i = j
    · subst e2; rw [up_same, if_pos ⟨rfl, rfl⟩]
    · rw [up_ne e2, if_neg (fun q => e2 q.2)]
  · rw [up_ne e, if_neg (fun q => e q.1)]
theorem g_keys : (∀ p ∈ shR, ∀ q ∈ shG, ¬ (p.1 = q.1 ∧ p.2.1 = q.2.1)) ∧ (∀ q ∈ shG, q.1 ≠ 34 ∧ q.1 ≠ 4) ∧ (∀ q ∈ shG, ∀ q' ∈ shG, q'.1 = q.1 ∧ q'.2.1 = q.2.1 → q' = q) ∧ shG.Nodup := by decide
theorem sh_R {h : XH} (s : Sh h) {q : Nat × Nat × Nat × Nat} (hq : q ∈ shG) {v : Nat} (hk : xK h v = q.2.2.1) (hv : 124 ≤ v) (hlt : v < xT h) (hnew : ∀ q' ∈ shG, xR h q'.1 q'.2.1 ≠ v) : Sh (xsR h q.1 q.2.1 v) := by
  obtain ⟨k1, k2, k3, k4⟩ := g_keys
  obtain ⟨s1, s2, s3, s4, s5, s6, s7, s8, s9⟩ := s
  have e34 : ∀ a i, a ≠ q.1 → xR (xsR h q.1 q.2.1 v) a i = xR h a i := fun a i ha => by rw [xR_s, if_neg (fun z => ha z.1)]
  refine ⟨s1, s2, fun p hp => ?_, ?_, fun q' hq' => ?_, fun q' hq' q'' hq'' e => ?_, s7, s8, s9⟩
  · rw [xR_s, if_neg (k1 p hp q hq)]; exact s3 p hp
  · rw [e34 34 0 (Ne.symm (k2 q hq).1), e34 4 4 (Ne.symm (k2 q hq).2), e34 4 5 (Ne.symm (k2 q hq).2)]; exact s4
  · rw [xR_s]
    by_cases e : q'.1 = q.1 ∧ q'.2.1 = q.2.1
    · have := k3 q hq q' hq' e
      subst this
      rw [if_pos e]
      exact ⟨hk, Or.inr hv, hlt⟩
    · rw [if_neg e]; exact s5 q' hq'
  · rw [xR_s, xR_s] at e
    by_cases e1 : q'.1 = q.1 ∧ q'.2.1 = q.2.1
    · have t1 := k3 q hq q' hq' e1
      by_cases e2 : q''.1 = q.1 ∧ q''.2.1 = q.2.1
      · rw [t1, k3 q hq q'' hq'' e2]
      · rw [if_pos e1, if_neg e2] at e
        exact absurd e.symm (hnew q'' hq'')
    · by_cases e2 : q''.1 = q.1 ∧ q''.2.1 = q.2.1
      · rw [if_neg e1, if_pos e2] at e
        exact absurd e (hnew q' hq')
      · rw [if_neg e1, if_neg e2] at e
        exact s6 q' hq' q'' hq'' e
/-- a growing row made anew -/
def xgr (h : XH) (q : Nat × Nat × Nat × Nat) (n : Nat) : XH := xsR (xnew h q.2.2.1 n) q.1 q.2.1 (xT h)
section GR
variable {h : XH} {q : Nat × Nat × Nat × Nat} {n : Nat}
theorem new_R {k a : Nat} (ha : a < xT h) : xR (xnew h k n) a = xR h a := up_ne (by omega)
theorem new_I {k a : Nat} (ha : a < xT h) : xI (xnew h k n) a = xI h a := up_ne (by omega)
theorem new_L {k a : Nat} (ha : a < xT h) : xL (xnew h k n) a = xL h a := up_ne (by omega)
theorem new_N {k a : Nat} (ha : a < xT h) : xN (xnew h k n) a = xN h a := up_ne (by omega)
theorem new_K {k a : Nat} (ha : a < xT h) : xK (xnew h k n) a = xK h a := up_ne (by omega)
theorem gr_sh (s : Sh h) (hq : q ∈ shG) : Sh (xgr h q n) := by
  refine sh_R (sh_new s) hq up_same s.2.2.2.2.2.2.1 (Nat.lt_succ_self _) (fun q' hq' => ?_)
  have h1 := s.2.2.2.2.1 q' hq'
  have h2 := sh_lt.2.2.2 q' hq'
  have h7 := s.2.2.2.2.2.2.1
  rw [new_R (by omega)]
  omega
theorem gr_len (s : Sh h) (hq : q ∈ shG) {q' : Nat × Nat × Nat × Nat} (hq' : q' ∈ shG) : gl (xgr h q n) q' = if q' = q then n else gl h q' := by
  have h1 := s.2.2.2.2.1 q' hq'
  have h2 := sh_lt.2.2.2 q' hq'
  have h7 := s.2.2.2.2.2.2.1
  unfold gl xgr
  rw [xR_s]
  by_cases e : q' = q
  · subst e
    rw [if_pos ⟨rfl, rfl⟩, if_pos rfl]
    exact up_same
  · rw [if_neg (fun z => e (g_keys.2.2.1 q hq q' hq' z)), if_neg e, new_R (by omega)]
    exact new_N h1.2.2
theorem gr_rm (s : Sh h) (hq : q ∈ shG) (rm : RmOk h) (hn : 2 * gl h q ≤ n) (ho : okL q n) (h1 : 1 ≤ n) : RmOk (xgr h q n) := by
  obtain ⟨r1, r2, r3⟩ := rm
  have e := sum_up (f := gl (xgr h q n)) (g := gl h) (a := q) shG g_keys.2.2.2 hq (fun x hx hne => by rw [gr_len s hq hx, if_neg hne])
  rw [gr_len s hq hq, if_pos rfl] at e
  refine ⟨?_, ?_, fun q' hq' => ?_⟩
  · show xS h + n ≤ _
    omega
  · show xT h + 1 ≤ 124 + _
    omega
  · rw [gr_len s hq hq']
    by_cases e : q' = q
    · rw [if_pos e, e]; exact ho
    · rw [if_neg e]; exact r3 q' hq'
end GR
/-- cells S, and rows of the fields G, alone have changed; those rows may be new -/
def Hx (S : List Nat) (G : List (Nat × Nat)) (h h1 : XH) : Prop := Sh h1 ∧ (∀ a j, (a, j) ∉ G → a < xT h → xR h1 a j = xR h a j) ∧ (∀ a, a < xT h → a ∉ S → (∀ q ∈ G, a ≠ xR h q.1 q.2) → xI h1 a = xI h a ∧ xL h1 a = xL h a) ∧ (∀ a, a < xT h → xN h1 a = xN h a ∧ xK h1 a = xK h a) ∧ (RmOk h → RmOk h1) ∧ xT h ≤ xT h1 ∧ ∀ q ∈ G, xR h1 q.1 q.2 = xR h q.1 q.2 ∨ xT h ≤ xR h1 q.1 q.2
section HX
variable {S S' : List Nat} {G G' : List (Nat × Nat)} {h h1 h2 : XH}
theorem Hx.rf (s : Sh h) : Hx S G h h := ⟨s, fun _ _ _ _ => rfl, fun _ _ _ _ => ⟨rfl, rfl⟩, fun _ _ => ⟨rfl, rfl⟩, fun r => r, Nat.le_refl _, fun _ _ => Or.inl rfl⟩
theorem Hx.tr (p : Hx S G h h1) (q : Hx S G h1 h2) : Hx S G h h2 := by
  obtain ⟨p1, p2, p3, p4, p5, p6, p7⟩ := p
  obtain ⟨q1, q2, q3, q4, q5, q6, q7⟩ := q
  refine ⟨q1, fun a j hg ha => (q2 a j hg (by omega)).trans (p2 a j hg ha), fun a ha hS hG => ?_, fun a ha => ?_, fun r => q5 (p5 r), by omega, fun g hg => ?_⟩
  · have h3 := p3 a ha hS hG
    have h4 := q3 a (by omega) hS (fun g hg => by
      have := hG g hg
      rcases p7 g hg with z | z
      · rw [z]; exact this
      · omega)
    exact ⟨h4.1.trans h3.1, h4.2.trans h3.2⟩
  · have h3 := p4 a ha
    have h4 := q4 a (by omega)
    exact ⟨h4.1.trans h3.1, h4.2.trans h3.2⟩
  · rcases q7 g hg with z | z
    · rw [z]; exact p7 g hg
    · right; omega
theorem Hx.mono (p : Hx S G h h1) (hS : ∀ a ∈ S, a ∈ S') (hG : ∀ q ∈ G, q ∈ G') (hR : ∀ q ∈ G', q.1 < xT h) : Hx S' G' h h1 := by
  obtain ⟨p1, p2, p3, p4, p5, p6, p7⟩ := p
  refine ⟨p1, fun a j hg ha => p2 a j (fun z => hg (hG _ z)) ha, fun a ha hs hg => p3 a ha (fun z => hs (hS a z)) (fun q hq => hg q (hG q hq)), p4, p5, p6, fun q hq => ?_⟩
  by_cases e : q ∈ G
  · exact p7 q e
  · exact Or.inl (p2 q.1 q.2 e (hR q hq))
theorem gl_c (e1 : xR h1 = xR h) (e2 : xN h1 = xN h) : gl h1 = gl h := by
  funext q
  unfold gl
  rw [e1, e2]
theorem Fx.hx (f : Fx S h h1) (s : Sh h) (hS : 1 ∉ S) : Hx S G h h1 := by
  refine ⟨f.sh s hS, fun a j _ _ => by rw [f.1], fun a _ ha _ => ⟨f.at ha, by rw [f.2.1]⟩, fun a _ => ⟨by rw [f.2.2.2.1], by rw [f.2.2.1]⟩, fun r => ?_, by rw [f.2.2.2.2.1]; exact Nat.le_refl _, fun q _ => Or.inl (by rw [f.1])⟩
  unfold RmOk
  rw [f.2.2.2.2.1, f.2.2.2.2.2.1, gl_c f.1 f.2.2.2.1]
  exact r
theorem Hx.at {a : Nat} (p : Hx S G h h1) (s : Sh h) (ha : a < 124) (hS : a ∉ S) (hG : ∀ q ∈ G, q ∈ shG.map (fun x => (x.1, x.2.1))) (hc : a ∉ shG.map (fun x => x.2.2.2)) : xI h1 a = xI h a := by
  refine (p.2.2.1 a (by have := s.2.2.2.2.2.2.1; omega) hS (fun q hq e => ?_)).1
  obtain ⟨x, hx, hxe⟩ := List.mem_map.mp (hG q hq)
  have h5 := (s.2.2.2.2.1 x hx).2.1
  have e2 : xR h x.1 x.2.1 = a := by rw [e, ← hxe]
  rw [e2] at h5
  rcases h5 with z | z
  · exact hc (List.mem_map.mpr ⟨x, hx, z.symm⟩)
  · omega
end HX
/-- a growing row made longer -/
theorem gr_hx {h : XH} {q : Nat × Nat × Nat × Nat} {n : Nat} (s : Sh h) (hq : q ∈ shG) (hn : 2 * gl h q ≤ n) (ho : okL q n) (h1 : 1 ≤ n) : Hx [] [(q.1, q.2.1)] h (xgr h q n) := by
  have h7 := s.2.2.2.2.2.2.1
  refine ⟨gr_sh s hq, fun a j hg ha => ?_, fun a ha _ _ => ⟨new_I (k := q.2.2.1) (n := n) ha, new_L (k := q.2.2.1) (n := n) ha⟩, fun a ha => ⟨new_N (k := q.2.2.1) (n := n) ha, new_K (k := q.2.2.1) (n := n) ha⟩, fun r => gr_rm s hq r hn ho h1, Nat.le_succ _, fun g hg => Or.inr ?_⟩
  · unfold xgr
    rw [xR_s, if_neg (fun z => hg (by rw [z.1, z.2]; exact List.mem_singleton.mpr rfl)), new_R ha]
  · rw [List.mem_singleton.mp hg]
    unfold xgr
    rw [xR_s, if_pos ⟨rfl, rfl⟩]
    exact Nat.le_refl _
/-! roomFor -/
theorem l_rf {h : XH} {need : Nat} {Q : Value → XH → Prop} (hs : Sh h) (hn : need ≤ 65536) (kk : ∀ b, b ≤ 16 → need ≤ 2 ^ b → Q (.ref (xT h)) (xnew h 1 (2 ^ b))) : ∀ m i, i + m = 16 → Ev 101 12 [.null, .int (nI need), .int (nI (2 ^ i)), .int (nI i)] [] h Q := by
  have stop : ∀ i, i ≤ 16 → need ≤ 2 ^ i → Ev 101 12 [.null, .int (nI need), .int (nI (2 ^ i)), .int (nI i)] [] h Q := by
    intro i hi hle
    have h2 : 2 ^ i ≤ 2 ^ 16 := Nat.pow_le_pow_right (by decide) hi
    have hk := kk i hi hle
    refine Bg_101_12 (nr := 0) hs ?_
    have hok : ¬ (nI (2 ^ i) < 0 ∨ 60000000 < (nI (2 ^ i)).toNatClampNeg) := fun z => z.elim (nI_pos (by omega)) (by rw [nI_clamp (by omega)]; omega)
    refine ⟨fun z => absurd z (nI_ge (a := i) (b := 20) (by omega) (by decide)), fun _ => ⟨fun _ => ⟨hok, ?_⟩, fun z => absurd (nI_le hle (by omega)) z⟩⟩
    rw [tn_nI (by omega)]
    exact hk
  intro m
  induction m with
  | zero =>
    intro i hm
    have : i = 16 := by omega
    subst this
    exact stop 16 (by decide) hn
  | succ m ih =>
    intro i hm
    by_cases hle : need ≤ 2 ^ i
    · exact stop i (by omega) hle
    · refine Bg_101_12 (nr := 0) hs ⟨fun z => absurd z (nI_ge (a := i) (b := 20) (by omega) (by decide)), fun _ => ⟨fun z => absurd z (nI_ge (by omega) (by omega)), fun _ => ?_⟩⟩
      rw [nI_1, show (2 : Int32) = nI 2 from rfl, pk_mul, ← Nat.pow_succ]
      exact ih (i + 1) (by omega)
theorem p2_two {a b : Nat} (ha : p2 a) (hb : p2 b) (h : a < b) : 2 * a ≤ b := by
  obtain ⟨x, hx, rfl⟩ := ha
  obtain ⟨y, hy, rfl⟩ := hb
  have : x < y := (Nat.pow_lt_pow_iff_right (by decide)).mp h
  rw [← Nat.pow_succ']
  exact Nat.pow_le_pow_right (by decide) this
/-- the row of a field, as it is or made longer: put back into the field -/
theorem c_room {h : XH} {q : Nat × Nat × Nat × Nat} {need : Nat} {K : XH → Prop} (hs : Sh h) (hq : q ∈ shG) (hk : q.2.2.1 = 1) (rm : RmOk h) (hp : ∀ n, okL q n ↔ p2 n) (hn : need ≤ 65536) (k : ∀ h1, Hx [] [(q.1, q.2.1)] h h1 → need ≤ xN h1 (xR h1 q.1 q.2.1) → K h1) : ClR 101 [.ref (xR h q.1 q.2.1), .int (nI need)] h (fun v h1 => Sh h1 ∧ (v ≠ 0 ∧ K (xsR h1 q.1 q.2.1 v))) := by
  have h5 := hs.2.2.2.2.1 q hq
  have h7 := hs.2.2.2.2.2.2.1
  have hl : p2 (gl h q) := (hp _).mp (rm.2.2 q hq)
  have hl16 : gl h q ≤ 65536 := by
    obtain ⟨a, ha, e⟩ := hl
    rw [e]
    exact Nat.pow_le_pow_right (by decide) ha (n := 2)
  have g4 : 4 ≤ xR h q.1 q.2.1 := by
    rcases h5.2.1 with z | z
    · have : ∀ x ∈ shG, 4 ≤ x.2.2.2 := by decide
      have := this q hq
      omega
    · omega
  refine Bg_101_0 (nr := gl h q) hs ⟨by rw [h5.1, hk], rfl, g4⟩ ⟨fun z => ?_, fun z => ?_⟩
  · have hlt : gl h q < need := (nI_ltI (by omega) (by omega)).mp z
    refine l_rf hs hn (fun b hb hle => ⟨_, rfl, sh_new hs, by omega, ?_⟩) 16 0 (by decide)
    have e : xsR (xnew h 1 (2 ^ b)) q.1 q.2.1 (xT h) = xgr h q (2 ^ b) := by unfold xgr; rw [hk]
    rw [e]
    refine k _ (gr_hx hs hq (p2_two hl ⟨b, hb, rfl⟩ (by omega)) ((hp _).mpr ⟨b, hb, rfl⟩) (Nat.pow_pos (by decide))) ?_
    have := gr_len (n := 2 ^ b) hs hq hq
    unfold gl at this
    rw [this, if_pos rfl]
    exact hle
  · have hle : need ≤ gl h q := by
      rcases Nat.lt_or_ge (gl h q) need with y | y
      · exact absurd (nI_lt y (by omega)) z
      · exact y
    refine ⟨_, rfl, hs, by omega, ?_⟩
    have e : xsR h q.1 q.2.1 (xR h q.1 q.2.1) = h := by
      have : up h.2.1 q.1 (up (h.2.1 q.1) q.2.1 (xR h q.1 q.2.1)) = h.2.1 := by
        funext a j
        by_cases ea : a = q.1
        · subst ea
          rw [up_same]
          by_cases ej : j = q.2.1
          · subst ej; rw [up_same]
          · rw [up_ne ej]
        · rw [up_ne ea]
      unfold xsR
      rw [this]
    rw [e]
    exact k h (Hx.rf hs) hle
