/-! NUMBERS, AND WHAT STAYS -/
theorem inb {k n : Nat} (h : k < n) (hn : n < 2 ^ 31) : InB (nI k) n := vp_in_nI h hn
theorem inb_l {i : Int32} {n : Nat} (h : (decide (i < 0) || Nat.ble n i.toNatClampNeg) = false) : InB i n := by
  intro q
  rcases q with q | q
  · rw [decide_eq_true q] at h; cases h
  · rw [Nat.ble_eq_true_of_le q] at h; simp at h
theorem tn_nI {k : Nat} (h : k < 2 ^ 31) : tn (nI k) = k := nI_clamp h
/-- only ints of the cells S have changed -/
def Fx (S : List Nat) (h h1 : XH) : Prop := xR h1 = xR h ∧ xL h1 = xL h ∧ xK h1 = xK h ∧ xN h1 = xN h ∧ xT h1 = xT h ∧ xS h1 = xS h ∧ ∀ a, a ∉ S → xI h1 a = xI h a
section FX
variable {S S' : List Nat} {h h1 h2 : XH} {a j n : Nat} {v : Int32}
theorem Fx.rf : Fx S h h := ⟨rfl, rfl, rfl, rfl, rfl, rfl, fun _ _ => rfl⟩
theorem Fx.tr (p : Fx S h h1) (q : Fx S h1 h2) : Fx S h h2 := ⟨q.1.trans p.1, q.2.1.trans p.2.1, q.2.2.1.trans p.2.2.1, q.2.2.2.1.trans p.2.2.2.1, q.2.2.2.2.1.trans p.2.2.2.2.1, q.2.2.2.2.2.1.trans p.2.2.2.2.2.1, fun a ha => (q.2.2.2.2.2.2 a ha).trans (p.2.2.2.2.2.2 a ha)⟩
theorem Fx.mono (p : Fx S h h1) (hS : ∀ a ∈ S, a ∈ S') : Fx S' h h1 := ⟨p.1, p.2.1, p.2.2.1, p.2.2.2.1, p.2.2.2.2.1, p.2.2.2.2.2.1, fun a ha => p.2.2.2.2.2.2 a (fun q => ha (hS a q))⟩
theorem Fx.set (p : Fx S h h1) (ha : a ∈ S) : Fx S h (xsI h1 a j v) := ⟨p.1, p.2.1, p.2.2.1, p.2.2.2.1, p.2.2.2.2.1, p.2.2.2.2.2.1, fun b hb => (up_ne (fun e : b = a => hb (by rw [e]; exact ha))).trans (p.2.2.2.2.2.2 b hb)⟩
theorem Fx.sh (p : Fx S h h1) (hs : Sh h) (h1n : 1 ∉ S) : Sh h1 := hs.fr p.2.2.1 p.2.2.2.1 p.1 p.2.2.2.2.1 (p.2.2.2.2.2.2 1 h1n)
theorem Fx.ar (p : Fx S h h1) (r : Ar h a n) : Ar h1 a n := by
  unfold Ar
  rw [p.2.2.1, p.2.2.2.1]
  exact r
theorem Fx.at (p : Fx S h h1) (ha : a ∉ S) : xI h1 a = xI h a := p.2.2.2.2.2.2 a ha
theorem xI_s : xI (xsI h a j v) a = up (xI h a) j v := up_same
theorem xI_n {b : Nat} (hb : b ≠ a) : xI (xsI h a j v) b = xI h b := up_ne hb
end FX
/-! shades of all pages together -/
def shOf (r : Nat → Int32) : Nat → Int32 → Int32
  | 0, acc => acc
  | p + 1, acc => shOf r p (acc * 5 + r (8 + p))
theorem l_shadesOf {h : XH} {row : Nat} {Q : Value → XH → Prop} (hs : Sh h) (r : Ar h row 20) : ∀ (p : Nat) (acc : Int32), p ≤ 6 → Q (.int (shOf (xI h row) p acc)) h → Ev 58 4 [.ref row, .int acc, .int (nI p + (-1))] [] h Q := by
  intro p
  induction p with
  | zero => intro acc _ hq; exact B_58_4 hs r ⟨fun _ => hq, fun z => absurd (by decide) z⟩
  | succ p ih =>
    intro acc hp hq
    rw [pk_m1]
    refine B_58_4 hs r ⟨fun z => absurd z (nI_pos (by omega)), fun _ => ?_⟩
    have e : (8 : Int32) + nI p = nI (8 + p) := nI_add 8 p
    rw [e, tn_nI (by omega)]
    exact ⟨inb (by omega) (by decide), ih _ (by omega) hq⟩
theorem c_shadesOf {h : XH} {row : Nat} {K : Int32 → XH → Prop} (hs : Sh h) (r : Ar h row 20) (k : K (shOf (xI h row) 6 0) h) : ClI 58 [.ref row] h K :=
  B_58_0 hs r (l_shadesOf hs r 6 0 (by decide) ⟨_, rfl, k⟩)
/-- the row's end of a settling -/
def rw_end (r : Nat → Int32) (how ch rd fl : Int32) : Nat → Int32 := up (up (up (up r 17 how) 18 ch) 19 rd) 16 fl
theorem c_end {h : XH} {row : Nat} {x1 x2 x3 x4 : Int32} {K : XH → Prop} (hs : Sh h) (r : Ar h row 20) (k : ∀ h1, Fx [row] h h1 → xI h1 row = rw_end (xI h row) x1 x2 x3 x4 → K h1) : ClV 61 [.ref row, .int x1, .int x2, .int x3, .int x4] h K := by
  refine B_61_0 hs r ⟨inb_l rfl, inb_l rfl, inb_l rfl, inb_l rfl, rfl, k _ ?_ ?_⟩
  · exact (((Fx.rf.set (List.mem_singleton.mpr rfl)).set (List.mem_singleton.mpr rfl)).set (List.mem_singleton.mpr rfl)).set (List.mem_singleton.mpr rfl)
  · rw [xI_s, xI_s, xI_s, xI_s]; rfl
theorem c_isPage {h : XH} {x1 : Int32} {K : Int32 → XH → Prop} (hs : Sh h) (k : K (if x1 < 0 ∨ xI h (xR h 34 0) 1 ≤ x1 then 0 else 1) h) : ClI 72 [.ref 4, .int x1] h K := by
  refine B_72_0 hs ⟨fun z => ⟨_, rfl, ?_⟩, fun z => ⟨fun y => ⟨_, rfl, ?_⟩, fun y => ⟨_, rfl, ?_⟩⟩⟩
  · rw [if_pos (Or.inl z)] at k; exact k
  · rw [if_pos (Or.inr y)] at k; exact k
  · rw [if_neg (fun q => q.elim z y)] at k; exact k
