/-! SETTLING -/
def shEq (r r' : Nat → Int32) : Prop := ∀ i, i < 8 ∨ 14 ≤ i → r i = r' i
/-- claims that don't look at shades are the same whatever they are -/
def tFirm (T : Nat → Nat → Int32) : Prop := ∀ p c r r', p < 6 → c < tn (T 6 p) → lo T p c = false → shEq r r' → hl T r p c = hl T r' p c
theorem fm_eq {T : Nat → Nat → Int32} {r r' : Nat → Int32} {p : Nat} (hf : tFirm T) (hp : p < 6) (he : shEq r r') : ∀ n, n ≤ tn (T 6 p) → fm T r p n = fm T r' p n := by
  intro n
  induction n with
  | zero => intro _; rfl
  | succ c ih =>
    intro hc
    rw [fm_s, fm_s, ih (by omega)]
    cases hlo : lo T p c with
    | true => simp
    | false => rw [hf p c r r' hp (by omega) hlo he]
theorem ptS_eq : ∀ (k p : Nat) (s : Int32) (r : Nat → Int32), p + k ≤ 6 → shEq (ptS s k p r) r := by
  intro k
  induction k with
  | zero => intro p s r _ i _; rfl
  | succ k ih =>
    intro p s r hp i hi
    unfold ptS
    rw [ih (p + 1) _ _ (by omega) i hi]
    exact up_ne (by omega)
/-- the last of the first n that is s -/
def fnd (b : Nat → Int32) (s : Int32) : Nat → Option Nat
  | 0 => none
  | n + 1 => if b n = s then some n else fnd b s n
/-- f steps more, the k-th next: shades that were, and the row -/
def setl (T : Nat → Nat → Int32) (P : Nat) : Nat → Nat → (Nat → Int32) → (Nat → Int32) → (Nat → Int32)
  | 0, _, _, r => rw_end r 2 300 0 0
  | f + 1, k, b, r => if stN T r P 0 = b (k - 1) then rw_end r 0 (nI (k - 1)) 0 0
    else match fnd b (stN T r P 0) (k - 1) with
      | some j => rw_end (ptS (stN T r P 0) 6 0 r) 1 (nI k) (nI (k - j)) (unO b P j (k - (j + 1)) (j + 1) 0)
      | none => setl T P f (k + 1) (up b k (stN T r P 0)) (ptS (stN T r P 0) 6 0 r)
/-- what settling needs of a text -/
def tSet (T : Nat → Nat → Int32) : Prop := tOk T ∧ tLo T ∧ tFirm T
section ST
variable {h0 : XH} {row P : Nat} {Q : Value → XH → Prop}
/-- a state of a settling: what it had at its start, its row, the shades that were -/
def stI (h0 : XH) (row : Nat) (h : XH) (r b : Nat → Int32) : Prop := Fx [row, 34, 35, 36, 38] h0 h ∧ xI h row = r ∧ xI h 36 = b ∧ shEq r (xI h0 row) ∧ ∀ p, p < tn (tx h0 0 1) → xI h 38 p = fm (tx h0) (xI h0 row) p (tn (tx h0 6 p))
theorem l_sr (hs0 : Sh h0) (r0 : Ar h0 row 20) (hrow : 39 ≤ row) (ht : tSet (tx h0)) (hP : P = tn (tx h0 0 1)) {k : Nat} (hk : 1 ≤ k ∧ k ≤ 300) {s : Int32} {r b : Nat → Int32} {h : XH} (hi : stI h0 row h r b) :
    ∀ n, n ≤ k - 1 → (∀ j, fnd b s n = some j → ∀ h1, Fx [row, 34, 35, 36, 38] h0 h1 → xI h1 row = rw_end r 1 (nI k) (nI (k - j)) (unO b P j (k - (j + 1)) (j + 1) 0) → Q .null h1) → (fnd b s n = none → Ev 55 17 [.ref 34, .ref row, .int (nI (k + 1)), .null, .null] [] (xsI h 36 k s) Q) →
    Ev 55 93 [.ref 34, .ref row, .int (nI k), .int s, .int (nI n + (-1))] [] h Q := by
  obtain ⟨fx, hr, hb, he, h38⟩ := hi
  have hs := fx.sh hs0 (by simp; omega)
  have hT : tx h = tx h0 := tx_fx hs0 fx (by simp; omega)
  have hP1 : tx h 0 1 = nI P ∧ P ≤ 6 := by rw [hT, hP]; exact ht.1.2.1
  intro n
  induction n with
  | zero =>
    intro _ _ kn
    refine B_55_93 hs (fx.ar r0) ⟨fun _ => ⟨inb (by omega) (by decide), ?_⟩, fun z => absurd (by decide) z⟩
    rw [tn_nI (show k < 2 ^ 31 by omega), nI_1]
    exact kn rfl
  | succ n ih =>
    intro hn ks kn
    rw [pk_m1]
    refine B_55_93 hs (fx.ar r0) ⟨fun z => absurd z (nI_pos (by omega)), fun _ => ⟨inb (by omega) (by decide), fun z => ?_, fun z => ?_⟩⟩
    · rw [tn_nI (show n < 2 ^ 31 by omega), hb] at z
      unfold fnd at ks kn
      rw [if_neg z] at ks kn
      exact ih (by omega) ks kn
    · rw [tn_nI (show n < 2 ^ 31 by omega), hb] at z
      have hf : fnd b s (n + 1) = some n := by unfold fnd; rw [if_pos (Decidable.not_not.mp z)]
      refine c_unlikePages hs hP1 (by omega) (by omega) ⟨hs, fx.ar r0, c_end hs (fx.ar r0) (fun h1 f e => ⟨f.sh hs (by simp; omega), f.ar (fx.ar r0), ks n hf h1 (fx.tr (f.mono (by simp))) ?_⟩)⟩
      rw [e, hr, hb, pk_sub (by omega)]
theorem l_pg (hs0 : Sh h0) (r0 : Ar h0 row 20) (hrow : 39 ≤ row) (ht : tSet (tx h0)) (hP : P = tn (tx h0 0 1)) {k : Nat} {r b : Nat → Int32} :
    ∀ (p : Nat) (acc : Int32) (h : XH), p ≤ P → stI h0 row h r b → (∀ h1, stI h0 row h1 r b → Ev 55 37 [.ref 34, .ref row, .int (nI k), .int (stN (tx h0) r p acc), .int (nI 0 + (-1))] [] h1 Q) → Ev 55 37 [.ref 34, .ref row, .int (nI k), .int acc, .int (nI p + (-1))] [] h Q := by
  intro p
  induction p with
  | zero => intro acc h _ hi kk; exact kk h hi
  | succ p ih =>
    intro acc h hp hi kk
    obtain ⟨fx, hr, hb, he, h38⟩ := id hi
    have hs := fx.sh hs0 (by simp; omega)
    have hT : tx h = tx h0 := tx_fx hs0 fx (by simp; omega)
    have hP6 : P ≤ 6 := by rw [hP]; exact ht.1.2.1.2
    rw [pk_m1]
    refine B_55_37 hs (fx.ar r0) ⟨fun z => absurd z (nI_pos (by omega)), fun _ => ?_⟩
    refine c_shadeAnew hs (fx.ar r0) ⟨by omega, by omega⟩ (by rw [hT]; exact ht.1) (by rw [hT]; exact ht.2.1) (by omega) ?_ (fun h1 f => ?_)
    · rw [hT, hr, h38 p (by omega)]
      exact (fm_eq ht.2.2 (by omega) he _ (Nat.le_refl _)).symm
    · have hi1 : stI h0 row h1 r b := ⟨fx.tr (f.mono (by simp)), (f.at (by simp; omega)).trans hr, (f.at (by decide)).trans hb, he, fun q hq => by rw [f.at (by decide)]; exact h38 q hq⟩
      refine ⟨f.sh hs (by decide), f.ar (fx.ar r0), ?_⟩
      rw [hT, hr]
      exact ih _ h1 (by omega) hi1 kk
theorem sub_2 {k : Nat} (hk : 1 ≤ k) : nI k - 2 = nI (k - 1) + (-1) := by
  obtain ⟨j, rfl⟩ : ∃ j, k = j + 1 := ⟨k - 1, by omega⟩
  rw [nI_succ, show j + 1 - 1 = j by omega, Int32.sub_eq_add_neg, Int32.add_assoc]
  rfl
theorem l_st (hs0 : Sh h0) (r0 : Ar h0 row 20) (hrow : 39 ≤ row) (ht : tSet (tx h0)) (hP : P = tn (tx h0 0 1)) : ∀ (f k : Nat) (r b : Nat → Int32) (h : XH), k + f = 301 → 1 ≤ k → stI h0 row h r b → (∀ h1, Fx [row, 34, 35, 36, 38] h0 h1 → xI h1 row = setl (tx h0) P f k b r → Q .null h1) → Ev 55 17 [.ref 34, .ref row, .int (nI k), .null, .null] [] h Q := by
  intro f
  induction f with
  | zero =>
    intro k r b h hk h1k hi kk
    obtain ⟨fx, hr, hb, he, h38⟩ := hi
    have hs := fx.sh hs0 (by simp; omega)
    refine B_55_17 hs (fx.ar r0) ⟨fun _ => c_end hs (fx.ar r0) (fun h1 g e => ⟨g.sh hs (by simp; omega), g.ar (fx.ar r0), kk h1 (fx.tr (g.mono (by simp))) ?_⟩), fun z => absurd (nI_lt (a := 300) (by omega) (by omega)) z⟩
    rw [e, hr]
    rfl
  | succ f ih =>
    intro k r b h hk h1k hi kk
    obtain ⟨fx, hr, hb, he, h38⟩ := id hi
    have hs := fx.sh hs0 (by simp; omega)
    have hT : tx h = tx h0 := tx_fx hs0 fx (by simp; omega)
    refine B_55_17 hs (fx.ar r0) ⟨fun z => absurd z (nI_nlt (b := k) (a := 300) (by omega) (by decide)), fun _ => ?_⟩
    rw [show xI h (xR h 34 0) 1 = tx h 0 1 from rfl, hT, ht.1.2.1.1, ← hP, Int32.sub_eq_add_neg]
    refine l_pg hs0 r0 hrow ht hP P 0 h (Nat.le_refl _) hi (fun h1 hi1 => ?_)
    obtain ⟨fx1, hr1, hb1, he1, h381⟩ := id hi1
    have hs1 := fx1.sh hs0 (by simp; omega)
    unfold setl at kk
    refine B_55_37 hs1 (fx1.ar r0) ⟨fun _ => ?_, fun z => absurd (by decide) z⟩
    rw [show nI k - 1 = nI (k - 1) from pk_sub (b := 1) h1k, tn_nI (show k - 1 < 2 ^ 31 by omega), hb1]
    refine ⟨inb (by omega) (by decide), fun z => ?_, fun z => ?_⟩
    · rw [if_neg z] at kk
      refine c_putShades hs1 (fx1.ar r0) (by omega) (fun h2 g e => ⟨g.sh hs1 (by simp; omega), g.ar (fx1.ar r0), ?_⟩)
      rw [sub_2 h1k]
      have fx2 : Fx [row, 34, 35, 36, 38] h0 h2 := fx1.tr (g.mono (by simp))
      have hi2 : stI h0 row h2 (ptS (stN (tx h0) r P 0) 6 0 r) b := ⟨fx2, by rw [e, hr1], (g.at (by simp; omega)).trans hb1, fun i hi => (ptS_eq 6 0 _ _ (by decide) i hi).trans (he i hi), fun q hq => by rw [g.at (by simp; omega)]; exact h381 q hq⟩
      refine l_sr hs0 r0 hrow ht hP ⟨h1k, by omega⟩ hi2 (k - 1) (Nat.le_refl _) (fun j hj h3 g3 e3 => kk h3 g3 ?_) (fun hn => ?_)
      · rw [hj]; exact e3
      · rw [hn] at kk
        refine ih (k + 1) _ (up b k (stN (tx h0) r P 0)) _ (by omega) (by omega) ⟨fx2.set (by simp), ?_, ?_, hi2.2.2.2.1, fun q hq => ?_⟩ kk
        · rw [xI_n (by omega)]; exact hi2.2.1
        · rw [xI_s, hi2.2.2.1]
        · rw [xI_n (by decide)]; exact hi2.2.2.2.2 q hq
    · rw [if_pos (Decidable.not_not.mp z)] at kk
      refine c_end hs1 (fx1.ar r0) (fun h2 g e => ⟨g.sh hs1 (by simp; omega), g.ar (fx1.ar r0), kk h2 (fx1.tr (g.mono (by simp))) ?_⟩)
      rw [e, hr1]
end ST
/-- a row settled -/
def setR (T : Nat → Nat → Int32) (b r : Nat → Int32) : Nat → Int32 := setl T (tn (T 0 1)) 300 1 (up b 0 (shOf r 6 0)) r
theorem c_settle {h : XH} {row : Nat} {K : XH → Prop} (hs : Sh h) (r : Ar h row 20) (hrow : 39 ≤ row) (ht : tSet (tx h)) (k : ∀ h1, Fx [row, 34, 35, 36, 38] h h1 → xI h1 row = setR (tx h) (xI h 36) (xI h row) → K h1) : ClV 55 [.ref 34, .ref row] h K := by
  refine B_55_0 hs r (c_findFirm hs r ⟨by omega, by omega, by omega⟩ ht.1 (fun h1 f h38 => ⟨f.sh hs (by decide), f.ar r, ?_⟩))
  have hs1 := f.sh hs (by decide)
  have hnr : row ∉ [34, 35, 38] := by simp; omega
  refine c_shadesOf hs1 (f.ar r) ⟨hs1, f.ar r, inb_l rfl, ?_⟩
  rw [f.at hnr, show tn (0 : Int32) = 0 from rfl]
  refine l_st (P := tn (tx h 0 1)) hs r hrow ht rfl 300 1 (xI h row) (up (xI h 36) 0 (shOf (xI h row) 6 0)) _ (by decide) (by decide) ⟨(f.mono (by simp)).set (by simp), ?_, ?_, fun _ _ => rfl, fun p hp => ?_⟩ (fun h2 g e => ⟨rfl, k h2 g e⟩)
  · rw [xI_n (by omega)]; exact f.at hnr
  · rw [xI_s, f.at (by decide)]
  · rw [xI_n (by decide)]; exact h38 p hp
