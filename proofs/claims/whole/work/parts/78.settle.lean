/-! SETTLING -/
def shEq (r r' : Nat → Int32) : Prop := ∀ i, i < 8 ∨ 14 ≤ i → r i = r' i
/-- claims that don't look at shades are the same whatever they are -/
def tFirm (T : Nat → Nat → Int32) : Prop := ∀ p c r r', p < 6 → c < 6 → lo T p c = false → shEq r r' → hl T r p c = hl T r' p c
theorem fm_eq {T : Nat → Nat → Int32} {r r' : Nat → Int32} {p : Nat} (hf : tFirm T) (hp : p < 6) (he : shEq r r') : ∀ n, n ≤ 6 → fm T r p n = fm T r' p n := by
  intro n
  induction n with
  | zero => intro _; rfl
  | succ c ih =>
    intro hc
    rw [fm_s, fm_s, ih (by omega)]
    cases hlo : lo T p c with
    | true => simp
    | false => rw [hf p c r r' hp (by omega) hlo he]
theorem ptS_eq : ∀ (k p : Nat) (s : Int32) (r : Nat → Int32), p + k ≤ 6 → shEq (ptS s k p r) r := by
  intro k
  induction k with
  | zero => intro p s r _ i _; rfl
  | succ k ih =>
    intro p s r hp i hi
    unfold ptS
    rw [ih (p + 1) _ _ (by omega) i hi]
    exact up_ne (by omega)
/-- the last of the first n that is s -/
def fnd (b : Nat → Int32) (s : Int32) : Nat → Option Nat
  | 0 => none
  | n + 1 => if b n = s then some n else fnd b s n
/-- f steps more, the k-th next: shades that were, and the row -/
def setl (T : Nat → Nat → Int32) (P : Nat) : Nat → Nat → (Nat → Int32) → (Nat → Int32) → (Nat → Int32)
  | 0, _, _, r => rw_end r 2 300 0 0
  | f + 1, k, b, r => if stN T r P 0 = b (k - 1) then rw_end r 0 (nI (k - 1)) 0 0
    else match fnd b (stN T r P 0) (k - 1) with
      | some j => rw_end (ptS (stN T r P 0) 6 0 r) 1 (nI k) (nI (k - j)) (unO b P j (k - (j + 1)) (j + 1) 0)
      | none => setl T P f (k + 1) (up b k (stN T r P 0)) (ptS (stN T r P 0) 6 0 r)
/-- what settling needs of a text -/
def tSet (T : Nat → Nat → Int32) : Prop := tOk T ∧ tLo T ∧ tFirm T
section ST
variable {h0 : XH} {row P : Nat} {Q : Value → XH → Prop}
/-- a state of a settling: what it had at its start, its row, the shades that were -/
def stI (h0 : XH) (row : Nat) (h : XH) (r b : Nat → Int32) : Prop := Fx [row, 34, 35, 36, 38] h0 h ∧ xI h row = r ∧ xI h 36 = b ∧ shEq r (xI h0 row) ∧ ∀ p, p < tn (tx h0 0 1) → xI h 38 p = fm (tx h0) (xI h0 row) p (tn (tx h0 6 p))
theorem l_sr (hs0 : Sh h0) (r0 : Ar h0 row 20) (hrow : 39 ≤ row) (ht : tSet (tx h0)) (hP : P = tn (tx h0 0 1)) {k : Nat} (hk : 1 ≤ k ∧ k ≤ 300) {s : Int32} {r b : Nat → Int32} {h : XH} (hi : stI h0 row h r b) :
    ∀ n, n ≤ k - 1 → (∀ j, fnd b s n = some j → ∀ h1, Fx [row, 34, 35, 36, 38] h0 h1 → xI h1 row = rw_end r 1 (nI k) (nI (k - j)) (unO b P j (k - (j + 1)) (j + 1) 0) → Q .null h1) → (fnd b s n = none → Ev 55 17 [.ref 34, .ref row, .int (nI (k + 1)), .null, .null] [] (xsI h 36 k s) Q) →
    Ev 55 93 [.ref 34, .ref row, .int (nI k), .int s, .int (nI n + (-1))] [] h Q := by
  obtain ⟨fx, hr, hb, he, h38⟩ := hi
  have hs := fx.sh hs0 (by simp; omega)
  have hT : tx h = tx h0 := tx_fx hs0 fx (by simp; omega)
  have hP1 : tx h 0 1 = nI P ∧ P ≤ 6 := by rw [hT, hP]; exact ht.1.2.1
  intro n
  induction n with
  | zero =>
    intro _ _ kn
    refine B_55_93 hs (fx.ar r0) ⟨fun _ => ⟨inb (by omega) (by decide), ?_⟩, fun z => absurd (by decide) z⟩
    rw [tn_nI (show k < 2 ^ 31 by omega), nI_1]
    exact kn rfl
  | succ n ih =>
    intro hn ks kn
    rw [pk_m1]
    refine B_55_93 hs (fx.ar r0) ⟨fun z => absurd z (nI_pos (by omega)), fun _ => ⟨inb (by omega) (by decide), fun z => ?_, fun z => ?_⟩⟩
    · rw [tn_nI (show n < 2 ^ 31 by omega), hb] at z
      unfold fnd at ks kn
      rw [if_neg z] at ks kn
      exact ih (by omega) ks kn
    · rw [tn_nI (show n < 2 ^ 31 by omega), hb] at z
      have hf : fnd b s (n + 1) = some n := by unfold fnd; rw [if_pos (Decidable.not_not.mp z)]
      refine c_unlikePages hs hP1 (by omega) (by omega) ⟨hs, fx.ar r0, c_end hs (fx.ar r0) (fun h1 f e => ⟨f.sh hs (by simp; omega), f.ar (fx.ar r0), ks n hf h1 (fx.tr (f.mono (by simp))) ?_⟩)⟩
      rw [e, hr, hb, pk_sub (by omega)]
theorem l_pg (hs0 : Sh h0) (r0 : Ar h0 row 20) (hrow : 39 ≤ row) (ht : tSet (tx h0)) (hP : P = tn (tx h0 0 1)) {k : Nat} {r b : Nat → Int32} :
    ∀ (p : Nat) (acc : Int32) (h : XH), p ≤ P → stI h0 row h r b → (∀ h1, stI h0 row h1 r b → Ev 55 37 [.ref 34, .ref row, .int (nI k), .int (stN (tx h0) r p acc), .int (nI 0 + (-1))] [] h1 Q) → Ev 55 37 [.ref 34, .ref row, .int (nI k), .int acc, .int (nI p + (-1))] [] h Q := by
  intro p
  induction p with
  | zero => intro acc h _ hi kk; exact kk h hi
  | succ p ih =>
    intro acc h hp hi kk
    obtain ⟨fx, hr, hb, he, h38⟩ := id hi
    have hs := fx.sh hs0 (by simp; omega)
    have hT : tx h = tx h0 := tx_fx hs0 fx (by simp; omega)
    have hP6 : P ≤ 6 := by rw [hP]; exact ht.1.2.1.2
    rw [pk_m1]
    refine B_55_37 hs (fx.ar r0) ⟨fun z => absurd z (nI_pos (by omega)), fun _ => ?_⟩
    refine c_shadeAnew hs (fx.ar r0) ⟨by omega, by omega⟩ (by rw [hT]; exact ht.1) (by rw [hT]; exact ht.2.1) (by omega) ?_ (fun h1 f => ?_)
    · rw [hT, hr, h38 p (by omega)]
      exact (fm_eq ht.2.2 (by omega) he _ (ht.1.2.2 p (by omega)).2).symm
    · have hi1 : stI h0 row h1 r b := ⟨fx.tr (f.mono (by simp)), (f.at (by simp; omega)).trans hr, (f.at (by decide)).trans hb, he, fun q hq => by rw [f.at (by decide)]; exact h38 q hq⟩
      refine ⟨f.sh hs (by decide), f.ar (fx.ar r0), ?_⟩
      rw [hT, hr]
      exact ih _ h1 (by omega) hi1 kk
end ST
