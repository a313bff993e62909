/-! shades into a row, one shade out of all -/
def ptS (s : Int32) : Nat → Nat → (Nat → Int32) → (Nat → Int32)
  | 0, _, r => r
  | k + 1, p, r => ptS (s / 5) k (p + 1) (up r (8 + p) (s - s / 5 * 5))
theorem l_put {h0 : XH} {row : Nat} {Q : Value → XH → Prop} (hs0 : Sh h0) (r0 : Ar h0 row 20) (hrow : row ≠ 1) : ∀ (k p : Nat) (s : Int32) (h : XH), p + k = 6 → Fx [row] h0 h → (∀ h1, Fx [row] h0 h1 → xI h1 row = ptS s k p (xI h row) → Q .null h1) → Ev 62 4 [.ref row, .null, .int s, .int (nI p)] [] h Q := by
  intro k
  induction k with
  | zero =>
    intro p s h hn fx kk
    exact B_62_4 (fx.sh hs0 (by simp; omega)) (fx.ar r0) ⟨fun _ => kk h fx rfl, fun z => absurd (by rw [show p = 6 by omega]; decide) z⟩
  | succ k ih =>
    intro p s h hn fx kk
    refine B_62_4 (fx.sh hs0 (by simp; omega)) (fx.ar r0) ⟨fun z => absurd z (nI_ge (a := p) (b := 6) (by omega) (by decide)), fun _ => ?_⟩
    rw [show (8 : Int32) + nI p = nI (8 + p) from nI_add 8 p, tn_nI (by omega), nI_1]
    refine ⟨inb (by omega) (by decide), ih (p + 1) _ _ (by omega) (fx.set (by simp)) (fun h1 f1 e => kk h1 f1 ?_)⟩
    rw [e, xI_s]
    rfl
theorem c_putShades {h : XH} {row : Nat} {s : Int32} {K : XH → Prop} (hs : Sh h) (r : Ar h row 20) (hrow : row ≠ 1) (k : ∀ h1, Fx [row] h h1 → xI h1 row = ptS s 6 0 (xI h row) → K h1) : ClV 62 [.ref row, .int s] h K :=
  B_62_0 hs r (l_put hs r hrow 6 0 s h (by decide) Fx.rf (fun h1 f e => ⟨rfl, k h1 f e⟩))
/-- page p's shade in a number -/
def shI (s : Int32) (p : Nat) : Int32 := s / x_five p - s / x_five p / 5 * 5
theorem five_ne : ∀ p, ¬ x_five p = 0 := by
  intro p
  unfold x_five
  split <;> decide
theorem c_shadeIn {h : XH} {p : Nat} {s : Int32} {K : Int32 → XH → Prop} (hs : Sh h) (hp : p < 7) (k : K (shI s p) h) : ClI 64 [.int s, .int (nI p)] h K := by
  refine B_64_0 hs ?_
  rw [tn_nI (show p < 2 ^ 31 by omega), hs.2.2.2.2.2.2.2.1.2.2]
  exact ⟨inb hp (by decide), five_ne p, _, rfl, k⟩
/-- two rows in one number: what is in just one of them, times .., as the lots have it -/
def mix (a b : Int32) : Int32 := ((((a ^^^ b) * 1103515245) + 12345) ^^^ (((((a ^^^ b) * 1103515245) + 12345) : Int32).toUInt32 >>> ((15 : Int32).toUInt32 &&& Int32.toUInt32 31)).toInt32)
theorem c_mixed {h : XH} {a b : Int32} {K : Int32 → XH → Prop} (hs : Sh h) (k : K (mix a b) h) : ClI 81 [.int a, .int b] h K := B_81_0 hs ⟨_, rfl, k⟩
def lotF (seed which : Int32) : Int32 := ((mix (mix seed 41) which : Int32).toUInt32 >>> ((1 : Int32).toUInt32 &&& Int32.toUInt32 31)).toInt32 - ((mix (mix seed 41) which : Int32).toUInt32 >>> ((1 : Int32).toUInt32 &&& Int32.toUInt32 31)).toInt32 / 100 * 100
theorem c_lot {h : XH} {a b : Int32} {K : Int32 → XH → Prop} (hs : Sh h) (k : K (lotF a b) h) : ClI 80 [.int a, .int b] h K := B_80_0 hs (c_mixed hs ⟨hs, c_mixed hs ⟨hs, _, rfl, k⟩⟩)
