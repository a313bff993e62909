/-! FACTS AND WORLDS, as the class has them; a text at 14 or 24 -/
def txS (h : XH) (c : Nat) : Nat → Nat → Int32 := fun k => if k ≤ 9 then xI h (c + k) else fun _ => 0
theorem tx_S {h : XH} : tx h = txS h (xR h 34 0) := rfl
def fOk (T : Nat → Nat → Int32) : Prop := T 0 0 = nI (tn (T 0 0)) ∧ tn (T 0 0) ≤ 8
def wsum (T : Nat → Nat → Int32) (r : Nat → Int32) : Nat → Nat → Int32 → Int32
  | 0, _, acc => acc
  | k + 1, f, acc => wsum T r k (f + 1) (acc + r f * T 3 f)
theorem l_wo {h : XH} {c row n : Nat} {Q : Value → XH → Prop} (hs : Sh h) (hc : c = 14 ∨ c = 24) (r : Ar h row n) (hn : 8 ≤ n ∧ n < 2 ^ 31) (hf : fOk (txS h c)) : ∀ (k f : Nat) (acc : Int32), f + k = tn (txS h c 0 0) → Q (.int (wsum (txS h c) (xI h row) k f acc)) h → Ev 52 4 [.ref c, .ref row, .int acc, .int (nI f)] [] h Q := by
  have h8 := hf.2
  intro k
  induction k with
  | zero =>
    intro f acc hk hq
    refine B_52_4 hs hc r ?_
    rw [show xI h c 0 = txS h c 0 0 from rfl, hf.1]
    exact ⟨fun _ => hq, fun z => absurd (nI_le (by omega) (by omega)) z⟩
  | succ k ih =>
    intro f acc hk hq
    refine B_52_4 hs hc r ?_
    rw [show xI h c 0 = txS h c 0 0 from rfl, hf.1, tn_nI (show f < 2 ^ 31 by omega), nI_1]
    exact ⟨fun z => absurd z (nI_ge (by omega) (by omega)), fun _ => ⟨inb (by omega) (by omega), inb (by omega) (by decide), ih (f + 1) _ (by omega) hq⟩⟩
theorem c_worldOf {h : XH} {c row n : Nat} {K : Int32 → XH → Prop} (hs : Sh h) (hc : c = 14 ∨ c = 24) (r : Ar h row n) (hn : 8 ≤ n ∧ n < 2 ^ 31) (hf : fOk (txS h c)) (k : K (wsum (txS h c) (xI h row) (tn (txS h c 0 0)) 0 0) h) : ClI 52 [.ref c, .ref row] h K :=
  B_52_0 hs hc r (l_wo hs hc r hn hf (tn (txS h c 0 0)) 0 0 (by omega) ⟨_, rfl, k⟩)
/-- a world's facts into a row -/
def ptF (T : Nat → Nat → Int32) : Nat → Nat → Int32 → (Nat → Int32) → (Nat → Int32)
  | 0, _, _, r => r
  | k + 1, f, w, r => ptF T k (f + 1) (w / (T 1 f + 1)) (up r f (w - w / (T 1 f + 1) * (T 1 f + 1)))
def mOk (T : Nat → Nat → Int32) : Prop := ∀ f, f < 8 → ¬ T 1 f + 1 = 0
theorem l_pf {h0 : XH} {c row n : Nat} {Q : Value → XH → Prop} (hs0 : Sh h0) (hc : c = 14 ∨ c = 24) (r0 : Ar h0 row n) (hn : 8 ≤ n ∧ n < 2 ^ 31) (hrow : 34 ≤ row) (hf : fOk (txS h0 c)) (hm : mOk (txS h0 c)) : ∀ (k f : Nat) (w : Int32) (h : XH), f + k = tn (txS h0 c 0 0) → Fx [row] h0 h → (∀ h1, Fx [row] h0 h1 → xI h1 row = ptF (txS h0 c) k f w (xI h row) → Q .null h1) → Ev 54 5 [.ref c, .ref row, .null, .int w, .int (nI f), .null] [] h Q := by
  have h8 := hf.2
  have hT : ∀ (h : XH), Fx [row] h0 h → txS h c = txS h0 c := by
    intro h fx
    funext k
    unfold txS
    by_cases hk : k ≤ 9
    · rw [if_pos hk, if_pos hk, fx.at (by simp; omega)]
    · rw [if_neg hk, if_neg hk]
  intro k
  induction k with
  | zero =>
    intro f w h hk fx kk
    refine B_54_5 (fx.sh hs0 (by simp; omega)) hc (fx.ar r0) ?_
    rw [show xI h c 0 = txS h c 0 0 from rfl, hT h fx, hf.1]
    exact ⟨fun _ => kk h fx rfl, fun z => absurd (nI_le (by omega) (by omega)) z⟩
  | succ k ih =>
    intro f w h hk fx kk
    refine B_54_5 (fx.sh hs0 (by simp; omega)) hc (fx.ar r0) ?_
    rw [tn_nI (show f < 2 ^ 31 by omega), show xI h c 0 = txS h c 0 0 from rfl, show xI h (c + 1) f = txS h c 1 f from rfl, hT h fx, hf.1, nI_1]
    have hm1 := hm f (by omega)
    refine ⟨fun z => absurd z (nI_ge (by omega) (by omega)), fun _ => ⟨inb (by omega) (by decide), hm1, inb (by omega) (by omega), hm1, ih (f + 1) _ _ (by omega) (fx.set (by simp)) (fun h1 f1 e => kk h1 f1 ?_)⟩⟩
    rw [e, xI_s]
    rfl
theorem c_putFacts {h : XH} {c row n : Nat} {w : Int32} {K : XH → Prop} (hs : Sh h) (hc : c = 14 ∨ c = 24) (r : Ar h row n) (hn : 8 ≤ n ∧ n < 2 ^ 31) (hrow : 34 ≤ row) (hf : fOk (txS h c)) (hm : mOk (txS h c)) (k : ∀ h1, Fx [row] h h1 → xI h1 row = ptF (txS h c) (tn (txS h c 0 0)) 0 w (xI h row) → K h1) : ClV 54 [.ref c, .ref row, .int w] h K :=
  B_54_0 hs hc r (l_pf hs hc r hn hrow hf hm (tn (txS h c 0 0)) 0 w h (by omega) Fx.rf (fun h1 f e => ⟨rfl, k h1 f e⟩))
/-- in how many facts a world is unlike a row -/
def unl (T : Nat → Nat → Int32) (r : Nat → Int32) : Nat → Nat → Int32 → Int32 → Int32
  | 0, _, _, acc => acc
  | k + 1, f, w, acc => unl T r k (f + 1) (w / (T 1 f + 1)) (if w - w / (T 1 f + 1) * (T 1 f + 1) = r f then acc else acc + 1)
theorem l_un {h : XH} {c row n : Nat} {Q : Value → XH → Prop} (hs : Sh h) (hc : c = 14 ∨ c = 24) (r : Ar h row n) (hn : 8 ≤ n ∧ n < 2 ^ 31) (hf : fOk (txS h c)) (hm : mOk (txS h c)) : ∀ (k f : Nat) (w acc : Int32), f + k = tn (txS h c 0 0) → Q (.int (unl (txS h c) (xI h row) k f w acc)) h → Ev 102 8 [.ref c, .null, .ref row, .int acc, .int w, .int (nI f), .null] [] h Q := by
  have h8 := hf.2
  intro k
  induction k with
  | zero =>
    intro f w acc hk hq
    refine B_102_8 hs hc r ?_
    rw [show xI h c 0 = txS h c 0 0 from rfl, hf.1]
    exact ⟨fun _ => hq, fun z => absurd (nI_le (by omega) (by omega)) z⟩
  | succ k ih =>
    intro f w acc hk hq
    refine B_102_8 hs hc r ?_
    rw [tn_nI (show f < 2 ^ 31 by omega), show xI h c 0 = txS h c 0 0 from rfl, show xI h (c + 1) f = txS h c 1 f from rfl, hf.1, nI_1]
    have hm1 := hm f (by omega)
    unfold unl at hq
    refine ⟨fun z => absurd z (nI_ge (by omega) (by omega)), fun _ => ⟨inb (by omega) (by decide), hm1, inb (by omega) (by omega), fun z => ⟨hm1, ih (f + 1) _ _ (by omega) ?_⟩, fun z => ⟨hm1, ih (f + 1) _ _ (by omega) ?_⟩⟩⟩
    · rw [if_pos z] at hq; exact hq
    · rw [if_neg z] at hq; exact hq
theorem c_unlike {h : XH} {c row n : Nat} {w : Int32} {K : Int32 → XH → Prop} (hs : Sh h) (hc : c = 14 ∨ c = 24) (r : Ar h row n) (hn : 8 ≤ n ∧ n < 2 ^ 31) (hf : fOk (txS h c)) (hm : mOk (txS h c)) (k : K (unl (txS h c) (xI h row) (tn (txS h c 0 0)) 0 w 0) h) : ClI 102 [.ref c, .int w, .ref row] h K :=
  B_102_0 hs hc r (l_un hs hc r hn hf hm (tn (txS h c 0 0)) 0 w 0 (by omega) ⟨_, rfl, k⟩)
