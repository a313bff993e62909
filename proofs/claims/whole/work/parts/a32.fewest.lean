/-! FEWEST: spec, and the class -/
def bX (X p : Nat) : Bool := decide (X / 2 ^ p % 2 = 1)
def bc (X : Nat) : Nat := cnt (bX X) 6
/-- all shades but those of the set taken away -/
def mk (T : Nat → Nat → Int32) (n X w p : Nat) : Nat := if bX X p then dg (bsh T w n) p else 0
def key (T : Nat → Nat → Int32) (n X w : Nat) : Nat := num (mk T n X w) 6
/-- the set tells any two worlds apart -/
def pA (T : Nat → Nat → Int32) (n X : Nat) : Prop := ∀ v w, v < w → w < wN T → key T n X v ≠ key T n X w
def isB (T : Nat → Nat → Int32) (n : Nat) (o : Option Nat) : Prop := match o with
  | none => ∀ Y, Y < 2 ^ tn (T 0 1) → ¬ pA T n Y
  | some X => X < 2 ^ tn (T 0 1) ∧ pA T n X ∧ ∀ Y, Y < 2 ^ tn (T 0 1) → pA T n Y → bc X < bc Y ∨ (bc X = bc Y ∧ X ≤ Y)
def fwV (o : Option Nat) (what : Nat) : Int32 := match o with
  | none => -2
  | some X => if what = 1 then nI X else nI (bc X)
noncomputable def aFew (T : Nat → Nat → Int32) (n what : Nat) : Int32 := @dite _ (∃ o, isB T n o) (Classical.propDecidable _) (fun h => fwV (Classical.choose h) what) (fun _ => 0)
theorem isB_u {T : Nat → Nat → Int32} {n : Nat} {o o' : Option Nat} (h : isB T n o) (h' : isB T n o') : o = o' := by
  cases o with
  | none => cases o' with
    | none => rfl
    | some X' => exact absurd h'.2.1 (h X' h'.1)
  | some X => cases o' with
    | none => exact absurd h.2.1 (h' X h.1)
    | some X' =>
      have h1 := h.2.2 X' h'.1 h'.2.1
      have h2 := h'.2.2 X h.1 h.2.1
      have : X = X' := by omega
      rw [this]
theorem aFew_v {T : Nat → Nat → Int32} {n what : Nat} {o : Option Nat} (h : isB T n o) : aFew T n what = fwV o what := by
  unfold aFew
  rw [dif_pos ⟨o, h⟩]
  have := Classical.choose_spec (⟨o, h⟩ : ∃ o, isB T n o)
  rw [isB_u this h]
noncomputable def oFew (T : Nat → Nat → Int32) (x y : Int32) : Int32 := opN x 31 (-1) (fun n => opN y 2 (-1) (fun w => aFew T n w))
theorem pigeon : ∀ (M W : Nat) (f : Nat → Nat), (∀ i, i < W → f i < M) → (∀ i j, i < j → j < W → f i ≠ f j) → W ≤ M := by
  intro M
  induction M with
  | zero =>
    intro W f h1 _
    rcases Nat.eq_zero_or_pos W with z | z
    · omega
    · exact absurd (h1 0 z) (by omega)
  | succ M ih =>
    intro W f h1 h2
    by_cases hex : ∃ i, i < W ∧ f i = M
    · obtain ⟨i0, hi0, e0⟩ := hex
      have := ih (W - 1) (fun i => if i = i0 then f (W - 1) else f i) (fun i hi => ?_) (fun i j hij hj => ?_)
      · omega
      · by_cases e : i = i0
        · rw [if_pos e]
          have a := h1 (W - 1) (by omega)
          have b := h2 i0 (W - 1) (by omega) (by omega)
          omega
        · rw [if_neg e]
          have a := h1 i (by omega)
          have b : f i ≠ f i0 := by
            rcases Nat.lt_or_ge i i0 with z | z
            · exact h2 i i0 z hi0
            · exact Ne.symm (h2 i0 i (by omega) (by omega))
          omega
      · by_cases e : i = i0
        · rw [if_pos e, if_neg (by omega)]
          exact Ne.symm (h2 j (W - 1) (by omega) (by omega))
        · rw [if_neg e]
          by_cases e2 : j = i0
          · rw [if_pos e2]
            exact h2 i (W - 1) (by omega) (by omega)
          · rw [if_neg e2]
            exact h2 i j hij (by omega)
    · refine Nat.le_succ_of_le (ih W f (fun i hi => ?_) h2)
      have a := h1 i hi
      have : f i ≠ M := fun z => hex ⟨i, hi, z⟩
      omega
/-- the shades of the set alone, closely packed -/
def pk (X : Nat) (d : Nat → Nat) : Nat → Nat
  | 0 => 0
  | p + 1 => if bX X p then pk X d p * 5 + d p else pk X d p
theorem pk_lt5 {X : Nat} {d : Nat → Nat} (hd : ∀ p, d p < 5) : ∀ p, pk X d p < 5 ^ cnt (bX X) p := by
  intro p
  induction p with
  | zero => exact Nat.one_pos
  | succ p ih =>
    unfold pk cnt
    by_cases h : bX X p = true
    · rw [if_pos h, if_pos h, Nat.pow_succ]
      have := hd p
      omega
    · rw [if_neg h, if_neg h]; exact ih
theorem pk_inj {X : Nat} {d e : Nat → Nat} (hd : ∀ p, d p < 5) (he : ∀ p, e p < 5) : ∀ p, pk X d p = pk X e p → ∀ i, i < p → bX X i = true → d i = e i := by
  intro p
  induction p with
  | zero => intro _ i hi; omega
  | succ p ih =>
    intro h i hi hb
    unfold pk at h
    by_cases hp : bX X p = true
    · rw [if_pos hp, if_pos hp] at h
      have h1 := hd p
      have h2 := he p
      by_cases z : i = p
      · subst z; omega
      · exact ih (by omega) i (by omega) hb
    · rw [if_neg hp, if_neg hp] at h
      by_cases z : i = p
      · subst z; exact absurd hb hp
      · exact ih h i (by omega) hb
section FEs
variable {T : Nat → Nat → Int32}
theorem mk_lt {n X w p : Nat} : mk T n X w p < 5 := by
  unfold mk
  split
  · exact Nat.lt_succ_of_le dg_le
  · decide
theorem key_lt {n X w : Nat} : key T n X w < 15625 := num_lt 6 (fun p _ => mk_lt)
theorem key_eq {n X v w : Nat} : key T n X v = key T n X w ↔ ∀ p, p < 6 → bX X p = true → dg (bsh T v n) p = dg (bsh T w n) p := by
  constructor
  · intro e p hp hb
    have h1 := num_dig (d := mk T n X v) 6 p (fun q _ => mk_lt) hp
    have h2 := num_dig (d := mk T n X w) 6 p (fun q _ => mk_lt) hp
    have e : num (mk T n X v) 6 = num (mk T n X w) 6 := e
    rw [e, h2] at h1
    unfold mk at h1
    rw [if_pos hb, if_pos hb] at h1
    exact h1.symm
  · intro h
    refine num_congr 6 (fun p hp => ?_)
    unfold mk
    by_cases hb : bX X p = true
    · rw [if_pos hb, if_pos hb]; exact h p hp hb
    · rw [if_neg hb, if_neg hb]
theorem pA_le {n X : Nat} (h : pA T n X) : wN T ≤ 5 ^ bc X := by
  refine pigeon (5 ^ bc X) (wN T) (fun w => pk X (dg (bsh T w n)) 6) (fun w _ => pk_lt5 (fun p => Nat.lt_succ_of_le dg_le) 6) (fun v w hv hw e => h v w hv hw ?_)
  exact key_eq.mpr (fun p hp hb => pk_inj (fun p => Nat.lt_succ_of_le dg_le) (fun p => Nat.lt_succ_of_le dg_le) 6 e p hp hb)
end FEs
theorem bit_n {X p : Nat} (hX : X < 2 ^ 31) (hp : p < 32) : nI X >>> (nI p &&& 31) = nI (X / 2 ^ p) := pk_shrN hX _ p (sm32 p hp)
theorem bit_1 {X p : Nat} (hX : X < 2 ^ 31) (hp : p < 32) : (nI X >>> (nI p &&& 31)) &&& 1 = nI (X / 2 ^ p % 2) := by
  have hle : X / 2 ^ p ≤ X := Nat.div_le_self _ _
  rw [bit_n hX hp]
  exact pk_andN (n := X / 2 ^ p) (m := 1) (by omega) 1 (by decide)
theorem bX_iff {X p : Nat} (hX : X < 2 ^ 31) (hp : p < 32) : (nI X >>> (nI p &&& 31)) &&& 1 = 1 ↔ bX X p = true := by
  have h2 : X / 2 ^ p % 2 < 2 := Nat.mod_lt _ (by decide)
  rw [bit_1 hX hp]
  unfold bX
  rw [decide_eq_true_iff]
  exact nI_eq (b := 1) (by omega) (by decide)
