/-! ROWS THAT ARE ALIKE IN THEIR 20 PLACES: what is made of them is alike -/
def EqR (r s : Nat → Int32) : Prop := ∀ i, i < 20 → r i = s i
theorem EqR.rf {r : Nat → Int32} : EqR r r := fun _ _ => rfl
theorem EqR.sy {r s : Nat → Int32} (h : EqR r s) : EqR s r := fun i hi => (h i hi).symm
theorem EqR.tr {r s t : Nat → Int32} (h : EqR r s) (k : EqR s t) : EqR r t := fun i hi => (h i hi).trans (k i hi)
theorem EqR.upd {r s : Nat → Int32} (h : EqR r s) (j : Nat) (v : Int32) : EqR (up r j v) (up s j v) := by
  intro i hi
  by_cases e : i = j
  · subst e; rw [up_same, up_same]
  · rw [up_ne e, up_ne e]; exact h i hi
theorem tn_lt {x : Int32} {n : Nat} (h : InB x n) : tn x < n := by
  rcases Nat.lt_or_ge (tn x) n with q | q
  · exact q
  · exact absurd (Or.inr q) h
def Eq16 (r s : Nat → Int32) : Prop := ∀ i, i < 16 → r i = s i
theorem EqR.to {r s : Nat → Int32} (h : EqR r s) : Eq16 r s := fun i hi => h i (by omega)
/-- codes that look at facts, shades and the day alone -/
def cdV (cd : Nat → Int32) (len : Nat) : Prop := len ≤ 512 ∧ ∀ i, i < len → cd i &&& 15 = 1 → ∃ j, j < 15 ∧ cd i >>> (4 &&& 31) = nI j
def cvT (T : Nat → Nat → Int32) : Prop := cdV (T 9) (tn (T 0 7)) ∧ ¬ T 0 7 < 0
theorem cvT.c {T : Nat → Nat → Int32} (h : cvT T) : cdT T := ⟨⟨h.1.1, fun i hi q => by obtain ⟨j, hj, e⟩ := h.1.2 i hi q; rw [e]; exact inb (by omega) (by decide)⟩, h.2⟩
theorem rn_eq {cd : Nat → Int32} {len : Nat} {r s : Nat → Int32} (hw : cdV cd len) (he : Eq16 r s) : ∀ f a st, rn cd len r f a st = rn cd len s f a st := by
  intro f
  induction f with
  | zero => intro a st; rfl
  | succ f ih =>
    intro a st
    unfold rn
    by_cases h1 : len ≤ a
    · rw [if_pos h1, if_pos h1]
    · rw [if_neg h1, if_neg h1]
      by_cases h2 : ¬ 1 < (cd a &&& 15)
      · rw [if_pos h2, if_pos h2]
        have key : (if cd a &&& 15 = 0 then cd a >>> (4 &&& 31) else r (tn (cd a >>> (4 &&& 31)))) = (if cd a &&& 15 = 0 then cd a >>> (4 &&& 31) else s (tn (cd a >>> (4 &&& 31)))) := by
          by_cases h3 : cd a &&& 15 = 0
          · rw [if_pos h3, if_pos h3]
          · rw [if_neg h3, if_neg h3]
            have h4 : cd a &&& 15 = 1 := by
              obtain ⟨j, hj, e⟩ := pk_andE (cd a) (m := 15) 4 (by decide)
              rw [e] at h2 h3 ⊢
              have hj : j < 16 := hj
              have h0 : j ≠ 0 := fun q => h3 (by rw [q]; rfl)
              have h1 : ¬ 1 < j := fun q => h2 (nI_lt (a := 1) q (by omega))
              rw [show j = 1 by omega]
              rfl
            obtain ⟨j, hj, e⟩ := hw.2 a (by omega) h4
            rw [e, tn_nI (by omega)]
            exact he j (by omega)
        rw [key, ih]
      · rw [if_neg h2, if_neg h2]
        match st with
        | [] => rfl
        | [b] => dsimp only; rw [ih, ih]
        | b :: c :: t => dsimp only; rw [ih, ih, ih]
theorem rnT_eq {T : Nat → Nat → Int32} {r s : Nat → Int32} (hc : cvT T) (he : Eq16 r s) (x : Int32) : rnT T r x = rnT T s x := by
  unfold rnT
  rw [rn_eq hc.1 he]
theorem hl_eq {T : Nat → Nat → Int32} {r s : Nat → Int32} (hc : cvT T) (he : Eq16 r s) (p c : Nat) : hl T r p c = hl T s p c := by
  unfold hl
  rw [rnT_eq hc he]
theorem hlS_eq {T : Nat → Nat → Int32} {r s : Nat → Int32} (hc : cvT T) (he : Eq16 r s) (p c : Nat) : hlS T r p c = hlS T s p c := by
  unfold hlS
  rw [rnT_eq hc he]
theorem tc_eq {T : Nat → Nat → Int32} {r s : Nat → Int32} (hc : cvT T) (he : Eq16 r s) (p : Nat) : ∀ n, tc T r p n = tc T s p n := by
  intro n
  induction n with
  | zero => rfl
  | succ n ih => unfold tc; rw [hl_eq hc he, ih]
theorem shNx_eq {T : Nat → Nat → Int32} {r s : Nat → Int32} (hc : cvT T) (he : Eq16 r s) (p : Nat) : shNx T r p = shNx T s p := by
  unfold shNx
  rw [he 15 (by decide), tc_eq hc he]
theorem stN_eq {T : Nat → Nat → Int32} {r s : Nat → Int32} (hc : cvT T) (he : Eq16 r s) : ∀ n acc, stN T r n acc = stN T s n acc := by
  intro n
  induction n with
  | zero => intro _; rfl
  | succ n ih => intro acc; unfold stN; rw [shNx_eq hc he, ih]
theorem shOf_l {r s : Nat → Int32} : ∀ n acc, (∀ p, p < n → r (8 + p) = s (8 + p)) → shOf r n acc = shOf s n acc := by
  intro n
  induction n with
  | zero => intro _ _; rfl
  | succ n ih => intro acc h; unfold shOf; rw [h n (by omega), ih _ (fun p hp => h p (by omega))]
theorem shOf_eq {r s : Nat → Int32} (he : Eq16 r s) (n : Nat) (acc : Int32) (hn : n ≤ 6) : shOf r n acc = shOf s n acc := shOf_l n acc (fun p hp => he (8 + p) (by omega))
theorem ptS_c {r s : Nat → Int32} : ∀ (k p : Nat) (a : Int32) (r s : Nat → Int32), EqR r s → EqR (ptS a k p r) (ptS a k p s) := by
  intro k
  induction k with
  | zero => intro p a r s he; exact he
  | succ k ih => intro p a r s he; exact ih (p + 1) _ _ _ (he.upd _ _)
theorem rwe_c {r s : Nat → Int32} (he : EqR r s) (a b c d : Int32) : EqR (rw_end r a b c d) (rw_end s a b c d) := ((((he.upd _ _).upd _ _).upd _ _).upd _ _)
theorem fnd_c {b b' : Nat → Int32} {s : Int32} : ∀ n, (∀ i, i < n → b i = b' i) → fnd b s n = fnd b' s n := by
  intro n
  induction n with
  | zero => intro _; rfl
  | succ n ih => intro h; unfold fnd; rw [h n (by omega), ih (fun i hi => h i (by omega))]
theorem unI_c {b b' : Nat → Int32} {fr s : Nat} (h1 : b fr = b' fr) (h2 : b s = b' s) : ∀ k p acc, unI b fr s k p acc = unI b' fr s k p acc := by
  intro k
  induction k with
  | zero => intro p acc; rfl
  | succ k ih => intro p acc; unfold unI; rw [h1, h2, ih]
theorem unO_c {b b' : Nat → Int32} {P fr : Nat} (h1 : b fr = b' fr) : ∀ n s acc, (∀ i, s ≤ i → i < s + n → b i = b' i) → unO b P fr n s acc = unO b' P fr n s acc := by
  intro n
  induction n with
  | zero => intro s acc _; rfl
  | succ n ih => intro s acc h; unfold unO; rw [unI_c h1 (h s (Nat.le_refl _) (by omega)), ih _ _ (fun i h2 h3 => h i (by omega) (by omega))]
theorem fnd_lt {b : Nat → Int32} {s : Int32} : ∀ n j, fnd b s n = some j → j < n ∧ b j = s := by
  intro n
  induction n with
  | zero => intro j h; cases h
  | succ n ih =>
    intro j h
    unfold fnd at h
    split at h
    · rename_i e
      cases h
      exact ⟨by omega, e⟩
    · obtain ⟨h1, h2⟩ := ih j h
      exact ⟨by omega, h2⟩
theorem fnd_no {b : Nat → Int32} {s : Int32} : ∀ n, fnd b s n = none → ∀ j, j < n → b j ≠ s := by
  intro n
  induction n with
  | zero => intro _ j hj; omega
  | succ n ih =>
    intro h j hj
    unfold fnd at h
    split at h
    · cases h
    · rename_i e
      by_cases q : j = n
      · subst q; exact e
      · exact ih h j (by omega)
theorem setl_c {T : Nat → Nat → Int32} {P : Nat} (hc : cvT T) : ∀ f k b b' r r', 1 ≤ k → (∀ i, i < k → b i = b' i) → EqR r r' → EqR (setl T P f k b r) (setl T P f k b' r') := by
  intro f
  induction f with
  | zero => intro k b b' r r' _ _ he; exact rwe_c he _ _ _ _
  | succ f ih =>
    intro k b b' r r' hk hb he
    unfold setl
    rw [stN_eq hc he.to, hb (k - 1) (by omega), fnd_c (b := b) (b' := b') (k - 1) (fun i hi => hb i (by omega))]
    by_cases h1 : stN T r' P 0 = b' (k - 1)
    · rw [if_pos h1, if_pos h1]; exact rwe_c he _ _ _ _
    · rw [if_neg h1, if_neg h1]
      cases h2 : fnd b' (stN T r' P 0) (k - 1) with
      | some j =>
        have hj := (fnd_lt _ _ h2).1
        dsimp only
        rw [unO_c (b := b) (b' := b') (hb j (by omega)) _ _ _ (fun i h3 h4 => hb i (by omega))]
        exact rwe_c (ptS_c (r := r) (s := r') _ _ _ _ _ he) _ _ _ _
      | none =>
        dsimp only
        refine ih (k + 1) _ _ _ _ (by omega) (fun i hi => ?_) (ptS_c (r := r) (s := r') _ _ _ _ _ he)
        by_cases e : i = k
        · subst e; rw [up_same, up_same]
        · rw [up_ne e, up_ne e]; exact hb i (by omega)
theorem setR_c {T : Nat → Nat → Int32} {b b' r r' : Nat → Int32} (hc : cvT T) (he : EqR r r') : EqR (setR T b r) (setR T b' r') := by
  unfold setR
  rw [shOf_eq he.to _ _ (Nat.le_refl _)]
  exact setl_c hc _ _ _ _ _ _ (Nat.le_refl _) (fun i hi => by rw [show i = 0 by omega, up_same, up_same]) he
theorem lawV_eq {T : Nat → Nat → Int32} {r s : Nat → Int32} (hc : cvT T) (he : EqR r s) {f : Nat} (hf : f < 8) : lawV T r f = lawV T s f := by
  unfold lawV
  rw [rnT_eq hc he.to, he f (by omega)]
theorem sl_c {T : Nat → Nat → Int32} {seed : Int32} {fr fr' : Nat → Int32} : ∀ k f r r', f + k ≤ 8 → (∀ i, i < 8 → fr i = fr' i) → EqR r r' → EqR (sl T seed fr k f r) (sl T seed fr' k f r') := by
  intro k
  induction k with
  | zero => intro f r r' _ _ he; exact he
  | succ k ih =>
    intro f r r' hf hfr he
    unfold sl
    rw [hfr f (by omega), he 14 (by decide)]
    exact ih (f + 1) _ _ (by omega) hfr (he.upd _ _)
theorem dayR_c {T : Nat → Nat → Int32} {seed : Int32} {b b' r r' : Nat → Int32} (hc : cvT T) (hf : fOk T) (he : EqR r r') : EqR (dayR T seed b r) (dayR T seed b' r') := by
  unfold dayR
  have h8 := hf.2
  have e := sl_c (T := T) (seed := seed) (tn (T 0 0)) 0 r r' (by omega) (fun i hi => lawV_eq hc he hi) he
  rw [e 14 (by decide)]
  exact setR_c hc (e.upd _ _)
/-- the spec's words: settled, a day on, in the beginning of a world -/
def setS (T : Nat → Nat → Int32) (r : Nat → Int32) : Nat → Int32 := setR T (fun _ => 0) r
def dayS (T : Nat → Nat → Int32) (seed : Int32) (r : Nat → Int32) : Nat → Int32 := dayR T seed (fun _ => 0) r
def begS (T : Nat → Nat → Int32) (w : Int32) : Nat → Int32 := setS T (ptF T (tn (T 0 0)) 0 w (fun _ => 0))
theorem ptF_c {T : Nat → Nat → Int32} : ∀ (k f : Nat) (w : Int32) (r s : Nat → Int32), EqR r s → EqR (ptF T k f w r) (ptF T k f w s) := by
  intro k
  induction k with
  | zero => intro f w r s he; exact he
  | succ k ih => intro f w r s he; exact ih (f + 1) _ _ _ (he.upd _ _)
theorem begR_S {T : Nat → Nat → Int32} {b r : Nat → Int32} {w : Int32} (hc : cvT T) : EqR (begR T b w r) (begS T w) := by
  unfold begR begS setS
  exact setR_c hc (ptF_c _ _ _ _ _ (fun i hi => by unfold filI; rw [if_pos hi]))
