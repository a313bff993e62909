/-! FROM THE BEGINNING: rows by world and day -/
def bR (T : Nat → Nat → Int32) (w : Nat) : Nat → Int32 := setS T (wRow T w (fun _ => 0))
def bD (T : Nat → Nat → Int32) (w d : Nat) : Nat → Int32 := dN T (T 0 3) d (bR T w)
/-- all shades of world w behind d days, as a number -/
def bsh (T : Nat → Nat → Int32) (w d : Nat) : Nat := num (rdg (bD T w d)) 6
/-- facts and shades as one number -/
def stn (T : Nat → Nat → Int32) (r : Nat → Int32) : Nat := wNow T r * 15625 + num (rdg r) 6
def stRow (T : Nat → Nat → Int32) (st e : Nat) : Nat → Int32 := fun i => if i < tn (T 0 0) then nI (fIn (mo T) (st / 15625) i) else if 8 ≤ i ∧ i < 14 then nI (dg (st % 15625) (i - 8)) else if i = 14 then nI e else nI 0
def nxt (T : Nat → Nat → Int32) (e st : Nat) : Nat := stn T (dayS T (T 0 3) (stRow T st e))
theorem rwe_16c {r s : Nat → Int32} (he : Eq16 r s) (a b c d : Int32) : EqR (rw_end r a b c d) (rw_end s a b c d) := by
  intro i hi
  by_cases h6 : i = 16
  · subst h6; rfl
  · by_cases h9 : i = 19
    · subst h9; rfl
    · by_cases h8 : i = 18
      · subst h8; rfl
      · by_cases h7 : i = 17
        · subst h7; rfl
        · unfold rw_end
          rw [up_ne h6, up_ne h9, up_ne h8, up_ne h7, up_ne h6, up_ne h9, up_ne h8, up_ne h7]
          exact he i (by omega)
theorem Eq16.upd {r s : Nat → Int32} (h : Eq16 r s) (j : Nat) (v : Int32) : Eq16 (up r j v) (up s j v) := by
  intro i hi
  by_cases e : i = j
  · subst e; rw [up_same, up_same]
  · rw [up_ne e, up_ne e]; exact h i hi
theorem ptS_16 : ∀ (k p : Nat) (a : Int32) (r s : Nat → Int32), Eq16 r s → Eq16 (ptS a k p r) (ptS a k p s) := by
  intro k
  induction k with
  | zero => intro p a r s he; exact he
  | succ k ih => intro p a r s he; exact ih (p + 1) _ _ _ (he.upd _ _)
theorem setl_16 {T : Nat → Nat → Int32} {P : Nat} (hc : cvT T) : ∀ f k b b' r r', 1 ≤ k → (∀ i, i < k → b i = b' i) → Eq16 r r' → EqR (setl T P f k b r) (setl T P f k b' r') := by
  intro f
  induction f with
  | zero => intro k b b' r r' _ _ he; exact rwe_16c he _ _ _ _
  | succ f ih =>
    intro k b b' r r' hk hb he
    unfold setl
    rw [stN_eq hc he, hb (k - 1) (by omega), fnd_c (b := b) (b' := b') (k - 1) (fun i hi => hb i (by omega))]
    by_cases h1 : stN T r' P 0 = b' (k - 1)
    · rw [if_pos h1, if_pos h1]; exact rwe_16c he _ _ _ _
    · rw [if_neg h1, if_neg h1]
      cases h2 : fnd b' (stN T r' P 0) (k - 1) with
      | some j =>
        have hj := (fnd_lt _ _ h2).1
        dsimp only
        rw [unO_c (b := b) (b' := b') (hb j (by omega)) _ _ _ (fun i h3 h4 => hb i (by omega))]
        exact rwe_16c (ptS_16 _ _ _ _ _ he) _ _ _ _
      | none =>
        dsimp only
        refine ih (k + 1) _ _ _ _ (by omega) (fun i hi => ?_) (ptS_16 _ _ _ _ _ he)
        by_cases e : i = k
        · subst e; rw [up_same, up_same]
        · rw [up_ne e, up_ne e]; exact hb i (by omega)
theorem setS_16 {T : Nat → Nat → Int32} {r r' : Nat → Int32} (hc : cvT T) (he : Eq16 r r') : EqR (setS T r) (setS T r') := by
  unfold setS setR
  rw [shOf_eq he _ _ (Nat.le_refl _)]
  exact setl_16 hc _ _ _ _ _ _ (Nat.le_refl _) (fun i hi => rfl) he
theorem sl_16 {T : Nat → Nat → Int32} {seed : Int32} {fr fr' : Nat → Int32} : ∀ k f r r', f + k ≤ 8 → (∀ i, i < 8 → fr i = fr' i) → Eq16 r r' → Eq16 (sl T seed fr k f r) (sl T seed fr' k f r') := by
  intro k
  induction k with
  | zero => intro f r r' _ _ he; exact he
  | succ k ih =>
    intro f r r' hf hfr he
    unfold sl
    rw [hfr f (by omega), he 14 (by decide)]
    exact ih (f + 1) _ _ (by omega) hfr (he.upd _ _)
theorem dayS_16 {T : Nat → Nat → Int32} {seed : Int32} {r r' : Nat → Int32} (t : tA T) (he : Eq16 r r') : EqR (dayS T seed r) (dayS T seed r') := by
  have h8 := t.f8
  have hl : ∀ i, i < 8 → lawV T r i = lawV T r' i := fun i hi => by
    unfold lawV
    rw [rnT_eq t.cv he, he i (by omega)]
  have e := sl_16 (T := T) (seed := seed) (tn (T 0 0)) 0 r r' (by omega) hl he
  show EqR (setS T (up (sl T seed (lawV T r) (tn (T 0 0)) 0 r) 14 _)) (setS T (up (sl T seed (lawV T r') (tn (T 0 0)) 0 r') 14 _))
  rw [e 14 (by decide)]
  exact setS_16 t.cv (e.upd _ _)
section BS
variable {T : Nat → Nat → Int32}
theorem dayS_1415 (t : tA T) {seed : Int32} {r : Nat → Int32} (hr : rOk T r) : dayS T seed r 14 = r 14 + 1 ∧ dayS T seed r 15 = r 15 := by
  have h8 := t.f8
  have hk : rOk T (up (sl T seed (lawV T r) (tn (T 0 0)) 0 r) 14 (sl T seed (lawV T r) (tn (T 0 0)) 0 r 14 + 1)) := rOk_up (by decide) (sl_k t hr _ _ _ (by omega) hr) h8
  have e14 : sl T seed (lawV T r) (tn (T 0 0)) 0 r 14 = r 14 := sl_at _ _ _ _ (by omega) (by decide)
  have e15 : sl T seed (lawV T r) (tn (T 0 0)) 0 r 15 = r 15 := sl_at _ _ _ _ (by omega) (by decide)
  constructor
  · refine (setS_i t hk (i := 14) (by omega)).trans ?_
    rw [up_same, e14]
  · refine (setS_i t hk (i := 15) (by omega)).trans ?_
    rw [up_ne (by decide), e15]
theorem bR_ok (t : tA T) (w : Nat) : rOk T (bR T w) ∧ bR T w 14 = nI 0 ∧ bR T w 15 = nI 0 := by
  have h8 := t.f8
  have hz := rOk_z (w := w) t
  refine ⟨rOk_set t hz, ?_, ?_⟩
  · refine (setS_i t hz (i := 14) (by omega)).trans ?_
    unfold wRow
    rw [if_neg (by omega)]
    rfl
  · refine (setS_i t hz (i := 15) (by omega)).trans ?_
    unfold wRow
    rw [if_neg (by omega)]
    rfl
theorem bD_ok (t : tA T) (w : Nat) : ∀ d, rOk T (bD T w d) ∧ bD T w d 14 = nI d ∧ bD T w d 15 = nI 0 := by
  intro d
  induction d with
  | zero => exact bR_ok t w
  | succ d ih =>
    obtain ⟨h1, h2, h3⟩ := ih
    have e : bD T w (d + 1) = dayS T (T 0 3) (bD T w d) := dN_s d _
    rw [e]
    obtain ⟨q1, q2⟩ := dayS_1415 t (seed := T 0 3) h1
    exact ⟨rOk_day t h1, by rw [q1, h2, nI_1], by rw [q2, h3]⟩
theorem wNow_b (t : tA T) {w : Nat} (hw : w < wN T) : wNow T (bR T w) = w := by
  have h8 := t.f8
  have hz := rOk_z (w := w) t
  have e : wNow T (bR T w) = wOf (mo T) (fIn (mo T) w) (tn (T 0 0)) := by
    refine wOf_c _ (fun f hf => ?_)
    have m3 := (mo_n t.n hf).2.2
    have hi : fIn (mo T) w f ≤ mo T f := fIn_lt
    unfold fdg
    rw [show bR T w f = wRow T w (fun _ => 0) f from setS_i t hz (by omega)]
    unfold wRow
    rw [if_pos hf, tn_nI (by omega)]
  rw [e, wOf_fIn]
  exact Nat.mod_eq_of_lt hw
theorem stn_lt (t : tA T) {r : Nat → Int32} (hr : rOk T r) : stn T r < 15625 * wN T ∧ stn T r / 15625 = wNow T r ∧ stn T r % 15625 = num (rdg r) 6 ∧ num (rdg r) 6 < 15625 := by
  have h1 := num_r6 hr.1
  have h2 := wNow_lt t.n hr
  unfold stn
  omega
theorem stRow_of (t : tA T) {r : Nat → Int32} {e : Nat} (hr : rOk T r) (h14 : r 14 = nI e) (h15 : r 15 = nI 0) : Eq16 r (stRow T (stn T r) e) := by
  have h8 := t.f8
  obtain ⟨-, d1, d2, -⟩ := stn_lt t hr
  intro i hi
  unfold stRow
  rw [d1, d2]
  by_cases q : i < tn (T 0 0)
  · rw [if_pos q, (hr.f t.n q).1]
    unfold wNow
    rw [wOf_dig _ i (fun g hg => (hr.f t.n hg).2) q]
  · rw [if_neg q]
    by_cases q2 : 8 ≤ i ∧ i < 14
    · rw [if_pos q2]
      have := dig_r hr.1 (p := i - 8) (by omega)
      rw [show 8 + (i - 8) = i by omega] at this
      exact this.symm
    · rw [if_neg q2]
      by_cases q3 : i = 14
      · rw [if_pos q3, q3]; exact h14
      · rw [if_neg q3]
        by_cases q4 : i = 15
        · rw [q4]; exact h15
        · exact hr.2.2 i (by omega) (by omega)
theorem stRow_ok (t : tA T) {st e : Nat} (h : ∀ p, p < 6 → tn (T 0 1) ≤ p → dg (st % 15625) p = 0) : rOk T (stRow T st e) := by
  have h8 := t.f8
  refine ⟨⟨fun p hp => ?_, fun p hp hq => ?_⟩, fun f hf => ?_, fun f hf h8' => ?_⟩
  · unfold stRow
    rw [if_neg (by omega), if_pos (by omega), Nat.add_sub_cancel_left]
    exact ⟨_, dg_le, rfl⟩
  · unfold stRow
    rw [if_neg (by omega), if_pos (by omega), Nat.add_sub_cancel_left, h p hp hq]
  · unfold stRow
    rw [if_pos hf]
    exact ⟨_, fIn_lt, rfl⟩
  · unfold stRow
    rw [if_neg (by omega), if_neg (by omega), if_neg (by omega)]
theorem stn_e {r s : Nat → Int32} (e : EqR r s) (h8 : tn (T 0 0) ≤ 8) : stn T r = stn T s := by
  unfold stn
  rw [wNow_e e h8, num_e e]
theorem nxt_b (t : tA T) (w d : Nat) : nxt T d (stn T (bD T w d)) = stn T (bD T w (d + 1)) := by
  obtain ⟨h1, h2, h3⟩ := bD_ok t w d
  unfold nxt
  rw [show bD T w (d + 1) = dayS T (T 0 3) (bD T w d) from dN_s d _]
  exact (stn_e (dayS_16 t (stRow_of t h1 h2 h3)) t.f8).symm
/-- the shades of a number are none behind the pages -/
def stOk (T : Nat → Nat → Int32) (st : Nat) : Prop := st < 15625 * wN T ∧ ∀ p, p < 6 → tn (T 0 1) ≤ p → dg (st % 15625) p = 0
theorem stn_ok (t : tA T) {r : Nat → Int32} (hr : rOk T r) : stOk T (stn T r) := by
  obtain ⟨d0, d1, d2, -⟩ := stn_lt t hr
  refine ⟨d0, fun p hp hq => ?_⟩
  rw [d2]
  exact dg0 hr.1 hp hq
theorem nxt_ok (t : tA T) {st e : Nat} (h : stOk T st) : stOk T (nxt T e st) := stn_ok t (rOk_day t (stRow_ok t h.2))
/-- a steady text: each day goes like another -/
theorem rn_eq14 {cd : Nat → Int32} {len : Nat} {r s : Nat → Int32} (hw : ∀ i, i < len → cd i &&& 15 = 1 → ∃ j, j < 14 ∧ cd i >>> (4 &&& 31) = nI j) (he : ∀ i, i < 14 → r i = s i) : ∀ f a st, rn cd len r f a st = rn cd len s f a st := by
  intro f
  induction f with
  | zero => intro a st; rfl
  | succ f ih =>
    intro a st
    unfold rn
    by_cases h1 : len ≤ a
    · rw [if_pos h1, if_pos h1]
    · rw [if_neg h1, if_neg h1]
      by_cases h2 : ¬ 1 < (cd a &&& 15)
      · rw [if_pos h2, if_pos h2]
        have key : (if cd a &&& 15 = 0 then cd a >>> (4 &&& 31) else r (tn (cd a >>> (4 &&& 31)))) = (if cd a &&& 15 = 0 then cd a >>> (4 &&& 31) else s (tn (cd a >>> (4 &&& 31)))) := by
          by_cases h3 : cd a &&& 15 = 0
          · rw [if_pos h3, if_pos h3]
          · rw [if_neg h3, if_neg h3]
            have h4 : cd a &&& 15 = 1 := by
              obtain ⟨j, hj, e⟩ := pk_andE (cd a) (m := 15) 4 (by decide)
              rw [e] at h2 h3 ⊢
              have hj : j < 16 := hj
              have h0 : j ≠ 0 := fun q => h3 (by rw [q]; rfl)
              have h1 : ¬ 1 < j := fun q => h2 (nI_lt (a := 1) q (by omega))
              rw [show j = 1 by omega]
              rfl
            obtain ⟨j, hj, e⟩ := hw a (by omega) h4
            rw [e, tn_nI (by omega)]
            exact he j (by omega)
        rw [key, ih]
      · rw [if_neg h2, if_neg h2]
        match st with
        | [] => rfl
        | [b] => dsimp only; rw [ih, ih]
        | b :: c :: t => dsimp only; rw [ih, ih, ih]
/-- alike but for the day -/
def EqD (r s : Nat → Int32) : Prop := ∀ i, i < 16 → i ≠ 14 → r i = s i
theorem EqD.upd {r s : Nat → Int32} (h : EqD r s) (j : Nat) (v : Int32) : EqD (up r j v) (up s j v) := by
  intro i hi hn
  by_cases e : i = j
  · subst e; rw [up_same, up_same]
  · rw [up_ne e, up_ne e]; exact h i hi hn
section SD
variable (hsd : ∀ i, i < tn (T 0 7) → T 9 i &&& 15 = 1 → ∃ j, j < 14 ∧ T 9 i >>> (4 &&& 31) = nI j)
theorem rnT_D {r s : Nat → Int32} (hsd : ∀ i, i < tn (T 0 7) → T 9 i &&& 15 = 1 → ∃ j, j < 14 ∧ T 9 i >>> (4 &&& 31) = nI j) (he : EqD r s) (x : Int32) : rnT T r x = rnT T s x := by
  unfold rnT
  rw [rn_eq14 hsd (fun i hi => he i (by omega) (by omega))]
theorem shNx_D {r s : Nat → Int32} (hsd : ∀ i, i < tn (T 0 7) → T 9 i &&& 15 = 1 → ∃ j, j < 14 ∧ T 9 i >>> (4 &&& 31) = nI j) (he : EqD r s) (p : Nat) : shNx T r p = shNx T s p := by
  have hh : ∀ c, hl T r p c = hl T s p c := fun c => by unfold hl; rw [rnT_D hsd he]
  have ht : ∀ n, tc T r p n = tc T s p n := by
    intro n
    induction n with
    | zero => rfl
    | succ n ih => unfold tc; rw [hh, ih]
  unfold shNx
  rw [he 15 (by decide) (by decide), ht]
theorem stN_D {r s : Nat → Int32} (hsd : ∀ i, i < tn (T 0 7) → T 9 i &&& 15 = 1 → ∃ j, j < 14 ∧ T 9 i >>> (4 &&& 31) = nI j) (he : EqD r s) : ∀ n acc, stN T r n acc = stN T s n acc := by
  intro n
  induction n with
  | zero => intro _; rfl
  | succ n ih => intro acc; unfold stN; rw [shNx_D hsd he, ih]
theorem rwe_D {r s : Nat → Int32} (he : EqD r s) (a b c d : Int32) : EqD (rw_end r a b c d) (rw_end s a b c d) := (((he.upd _ _).upd _ _).upd _ _).upd _ _
theorem ptS_D : ∀ (k p : Nat) (a : Int32) (r s : Nat → Int32), EqD r s → EqD (ptS a k p r) (ptS a k p s) := by
  intro k
  induction k with
  | zero => intro p a r s he; exact he
  | succ k ih => intro p a r s he; exact ih (p + 1) _ _ _ (he.upd _ _)
theorem setl_D {P : Nat} (hsd : ∀ i, i < tn (T 0 7) → T 9 i &&& 15 = 1 → ∃ j, j < 14 ∧ T 9 i >>> (4 &&& 31) = nI j) : ∀ f k b r r', EqD r r' → EqD (setl T P f k b r) (setl T P f k b r') := by
  intro f
  induction f with
  | zero => intro k b r r' he; exact rwe_D he _ _ _ _
  | succ f ih =>
    intro k b r r' he
    unfold setl
    rw [stN_D hsd he]
    by_cases h1 : stN T r' P 0 = b (k - 1)
    · rw [if_pos h1, if_pos h1]; exact rwe_D he _ _ _ _
    · rw [if_neg h1, if_neg h1]
      cases h2 : fnd b (stN T r' P 0) (k - 1) with
      | some j => exact rwe_D (ptS_D _ _ _ _ _ he) _ _ _ _
      | none => exact ih (k + 1) _ _ _ (ptS_D _ _ _ _ _ he)
theorem setS_D {r r' : Nat → Int32} (hsd : ∀ i, i < tn (T 0 7) → T 9 i &&& 15 = 1 → ∃ j, j < 14 ∧ T 9 i >>> (4 &&& 31) = nI j) (he : EqD r r') : EqD (setS T r) (setS T r') := by
  unfold setS setR
  rw [shOf_l (r := r) (s := r') 6 0 (fun p hp => he (8 + p) (by omega) (by omega))]
  exact setl_D hsd _ _ _ _ _ he
theorem sl_D {seed : Int32} {fr fr' : Nat → Int32} (h2 : T 0 2 = 0) : ∀ k f r r', f + k ≤ 8 → (∀ i, i < 8 → fr i = fr' i) → EqD r r' → EqD (sl T seed fr k f r) (sl T seed fr' k f r') := by
  have e : ∀ z d v g, slv T z d v g = v := fun z d v g => by unfold slv; rw [h2, if_pos (by decide)]
  intro k
  induction k with
  | zero => intro f r r' _ _ he; exact he
  | succ k ih =>
    intro f r r' hf hfr he
    unfold sl
    rw [e, e, hfr f (by omega)]
    exact ih (f + 1) _ _ (by omega) hfr (he.upd _ _)
theorem dayS_D {seed : Int32} {r r' : Nat → Int32} (t : tA T) (h2 : T 0 2 = 0) (hsd : ∀ i, i < tn (T 0 7) → T 9 i &&& 15 = 1 → ∃ j, j < 14 ∧ T 9 i >>> (4 &&& 31) = nI j) (he : EqD r r') : EqD (dayS T seed r) (dayS T seed r') := by
  have h8 := t.f8
  have hl : ∀ i, i < 8 → lawV T r i = lawV T r' i := fun i hi => by
    unfold lawV
    rw [rnT_D hsd he, he i (by omega) (by omega)]
  have e := sl_D (T := T) (seed := seed) h2 (tn (T 0 0)) 0 r r' (by omega) hl he
  show EqD (setS T (up (sl T seed (lawV T r) (tn (T 0 0)) 0 r) 14 _)) (setS T (up (sl T seed (lawV T r') (tn (T 0 0)) 0 r') 14 _))
  refine setS_D hsd (fun i hi hn => ?_)
  rw [up_ne hn, up_ne hn]
  exact e i hi hn
end SD
theorem stn_D {r s : Nat → Int32} (e : EqD r s) (h8 : tn (T 0 0) ≤ 8) : stn T r = stn T s := by
  unfold stn
  rw [show wNow T r = wNow T s from wOf_c _ (fun f hf => by unfold fdg; rw [e f (by omega) (by omega)]), num_congr 6 (fun p hp => show rdg r p = rdg s p by unfold rdg; rw [e (8 + p) (by omega) (by omega)])]
theorem nxt_D (t : tA T) (hs : T 0 8 = 1) {e e' st : Nat} : nxt T e st = nxt T e' st := by
  obtain ⟨h2, hsd⟩ := t.x.2.2.2.2 hs
  refine stn_D (dayS_D t h2 hsd (fun i hi hn => ?_)) t.f8
  unfold stRow
  rw [if_neg hn, if_neg hn]
end BS
