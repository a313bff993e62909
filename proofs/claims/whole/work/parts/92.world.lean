/-! WORLDS AS NUMBERS -/
theorem z_rem {a d : Nat} : nI a - nI (a / d * d) = nI (a % d) := by
  rw [pk_sub (Nat.div_mul_le_self a d)]
  congr 1
  have := Nat.div_add_mod a d
  rw [Nat.mul_comm] at this
  omega
theorem prd_pos {m : Nat → Nat} : ∀ n, 0 < prd m n := by
  intro n
  induction n with
  | zero => exact Nat.one_pos
  | succ n ih => exact Nat.mul_pos ih (Nat.succ_pos _)
theorem prd_mono {m : Nat → Nat} {a : Nat} : ∀ k, prd m a ≤ prd m (a + k) := by
  intro k
  induction k with
  | zero => exact Nat.le_refl _
  | succ k ih => exact Nat.le_trans ih (Nat.le_mul_of_pos_right _ (Nat.succ_pos _))
/-- fact f in world w -/
def fIn (m : Nat → Nat) (w f : Nat) : Nat := w / prd m f % (m f + 1)
theorem fIn_lt {m : Nat → Nat} {w f : Nat} : fIn m w f ≤ m f := Nat.le_of_lt_succ (Nat.mod_lt _ (Nat.succ_pos _))
/-- the world of digits d -/
def wOf (m d : Nat → Nat) : Nat → Nat
  | 0 => 0
  | n + 1 => wOf m d n + d n * prd m n
theorem wOf_lt {m d : Nat → Nat} : ∀ n, (∀ f, f < n → d f ≤ m f) → wOf m d n < prd m n := by
  intro n
  induction n with
  | zero => intro _; exact Nat.one_pos
  | succ n ih =>
    intro h
    have h1 := ih (fun f hf => h f (by omega))
    have h2 : d n * prd m n ≤ m n * prd m n := Nat.mul_le_mul_right _ (h n (by omega))
    show wOf m d n + d n * prd m n < prd m n * (m n + 1)
    rw [Nat.mul_add, Nat.mul_one, Nat.mul_comm (prd m n)]
    omega
theorem prd_dvd {m : Nat → Nat} {a : Nat} : ∀ k, ∃ q, prd m (a + k) = prd m a * q := by
  intro k
  induction k with
  | zero => exact ⟨1, (Nat.mul_one _).symm⟩
  | succ k ih =>
    obtain ⟨q, e⟩ := ih
    refine ⟨q * (m (a + k) + 1), ?_⟩
    show prd m (a + k) * (m (a + k) + 1) = _
    rw [e, Nat.mul_assoc]
theorem wOf_dig {m d : Nat → Nat} : ∀ n f, (∀ g, g < n → d g ≤ m g) → f < n → fIn m (wOf m d n) f = d f := by
  intro n
  induction n with
  | zero => intro f _ hf; omega
  | succ n ih =>
    intro f h hf
    have h1 := wOf_lt n (fun g hg => h g (by omega))
    unfold fIn
    show (wOf m d n + d n * prd m n) / prd m f % (m f + 1) = d f
    by_cases e : f = n
    · subst e
      rw [Nat.add_mul_div_right _ _ (prd_pos f), Nat.div_eq_of_lt h1, Nat.zero_add]
      exact Nat.mod_eq_of_lt (Nat.lt_succ_of_le (h f (by omega)))
    · obtain ⟨q, eq⟩ := prd_dvd (m := m) (a := f + 1) (n - (f + 1))
      rw [show f + 1 + (n - (f + 1)) = n by omega] at eq
      have e1 : d n * prd m n = (d n * q * (m f + 1)) * prd m f := by
        rw [eq, show prd m (f + 1) = prd m f * (m f + 1) from rfl, Nat.mul_assoc (d n), Nat.mul_assoc (d n)]
        congr 1
        rw [Nat.mul_comm, Nat.mul_comm (prd m f), Nat.mul_assoc]
      rw [e1, Nat.add_mul_div_right _ _ (prd_pos f), Nat.add_mul_mod_self_right]
      exact ih f (fun g hg => h g (by omega)) (by omega)
theorem wOf_fIn {m : Nat → Nat} {w : Nat} : ∀ n, wOf m (fIn m w) n = w % prd m n := by
  intro n
  induction n with
  | zero => show 0 = w % 1; rw [Nat.mod_one]
  | succ n ih =>
    show wOf m (fIn m w) n + w / prd m n % (m n + 1) * prd m n = w % (prd m n * (m n + 1))
    rw [ih, Nat.mod_mul, Nat.mul_comm (prd m n)]
theorem wOf_c {m d e : Nat → Nat} : ∀ n, (∀ f, f < n → d f = e f) → wOf m d n = wOf m e n := by
  intro n
  induction n with
  | zero => intro _; rfl
  | succ n ih =>
    intro h
    show wOf m d n + d n * prd m n = wOf m e n + e n * prd m n
    rw [ih (fun f hf => h f (by omega)), h n (by omega)]
theorem w_eq {m : Nat → Nat} {n w v : Nat} (hw : w < prd m n) (hv : v < prd m n) (h : ∀ f, f < n → fIn m w f = fIn m v f) : w = v := by
  have e := wOf_c (m := m) n h
  rw [wOf_fIn, wOf_fIn, Nat.mod_eq_of_lt hw, Nat.mod_eq_of_lt hv] at e
  exact e
def wN (T : Nat → Nat → Int32) : Nat := prd (mo T) (tn (T 0 0))
section TW
variable {T : Nat → Nat → Int32}
theorem mo_n (ht : tNum T) {f : Nat} (hf : f < tn (T 0 0)) : T 1 f = nI (mo T f) ∧ 1 ≤ mo T f ∧ mo T f ≤ 3 := by
  obtain ⟨m, h1, h3, e⟩ := ht.2.2 f hf
  unfold mo
  rw [e, tn_nI (by omega)]
  exact ⟨rfl, h1, h3⟩
theorem prd_le {f : Nat} (hf : f ≤ tn (T 0 0)) (hw : tW T) : prd (mo T) f ≤ 2000 := by
  have := prd_mono (m := mo T) (a := f) (tn (T 0 0) - f)
  rw [show f + (tn (T 0 0) - f) = tn (T 0 0) by omega] at this
  exact Nat.le_trans this hw.1
theorem ptF_at (ht : tNum T) {a : Nat} (ha : a < 2 ^ 31) : ∀ (k f : Nat) (r : Nat → Int32), f + k ≤ tn (T 0 0) → ∀ i, ptF T k f (nI (a / prd (mo T) f)) r i = if f ≤ i ∧ i < f + k then nI (fIn (mo T) a i) else r i := by
  intro k
  induction k with
  | zero => intro f r _ i; rw [if_neg (by omega)]; rfl
  | succ k ih =>
    intro f r hk i
    obtain ⟨e1, m1, m3⟩ := mo_n ht (f := f) (by omega)
    have hle : a / prd (mo T) f ≤ a := Nat.div_le_self _ _
    show ptF T k (f + 1) (nI (a / prd (mo T) f) / (T 1 f + 1)) (up r f (nI (a / prd (mo T) f) - nI (a / prd (mo T) f) / (T 1 f + 1) * (T 1 f + 1))) i = _
    rw [e1, nI_1, pk_rem (by omega) (by omega) (by omega), pk_div (by omega) (by omega) (by omega), Nat.div_div_eq_div_mul, show prd (mo T) f * (mo T f + 1) = prd (mo T) (f + 1) from rfl, ih (f + 1) _ (by omega) i]
    by_cases e : i = f
    · subst e
      rw [if_neg (by omega), if_pos (by omega), up_same]
      rfl
    · by_cases h : f + 1 ≤ i ∧ i < f + 1 + k
      · rw [if_pos h, if_pos (by omega)]
      · rw [if_neg h, if_neg (by omega), up_ne e]
/-- a row with the facts of world w -/
def wRow (T : Nat → Nat → Int32) (w : Nat) (r : Nat → Int32) : Nat → Int32 := fun i => if i < tn (T 0 0) then nI (fIn (mo T) w i) else r i
theorem ptF_w (ht : tNum T) {w : Nat} (hw : w < 2 ^ 31) (r : Nat → Int32) : ptF T (tn (T 0 0)) 0 (nI w) r = wRow T w r := by
  funext i
  have := ptF_at ht hw (tn (T 0 0)) 0 r (by omega) i
  rw [show prd (mo T) 0 = 1 from rfl, Nat.div_one] at this
  rw [this]
  unfold wRow
  by_cases h : i < tn (T 0 0)
  · rw [if_pos (by omega), if_pos h]
  · rw [if_neg (by omega), if_neg h]
theorem wsum_at (hw : tW T) {r : Nat → Int32} {d : Nat → Nat} : ∀ k f a, f + k ≤ tn (T 0 0) → (∀ g, g < f + k → r g = nI (d g)) → a = wOf (mo T) d f → wsum T r k f (nI a) = nI (wOf (mo T) d (f + k)) := by
  intro k
  induction k with
  | zero => intro f a _ _ e; rw [e]; rfl
  | succ k ih =>
    intro f a hk hr e
    show wsum T r k (f + 1) (nI a + r f * T 3 f) = _
    rw [hr f (by omega), hw.2.2 f (by omega), pk_mul, nI_add, ih (f + 1) _ (by omega) (fun g hg => hr g (by omega)) (by rw [e]; rfl), show f + 1 + k = f + (k + 1) by omega]
def fdg (r : Nat → Int32) (f : Nat) : Nat := tn (r f)
theorem rOk.f {r : Nat → Int32} (hr : rOk T r) (ht : tNum T) {f : Nat} (hf : f < tn (T 0 0)) : r f = nI (fdg r f) ∧ fdg r f ≤ mo T f := by
  obtain ⟨m, h1, e⟩ := hr.2.1 f hf
  have h3 := (mo_n ht hf).2.2
  have h1 : m ≤ mo T f := h1
  unfold fdg
  rw [e, tn_nI (by omega)]
  exact ⟨rfl, h1⟩
/-- the world of a row -/
def wNow (T : Nat → Nat → Int32) (r : Nat → Int32) : Nat := wOf (mo T) (fdg r) (tn (T 0 0))
theorem wsum_w (ht : tNum T) (hw : tW T) {r : Nat → Int32} (hr : rOk T r) : wsum T r (tn (T 0 0)) 0 0 = nI (wNow T r) := by
  have := wsum_at hw (r := r) (d := fdg r) (tn (T 0 0)) 0 0 (by omega) (fun g hg => (hr.f ht (by omega)).1) rfl
  rw [Nat.zero_add] at this
  exact this
theorem wNow_lt (ht : tNum T) {r : Nat → Int32} (hr : rOk T r) : wNow T r < wN T := wOf_lt _ (fun f hf => (hr.f ht hf).2)
/-- in how many of the first n facts world w is unlike a row -/
def unk (T : Nat → Nat → Int32) (r : Nat → Int32) (w : Nat) : Nat → Nat
  | 0 => 0
  | n + 1 => if nI (fIn (mo T) w n) = r n then unk T r w n else unk T r w n + 1
theorem unk_le {r : Nat → Int32} {w : Nat} : ∀ n, unk T r w n ≤ n := by
  intro n
  induction n with
  | zero => exact Nat.le_refl _
  | succ n ih =>
    unfold unk
    split
    · omega
    · omega
theorem unl_at (ht : tNum T) {r : Nat → Int32} {w : Nat} (hw : w < 2 ^ 31) : ∀ k f c, f + k ≤ tn (T 0 0) → c = unk T r w f → unl T r k f (nI (w / prd (mo T) f)) (nI c) = nI (unk T r w (f + k)) := by
  intro k
  induction k with
  | zero => intro f c _ e; rw [e]; rfl
  | succ k ih =>
    intro f c hk e
    obtain ⟨e1, m1, m3⟩ := mo_n ht (f := f) (by omega)
    have hle : w / prd (mo T) f ≤ w := Nat.div_le_self _ _
    unfold unl
    rw [e1, nI_1 (mo T f), pk_rem (by omega) (by omega) (by omega), pk_div (by omega) (by omega) (by omega), Nat.div_div_eq_div_mul, show prd (mo T) f * (mo T f + 1) = prd (mo T) (f + 1) from rfl, show f + (k + 1) = f + 1 + k by omega]
    have eu : unk T r w (f + 1) = if nI (fIn (mo T) w f) = r f then unk T r w f else unk T r w f + 1 := rfl
    by_cases q : nI (fIn (mo T) w f) = r f
    · rw [if_pos q] at eu
      rw [if_pos (show nI (w / prd (mo T) f % (mo T f + 1)) = r f from q)]
      exact ih (f + 1) c (by omega) (by rw [eu]; exact e)
    · rw [if_neg q] at eu
      rw [if_neg (show ¬ nI (w / prd (mo T) f % (mo T f + 1)) = r f from q), nI_1]
      exact ih (f + 1) (c + 1) (by omega) (by rw [eu, e])
theorem unl_w (ht : tNum T) {r : Nat → Int32} {w : Nat} (hw : w < 2 ^ 31) : unl T r (tn (T 0 0)) 0 (nI w) 0 = nI (unk T r w (tn (T 0 0))) := by
  have := unl_at ht (r := r) hw (tn (T 0 0)) 0 0 (by omega) rfl
  rw [show prd (mo T) 0 = 1 from rfl, Nat.div_one, Nat.zero_add] at this
  exact this
end TW
/-! rows keep what they must -/
section RK
variable {T : Nat → Nat → Int32}
theorem setl_k (ht : tNum T) (hP : tn (T 0 1) ≤ 6) : ∀ f k b r, rSh T r → rSh T (setl T (tn (T 0 1)) f k b r) ∧ ∀ i, i < 8 ∨ i = 14 ∨ i = 15 → setl T (tn (T 0 1)) f k b r i = r i := by
  have re : ∀ (r : Nat → Int32) (a b c d : Int32), rSh T r → rSh T (rw_end r a b c d) ∧ ∀ i, i < 8 ∨ i = 14 ∨ i = 15 → rw_end r a b c d i = r i := by
    intro r a b c d h
    exact ⟨⟨fun p hp => by rw [rwe_Eq _ (by omega)]; exact h.1 p hp, fun p hp q => by rw [rwe_Eq _ (by omega)]; exact h.2 p hp q⟩, fun i hi => rwe_Eq i (by omega)⟩
  have st : ∀ (r : Nat → Int32) i, i < 8 ∨ i = 14 ∨ i = 15 → stR T r i = r i := by
    intro r i hi
    unfold stR
    rw [if_neg (by omega)]
  intro f
  induction f with
  | zero => intro k b r h; exact re r _ _ _ _ h
  | succ f ih =>
    intro k b r h
    unfold setl
    rw [ptS_st ht hP h]
    have hs := stR_sh ht hP h
    split
    · exact re r _ _ _ _ h
    · cases hf : fnd b (stN T r (tn (T 0 1)) 0) (k - 1) with
      | some j =>
        dsimp only
        obtain ⟨h1, h2⟩ := re (stR T r) 1 (nI k) (nI (k - j)) (unO b (tn (T 0 1)) j (k - (j + 1)) (j + 1) 0) hs
        exact ⟨h1, fun i hi => (h2 i hi).trans (st r i hi)⟩
      | none =>
        dsimp only
        obtain ⟨h1, h2⟩ := ih (k + 1) (up b k (stN T r (tn (T 0 1)) 0)) (stR T r) hs
        exact ⟨h1, fun i hi => (h2 i hi).trans (st r i hi)⟩
theorem rOk_set (t : tA T) {r : Nat → Int32} (hr : rOk T r) : rOk T (setS T r) := by
  have f8 := t.f8
  obtain ⟨h1, h2⟩ := setl_k t.n t.p6 300 1 (up (fun _ => 0) 0 (shOf r 6 0)) r hr.1
  exact ⟨h1, fun f hf => by rw [show setS T r f = r f from h2 f (by omega)]; exact hr.2.1 f hf, fun f hf h => by rw [show setS T r f = r f from h2 f (by omega)]; exact hr.2.2 f hf h⟩
theorem setS_i (t : tA T) {r : Nat → Int32} (hr : rOk T r) {i : Nat} (hi : i < 8 ∨ i = 14 ∨ i = 15) : setS T r i = r i := (setl_k t.n t.p6 300 1 (up (fun _ => 0) 0 (shOf r 6 0)) r hr.1).2 i hi
theorem sl_k (t : tA T) {seed : Int32} {s : Nat → Int32} (hs : rOk T s) : ∀ k f r, f + k ≤ tn (T 0 0) → rOk T r → rOk T (sl T seed (lawV T s) k f r) := by
  have f8 := t.f8
  intro k
  induction k with
  | zero => intro f r _ h; exact h
  | succ k ih =>
    intro f r hf h
    unfold sl
    refine ih (f + 1) _ (by omega) ?_
    obtain ⟨em, m1, m3⟩ := mo_n t.n (f := f) (by omega)
    obtain ⟨c, hc, ec⟩ := lawV_n (r := s) em m3 ⟨_, (hs.f t.n (by omega)).2, (hs.f t.n (by omega)).1⟩
    have hv : ∃ m, m ≤ mo T f ∧ slv T seed (r 14) (lawV T s f) f = nI m := by
      rw [ec, slv_r t.s em m3 hc]
      split
      · exact ⟨c, hc, rfl⟩
      · rename_i q
        split
        · rename_i q2
          rw [nI_1]
          refine ⟨c + 1, ?_, rfl⟩
          rw [em] at q2
          have : c ≠ mo T f := fun q3 => q2 (by rw [q3])
          omega
        · exact ⟨0, by omega, rfl⟩
    refine ⟨⟨fun p hp => by rw [up_ne (by omega)]; exact h.1.1 p hp, fun p hp q => by rw [up_ne (by omega)]; exact h.1.2 p hp q⟩, fun g hg => ?_, fun g hg h8 => by rw [up_ne (by omega)]; exact h.2.2 g hg h8⟩
    by_cases e : g = f
    · subst e; rw [up_same]; exact hv
    · rw [up_ne e]; exact h.2.1 g hg
theorem rOk_up {r : Nat → Int32} {i : Nat} {v : Int32} (hi : 14 ≤ i) (h : rOk T r) (h8 : tn (T 0 0) ≤ 8) : rOk T (up r i v) := ⟨⟨fun p hp => by rw [up_ne (by omega)]; exact h.1.1 p hp, fun p hp q => by rw [up_ne (by omega)]; exact h.1.2 p hp q⟩, fun f hf => by rw [up_ne (by omega)]; exact h.2.1 f hf, fun f hf q => by rw [up_ne (by omega)]; exact h.2.2 f hf q⟩
theorem rOk_day (t : tA T) {seed : Int32} {r : Nat → Int32} (hr : rOk T r) : rOk T (dayS T seed r) := rOk_set t (rOk_up (by decide) (sl_k t hr _ _ _ (by omega) hr) t.f8)
theorem rOk_w (t : tA T) {w : Nat} {r : Nat → Int32} (hr : rOk T r) : rOk T (wRow T w r) := by
  have f8 := t.f8
  refine ⟨⟨fun p hp => ?_, fun p hp q => ?_⟩, fun f hf => ?_, fun f hf q => ?_⟩
  · unfold wRow; rw [if_neg (by omega)]; exact hr.1.1 p hp
  · unfold wRow; rw [if_neg (by omega)]; exact hr.1.2 p hp q
  · unfold wRow; rw [if_pos hf]; exact ⟨_, fIn_lt, rfl⟩
  · unfold wRow; rw [if_neg (by omega)]; exact hr.2.2 f hf q
theorem rOk_z (t : tA T) {w : Nat} : rOk T (wRow T w (fun _ => 0)) := by
  have f8 := t.f8
  refine ⟨⟨fun p hp => ?_, fun p hp q => ?_⟩, fun f hf => ?_, fun f hf q => ?_⟩
  · unfold wRow; rw [if_neg (by omega)]; exact ⟨0, by decide, rfl⟩
  · unfold wRow; rw [if_neg (by omega)]; rfl
  · unfold wRow; rw [if_pos hf]; exact ⟨_, fIn_lt, rfl⟩
  · unfold wRow; rw [if_neg (by omega)]; rfl
theorem rOk_e {r s : Nat → Int32} (hr : rOk T r) (e : EqR r s) (h8 : tn (T 0 0) ≤ 8) : rOk T s := ⟨⟨fun p hp => by rw [← e (8 + p) (by omega)]; exact hr.1.1 p hp, fun p hp q => by rw [← e (8 + p) (by omega)]; exact hr.1.2 p hp q⟩, fun f hf => by rw [← e f (by omega)]; exact hr.2.1 f hf, fun f hf q => by rw [← e f (by omega)]; exact hr.2.2 f hf q⟩
end RK
