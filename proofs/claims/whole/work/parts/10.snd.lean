/-! FROM THE PURE MACHINE TO THE MACHINE: what stands for what -/
theorem ite_some {α : Type} {c : Prop} [Decidable c] {v w : α} (h : (if c then some v else none) = some w) : c ∧ v = w := by
  by_cases hc : c
  · rw [if_pos hc] at h; exact ⟨hc, Option.some.inj h⟩
  · rw [if_neg hc] at h; cases h
theorem x_op_some {b : Bool} {o o' : XO} (h : x_op b o = some o') : b = true ∧ o = o' := by
  unfold x_op at h
  split at h
  · rename_i hb
    exact ⟨hb, Option.some.inj h⟩
  · cases h
theorem x_jmp_some {b : Bool} {pc : Nat} {off : Int} {f : Nat → XO} {o' : XO} (h : x_jmp b pc off f = some o') : b = true ∧ (pc : Int) + off = ((x_pc pc off : Nat) : Int) ∧ f (x_pc pc off) = o' := by
  unfold x_jmp at h
  split at h
  · rename_i hb
    exact ⟨hb.1, (Int.toNat_of_nonneg hb.2).symm, Option.some.inj h⟩
  · cases h
def g_r (b0 : Nat) (ra : Nat → Nat) (a : Nat) : Nat := if a < 4 then ra a else b0 + (a - 4)
def g_v (b0 : Nat) (ra : Nat → Nat) (v : Value) : Value := match v with
  | .ref a => .ref (g_r b0 ra a)
  | w => w
theorem g_cat {b0 : Nat} {ra : Nat → Nat} (v : Value) : (g_v b0 ra v).category = v.category := by cases v <;> rfl
theorem g_cats {b0 : Nat} {ra : Nat → Nat} (st : List Value) : ((st.map (g_v b0 ra)).map fun v => v.category) = st.map fun v => v.category := by
  rw [List.map_map]
  exact List.map_congr_left fun v _ => g_cat v
def g_ref (ty : FieldType) : Bool := match ty with
  | .int => false
  | .boolean => false
  | _ => true
def g_okt (ty : FieldType) : Bool := match ty with
  | .int => true
  | .boolean => true
  | .object _ => true
  | .array _ => true
  | _ => false
def g_F (b0 : Nat) (ra : Nat → Nat) (h : XH) (a j : Nat) : Value := if g_ref (x_ty (xK h a - 10) j) = true then (if xR h a j = 0 then .null else .ref (g_r b0 ra (xR h a j))) else .int (xI h a j)
def g_E (b0 : Nat) (ra : Nat → Nat) (cA : Nat → ClassId) (h : XH) (a : Nat) : va_E :=
  if xK h a < 10 then (if xK h a = 4 then .inl (cA 4, xN h a, .inr (.inl (xL h a))) else .inl (cA (xK h a), xN h a, .inl (xI h a)))
  else .inr (xK h a - 10, (List.range (x_nf (xK h a - 10))).map (g_F b0 ra h a))
def g_W (b0 : Nat) (ra : Nat → Nat) (cA : Nat → ClassId) (h : XH) : va_W := (List.range (xT h - 4)).map (fun i => (b0 + i, g_E b0 ra cA h (i + 4)))
section GW
variable {b0 : Nat} {ra : Nat → Nat} {cA : Nat → ClassId} {h h' : XH} {a : Nat}
theorem g_W_len : (g_W b0 ra cA h).length = xT h - 4 := by simp [g_W]
theorem g_W_get (i : Nat) : (g_W b0 ra cA h)[i]? = if i < xT h - 4 then some (b0 + i, g_E b0 ra cA h (i + 4)) else none := by
  unfold g_W
  rw [List.getElem?_map]
  by_cases hi : i < xT h - 4
  · rw [List.getElem?_range hi, if_pos hi]; rfl
  · rw [if_neg hi, List.getElem?_eq_none (by simp; omega)]; rfl
theorem g_W_at (h4 : 4 ≤ a) (hT : a < xT h) : (g_W b0 ra cA h)[a - 4]? = some (g_r b0 ra a, g_E b0 ra cA h a) := by
  rw [g_W_get, if_pos (by omega), show a - 4 + 4 = a by omega, g_r, if_neg (by omega)]
theorem g_W_D : va_D (fun q => b0 ≤ q) (g_W b0 ra cA h) := by
  refine ⟨fun i j p q hp hq e => ?_, fun k q hk => ?_⟩
  · rw [g_W_get] at hp hq
    split at hp
    · split at hq
      · cases hp; cases hq
        have : b0 + i = b0 + j := e
        omega
      · cases hq
    · cases hp
  · rw [g_W_get] at hk
    split at hk
    · cases hk
      show b0 ≤ b0 + k
      omega
    · cases hk
theorem g_W_set (he : ∀ x, x ≠ a → g_E b0 ra cA h' x = g_E b0 ra cA h x) (hT : xT h' = xT h) (h4 : 4 ≤ a) : g_W b0 ra cA h' = (g_W b0 ra cA h).set (a - 4) (g_r b0 ra a, g_E b0 ra cA h' a) := by
  apply List.ext_getElem?
  intro i
  rw [g_W_get, List.getElem?_set, g_W_get, g_W_len, hT]
  by_cases hi : a - 4 = i
  · subst hi
    rw [if_pos rfl]
    by_cases hl : a - 4 < xT h - 4
    · rw [if_pos hl, if_pos hl, show a - 4 + 4 = a by omega, g_r, if_neg (by omega)]
    · rw [if_neg hl, if_neg hl]
  · rw [if_neg hi, he (i + 4) (by omega)]
theorem g_W_push (he : ∀ x, x < xT h → g_E b0 ra cA h' x = g_E b0 ra cA h x) (hT : xT h' = xT h + 1) (h4 : 4 ≤ xT h) : g_W b0 ra cA h' = g_W b0 ra cA h ++ [(b0 + (xT h - 4), g_E b0 ra cA h' (xT h))] := by
  apply List.ext_getElem?
  intro i
  rw [g_W_get, hT]
  by_cases hi : i < xT h - 4
  · rw [if_pos (by omega), List.getElem?_append_left (by rw [g_W_len]; exact hi), g_W_get, if_pos hi, he (i + 4) (by omega)]
  · rw [List.getElem?_append_right (by rw [g_W_len]; omega), g_W_len]
    by_cases hj : i = xT h - 4
    · subst hj
      rw [if_pos (by omega), show xT h - 4 + 4 = xT h by omega]
      simp
    · rw [if_neg (by omega), List.getElem?_eq_none (by simp; omega)]
end GW
def x_five (j : Nat) : Int32 := match j with
  | 0 => 1
  | 1 => 5
  | 2 => 25
  | 3 => 125
  | 4 => 625
  | 5 => 3125
  | _ => 15625
def g_tys (cA : Nat → ClassId) : List (ClassId × FieldType) := [(cA 1, .int), (cA 2, .byte), (cA 3, .boolean), (cA 4, .long)]
/-- the heap holds what the pure one says -/
def g_n (b0 : Nat) (ra : Nat → Nat) (cA : Nat → ClassId) (dC : Nat → ClassId) (dI : Nat → Nat → Nat) (L : Nat) (xs : Nat → Int32) (h : XH) (H : Heap) : Prop :=
  va_P (dC, dI) kls (g_W b0 ra cA h) H ∧ H.size = b0 + (xT h - 4) ∧ 4 ≤ xT h ∧ xK h 0 = 1 ∧ xN h 0 = L ∧ xI h 0 = xs ∧ xK h 1 = 1 ∧ xN h 1 = 7 ∧ xI h 1 = x_five ∧ xK h 2 = 0 ∧ xK h 3 = 0 ∧ ∀ a, xT h ≤ a → xK h a = 0
def x_nest (w : Cond) : Bool := match w with
  | .fieldLinkNest .. => true
  | .methodLinkNest .. => true
  | _ => false
/-- the two texts -/
def g_t (b0 : Nat) (ra : Nat → Nat) (s : State) : Prop :=
  vk_R "TrueInk$Reader" 34 "fact mine yours goes page all some part and slips seed if then else this day " (ra 2) s ∧ vk_R "TrueInk$Reader" 264 ";=+-*/<>()" (ra 3) s ∧
  (∃ adK adV : Nat → Nat, vk_S 2 [77, 10] [[102,97,99,116,32,109,105,110,101,32,121,111,117,114,115,32,103,111,101,115,32,112,97,103,101,32,97,108,108,32,115,111,109,101,32,112,97,114,116,32,97,110,100,32,115,108,105,112,115,32,115,101,101,100,32,105,102,32,116,104,101,110,32,101,108,115,101,32,116,104,105,115,32,100,97,121,32], [59,61,43,45,42,47,60,62,40,41]] adK adV (fun q => b0 ≤ q) s s.heap ∧ adK 0 = ra 2 ∧ adK 1 = ra 3) ∧
  va_Z "java/lang/String" "COMPACT_STRINGS" "Z" (.int 1) (fun q => b0 ≤ q) s s.heap ∧ va_Zq "jdk/internal/util/Preconditions" "SIOOBE_FORMATTER" "Ljava/util/function/BiFunction;" (fun q => b0 ≤ q) s s.heap
/-- what the start gives, at a method's entry -/
def g_s (b0 : Nat) (ra : Nat → Nat) (cA : Nat → ClassId) (dC : Nat → ClassId) (dI : Nat → Nat → Nat) (L : Nat) (xs : Nat → Int32) (s : State) : Prop :=
  va_K (dC, dI) kls (g_tys cA) s ∧ va_Z "TrueInk" "FIVES" "[I" (.ref (ra 1)) (fun q => b0 ≤ q) s s.heap ∧ va_X (ra 0) L xs s s.heap ∧ va_T .int (ra 1) 7 (fun j => .int (x_five j)) (fun q => b0 ≤ q) s s.heap ∧ ra 0 < b0 ∧ ra 1 < b0 ∧ b0 ≤ s.heap.size ∧
  (s.vm.findClass ("[" ++ FieldType.int.toString) = some (cA 1) ∧ s.vm.findClass ("[" ++ FieldType.byte.toString) = some (cA 2) ∧ s.vm.findClass ("[" ++ FieldType.boolean.toString) = some (cA 3) ∧ s.vm.findClass ("[" ++ FieldType.long.toString) = some (cA 4)) ∧ (∀ w ∈ lw_tbl, x_nest w = true → va_Nw w s) ∧ g_t b0 ra s
/-- a method's own things -/
def g_c (mi : Nat) (p : Program) (s : State) (m : MethodId) (args : Array Value) (meth : Method) (c : Code) : Prop :=
  p.tables.exec = Jvm.exec ∧ c.code = m_b mi ∧ c.maxLocals = m_l mi ∧ s.vm.findClass (x_ow (m_o mi)) = some m.cls ∧ (∀ w ∈ gtbl, w.before args s = true) ∧ meth.locks = false ∧ meth.sig.returnType = m_r mi ∧ meth.name = (m_y mi).name
def g_pr (b0 : Nat) (ra : Nat → Nat) (ls : List Value) : List (Nat × Value) := (List.range ls.length).filterMap fun i => match (ls[i]? : Option Value) with
  | some Value.null => none
  | some v => some (i, g_v b0 ra v)
  | none => none
theorem g_pr_mem {b0 : Nat} {ra : Nat → Nat} {ls : List Value} {i : Nat} {w : Value} : (i, w) ∈ g_pr b0 ra ls ↔ ∃ v, ls[i]? = some v ∧ v ≠ .null ∧ w = g_v b0 ra v := by
  unfold g_pr
  rw [List.mem_filterMap]
  constructor
  · rintro ⟨j, hj, he⟩
    cases hv : ls[j]? with
    | none => rw [hv] at he; cases he
    | some v =>
      rw [hv] at he
      cases v <;> first | (cases he; done) | (cases he; exact ⟨_, hv, by simp, rfl⟩)
  · rintro ⟨v, hv, hn, rfl⟩
    refine ⟨i, List.mem_range.mpr (List.getElem?_eq_some_iff.mp hv).1, ?_⟩
    rw [hv]
    cases v <;> first | exact absurd rfl hn | rfl
def g_ls (b0 : Nat) (ra : Nat → Nat) (mi : Nat) (lsC : Array Slot) (ls : List Value) : Prop := ls.length = m_l mi ∧ lv_has lsC (m_l mi) (g_pr b0 ra ls)
theorem g_ls_at {b0 : Nat} {ra : Nat → Nat} {mi : Nat} {lsC : Array Slot} {ls : List Value} (hl : g_ls b0 ra mi lsC ls) {i : Nat} {v : Value} (hv : ls[i]? = some v) (hn : v ≠ .null) : lsC[i]? = some (.val (g_v b0 ra v)) := hl.2.2.2 (i, g_v b0 ra v) (g_pr_mem.mpr ⟨v, hv, hn, rfl⟩)
theorem x_set1_len {ls : List Value} {k : Nat} {v : Value} : (x_set1 ls k v).length = ls.length := by
  unfold x_set1
  cases k with
  | zero => simp
  | succ j =>
    rw [List.length_set]
    dsimp only
    split
    · rw [List.length_set]
    · rfl
theorem x_set1_get {ls : List Value} {k j : Nat} {v w : Value} (h : (x_set1 ls k v)[j]? = some w) (hn : w ≠ .null) : (j = k ∧ w = v) ∨ (j ≠ k ∧ ls[j]? = some w ∧ ¬ (j + 1 = k ∧ w.category = 2)) := by
  unfold x_set1 at h
  rw [List.getElem?_set] at h
  by_cases hk : k = j
  · subst hk
    rw [if_pos rfl] at h
    exact Or.inl ⟨rfl, (ite_some h).2.symm⟩
  · rw [if_neg hk] at h
    refine Or.inr ⟨fun e => hk e.symm, ?_⟩
    cases k with
    | zero => exact ⟨h, fun q => by omega⟩
    | succ i =>
      dsimp only at h
      by_cases hc : (ls.getD i .null).category = 2
      · rw [if_pos hc, List.getElem?_set] at h
        by_cases hi : i = j
        · rw [if_pos hi] at h
          split at h
          · cases h; exact absurd rfl hn
          · cases h
        · rw [if_neg hi] at h
          exact ⟨h, fun q => by omega⟩
      · rw [if_neg hc] at h
        refine ⟨h, fun q => hc ?_⟩
        have : j = i := by omega
        subst this
        rw [List.getD_eq_getElem?_getD, h]
        exact q.2
theorem g_ls_set1 {b0 : Nat} {ra : Nat → Nat} {mi : Nat} {lsC lsC' : Array Slot} {ls : List Value} (hl : g_ls b0 ra mi lsC ls) {k : Nat} {v : Value} (h' : lv_has lsC' (m_l mi) ((k, g_v b0 ra v) :: (g_pr b0 ra ls).filter (fun q => !(q.1 == k) && !(q.1 + 1 == k && q.2.category == 2)))) : g_ls b0 ra mi lsC' (x_set1 ls k v) := by
  refine ⟨by rw [x_set1_len]; exact hl.1, h'.1, h'.2.1, fun q hq => h'.2.2 q ?_⟩
  obtain ⟨j, w⟩ := q
  obtain ⟨u, hu, hn, rfl⟩ := g_pr_mem.mp hq
  rcases x_set1_get hu hn with ⟨rfl, rfl⟩ | ⟨h1, h2, h3⟩
  · exact List.mem_cons_self
  · refine List.mem_cons_of_mem _ (List.mem_filter.mpr ⟨g_pr_mem.mpr ⟨u, h2, hn, rfl⟩, ?_⟩)
    simp only [g_cat, Bool.and_eq_true, Bool.not_eq_true', beq_eq_false_iff_ne, ne_eq, Bool.and_eq_false_iff]
    refine ⟨h1, ?_⟩
    by_cases e : j + 1 = k
    · exact Or.inr fun q => h3 ⟨e, q⟩
    · exact Or.inl e
theorem g_ls_set2 {b0 : Nat} {ra : Nat → Nat} {mi : Nat} {lsC lsC' : Array Slot} {ls : List Value} (hl : g_ls b0 ra mi lsC ls) {k : Nat} {v : Value} (h' : lv_has lsC' (m_l mi) ((k, g_v b0 ra v) :: (g_pr b0 ra ls).filter (fun q => !(q.1 == k) && (!(q.1 == k + 1) && !(q.1 + 1 == k && q.2.category == 2))))) : g_ls b0 ra mi lsC' (x_set2 ls k v) := by
  refine ⟨by unfold x_set2; rw [List.length_set, x_set1_len]; exact hl.1, h'.1, h'.2.1, fun q hq => h'.2.2 q ?_⟩
  obtain ⟨j, w⟩ := q
  obtain ⟨u, hu, hn, rfl⟩ := g_pr_mem.mp hq
  unfold x_set2 at hu
  rw [List.getElem?_set] at hu
  by_cases hj : k + 1 = j
  · rw [if_pos hj] at hu
    split at hu
    · cases hu; exact absurd rfl hn
    · cases hu
  · rw [if_neg hj] at hu
    rcases x_set1_get hu hn with ⟨rfl, rfl⟩ | ⟨h1, h2, h3⟩
    · exact List.mem_cons_self
    · refine List.mem_cons_of_mem _ (List.mem_filter.mpr ⟨g_pr_mem.mpr ⟨u, h2, hn, rfl⟩, ?_⟩)
      simp only [g_cat, Bool.and_eq_true, Bool.not_eq_true', beq_eq_false_iff_ne, ne_eq, Bool.and_eq_false_iff]
      refine ⟨h1, fun e => hj e.symm, ?_⟩
      by_cases e : j + 1 = k
      · exact Or.inr fun q => h3 ⟨e, q⟩
      · exact Or.inl e
