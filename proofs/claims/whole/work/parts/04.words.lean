/-! the words that the tables' rows stand for -/
def gtbl : List Cond := lw_tbl.filter goodWord
theorem gt_in {w : Cond} (i : Nat) (h : lw_tbl[i]? = some w) (hg : goodWord w = true) : w ∈ gtbl := List.mem_filter.mpr ⟨List.mem_of_getElem? h, hg⟩
def x_ow (oc : Nat) : String := x_own.getD oc ""
theorem x_lk_mem {α : Type} {k : Nat} {v : α} : ∀ {l : List (Nat × α)}, x_lk k l = some v → (k, v) ∈ l := by
  intro l
  induction l with
  | nil => intro h; cases h
  | cons q r ih =>
    intro h
    unfold x_lk at h
    by_cases hq : q.1 = k
    · rw [if_pos hq] at h
      cases h
      subst hq
      exact List.mem_cons_self
    · rw [if_neg hq] at h
      exact List.mem_cons_of_mem _ (ih h)
def wd_F (q : Nat × Nat × Nat × Nat × Nat) : Cond := .fieldLink (x_ow (q.1 / 4096)) (q.1 % 4096) (x_T q.2.1 q.2.2.1).1 (x_T q.2.1 q.2.2.1).2.1 (x_T q.2.1 q.2.2.1).2.2.1
set_option maxRecDepth 100000 in
theorem wd_F_ok : ∀ q ∈ cp_F, lw_tbl[q.2.2.2.2]? = some (wd_F q) ∧ q.2.1 < 10 ∧ q.2.2.1 < x_nf q.2.1 ∧ (q.2.2.2.1 = 0 → x_ty q.2.1 q.2.2.1 = .int) ∧ (q.2.2.2.1 = 1 → x_ty q.2.1 q.2.2.1 = .boolean) := by decide +kernel
def wd_I (q : Nat × Int × Nat) : Cond := .constant (x_ow (q.1 / 4096)) (q.1 % 4096) (Int32.ofInt q.2.1)
theorem wd_I_ok : ∀ q ∈ cp_I, lw_tbl[q.2.2]? = some (wd_I q) := by decide +kernel
def wd_L (q : Nat × Int × Nat) : Cond := .constantLong (x_ow (q.1 / 4096)) (q.1 % 4096) (Int64.ofInt q.2.1)
theorem wd_L_ok : ∀ q ∈ cp_L, lw_tbl[q.2.2]? = some (wd_L q) := by decide +kernel
def wd_N (q : Nat × Nat × Nat) : Cond := .classLink (x_ow (q.1 / 4096)) (q.1 % 4096) (x_ow q.2.1)
theorem wd_N_ok : ∀ q ∈ cp_N, lw_tbl[q.2.2]? = some (wd_N q) ∧ q.2.1 < 10 := by decide +kernel
def wd_S (q : Nat × Nat × Nat × Nat) : Cond := if q.2.2.1 = 0 then .fieldLink (x_ow (q.1 / 4096)) (q.1 % 4096) "TrueInk" "FIVES" "[I" else .fieldLinkNest (x_ow (q.1 / 4096)) (q.1 % 4096) "TrueInk" "FIVES" "[I" "TrueInk"
theorem wd_S_ok : ∀ q ∈ cp_S, lw_tbl[q.2.2.2]? = some (wd_S q) ∧ q.2.1 = 1 := by decide +kernel
/-- a link to a method: of ours, or one of the machine's own that have a number from 1000 on -/
def m_yy (t : Nat) : MethodName := if t < 1000 then m_y t else if t = 1100 then arraycopyName else if t = 1101 then Lib.objectInit else if t = 1102 then ⟨"java/lang/String", "length", "()I"⟩ else if t = 1103 then ⟨"java/lang/String", "charAt", "(I)C"⟩ else if t = 1104 then ⟨"java/lang/String", "indexOf", "(I)I"⟩ else if t = 1105 then Lib.Math.max.name else if t = 1106 then Lib.Math.min.name else if t = 1107 then Lib.MathLoose.max_long.x else Lib.MathLoose.min_long.x
def wd_M (q : Nat × Nat × Nat × Nat × Nat) : Cond := if q.2.2.2.1 = 0 then .methodLink (x_ow (q.1 / 4096)) (q.1 % 4096) (m_yy q.2.1) else .methodLinkNest (x_ow (q.1 / 4096)) (q.1 % 4096) (m_yy q.2.1) "TrueInk"
set_option maxRecDepth 100000 in
theorem wd_M_ok : ∀ q ∈ cp_M, lw_tbl[q.2.2.2.2]? = some (wd_M q) ∧ (q.2.2.1 = 3 → q.2.2.2.1 = 0) ∧ (q.2.2.1 ≠ 3 → q.2.1 < 267) := by decide +kernel
def wd_P (k : Nat) : Nat × Nat × Nat × Nat := m_ps.getD k (0, 0, 0, 0)
