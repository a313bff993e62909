/-- of a method of ours: that its class is there; its name; its code's word -/
def wd_mk (k : Nat) : Bool :=
  decide (lw_tbl[(wd_P k).2.2.2]? = some (.initialized (m_y k).cls)) && (decide (x_ow (m_o k) = (m_y k).cls) && (plainName (m_y k).cls &&
  (decide ((m_y k).cls ≠ "java/lang/invoke/MethodHandle") && (decide ((m_y k).cls ≠ "java/lang/invoke/VarHandle")))))
theorem wd_mk_ok : (List.range 267).all wd_mk = true := by decide +kernel
def wd_cx (w : Option Cond) (y : MethodName) (ml : Nat) (r : Option FieldType) : Bool := match w with
  | some (.code y' _ ml' r') => decide (y' = y) && (decide (ml' = ml) && decide (r' = r))
  | _ => false
theorem wd_cx_eq {w : Option Cond} {y : MethodName} {ml : Nat} {r : Option FieldType} (h : wd_cx w y ml r = true) : w = some (.code y (m_cb w) ml r) := by
  unfold wd_cx at h
  split at h
  · simp only [Bool.and_eq_true, decide_eq_true_eq] at h
    obtain ⟨rfl, rfl, rfl⟩ := h
    rfl
  · cases h
theorem wd_cd_ok : (List.range 267).all (fun k => wd_cx (lw_tbl[(m_at k).2.1]?) (m_y k) (m_l k) (m_r k)) = true := by decide +kernel
