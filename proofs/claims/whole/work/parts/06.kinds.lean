/-- by a call's kind: that it's an instance's, a class's, a constructor; how many arguments -/
def wd_kd (q : Nat × Nat × Nat × Nat × Nat) : Bool :=
  match q.2.2.1 with
  | 0 => decide (lw_tbl[(wd_P q.2.1).2.1]? = some (.instanceMethod (m_y q.2.1))) && (decide (lw_tbl[(wd_P q.2.1).2.2.1]? = some (.selects (m_y q.2.1).cls (m_y q.2.1) (m_y q.2.1))) && (decide (m_o q.2.1 < 10) && decide ((parseMethodDescriptor (m_y q.2.1).desc).map (fun d => d.parameters.length + 1) = some (m_n q.2.1))))
  | 1 => decide (lw_tbl[(wd_P q.2.1).2.1]? = some (.static (m_y q.2.1))) && decide ((parseMethodDescriptor (m_y q.2.1).desc).map (fun d => d.parameters.length) = some (m_n q.2.1))
  | 2 => decide (lw_tbl[(wd_P q.2.1).2.1]? = some (.instanceMethod (m_y q.2.1))) && (decide ((m_y q.2.1).name = "<init>") && (decide (m_r q.2.1 = none) && decide ((parseMethodDescriptor (m_y q.2.1).desc).map (fun d => d.parameters.length + 1) = some (m_n q.2.1))))
  | _ => true
theorem all_cut {α : Type} {p : α → Bool} (n : Nat) {l : List α} (h : (l.take n).all p = true) (h2 : (l.drop n).all p = true) : l.all p = true := by
  rw [← List.take_append_drop n l, List.all_append, h, h2]
  rfl
set_option maxRecDepth 100000 in
theorem wd_k0 : ((cp_M.drop 0).take 40).all wd_kd = true := by decide +kernel
set_option maxRecDepth 100000 in
theorem wd_k1 : ((cp_M.drop 40).take 40).all wd_kd = true := by decide +kernel
set_option maxRecDepth 100000 in
theorem wd_k2 : ((cp_M.drop 80).take 40).all wd_kd = true := by decide +kernel
set_option maxRecDepth 100000 in
theorem wd_k3 : ((cp_M.drop 120).take 40).all wd_kd = true := by decide +kernel
set_option maxRecDepth 100000 in
theorem wd_k4 : ((cp_M.drop 160).take 40).all wd_kd = true := by decide +kernel
set_option maxRecDepth 100000 in
theorem wd_k5 : ((cp_M.drop 200).take 40).all wd_kd = true := by decide +kernel
set_option maxRecDepth 100000 in
theorem wd_k6 : ((cp_M.drop 240).take 40).all wd_kd = true := by decide +kernel
set_option maxRecDepth 100000 in
theorem wd_k7 : ((cp_M.drop 280).take 40).all wd_kd = true := by decide +kernel
set_option maxRecDepth 100000 in
theorem wd_k8 : ((cp_M.drop 320).take 40).all wd_kd = true := by decide +kernel
set_option maxRecDepth 100000 in
theorem wd_ke : (cp_M.drop 360).all wd_kd = true := by decide +kernel
theorem wd_kd_ok : cp_M.all wd_kd = true := all_cut 40 (by have := wd_k0; rwa [List.drop_zero] at this) (all_cut (l := cp_M.drop 40) 40 wd_k1 (by rw [List.drop_drop]; exact (all_cut (l := cp_M.drop 80) 40 wd_k2 (by rw [List.drop_drop]; exact (all_cut (l := cp_M.drop 120) 40 wd_k3 (by rw [List.drop_drop]; exact (all_cut (l := cp_M.drop 160) 40 wd_k4 (by rw [List.drop_drop]; exact (all_cut (l := cp_M.drop 200) 40 wd_k5 (by rw [List.drop_drop]; exact (all_cut (l := cp_M.drop 240) 40 wd_k6 (by rw [List.drop_drop]; exact (all_cut (l := cp_M.drop 280) 40 wd_k7 (by rw [List.drop_drop]; exact (all_cut (l := cp_M.drop 320) 40 wd_k8 (by rw [List.drop_drop]; exact wd_ke))))))))))))))))
