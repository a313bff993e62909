theorem sh_I {h : XH} {a j : Nat} {v : Int32} (s : Sh h) (ha : a ≠ 1) : Sh (xsI h a j v) := s.fr rfl rfl rfl rfl (up_ne (fun e => ha e.symm))
theorem sh_L {h : XH} {a j : Nat} {v : Int64} (s : Sh h) : Sh (xsL h a j v) := s.fr rfl rfl rfl rfl rfl
theorem sh_A {h : XH} {a : Nat} {f : Nat → Int32} (s : Sh h) (ha : a ≠ 1) : Sh (xsA h a f) := s.fr rfl rfl rfl rfl (up_ne (fun e => ha e.symm))
theorem x_prim_ix {c : Int32} {st : List Value} {h : XH} (hst : (st.map fun v => v.category).sum ≤ 8) : x_prim 1104 (.int c :: .ref 3 :: st) h = some (.int (x_idx (x_txt 3) c.toInt 0) :: st) := if_pos ⟨Or.inr rfl, hst⟩
