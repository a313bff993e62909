/-! branches, by their comparison -/
section C
variable {mi pc : Nat} {ls st : List Value} {h : XH} {Q : Value → XH → Prop} {imm : Int} {x nx : Nat} {sw : List (Int × Nat)} {a b : Int32}
theorem e_if_0 (ho : x_ops mi pc = some (21, imm, x, 0, nx, sw)) (kt : a = b → Ev mi x ls st h Q) (kf : ¬ (a = b) → Ev mi nx ls st h Q) : Ev mi pc ls (.int b :: .int a :: st) h Q := e_if (P := a = b) ho rfl kt kf
theorem e_i0_0 (ho : x_ops mi pc = some (22, imm, x, 0, nx, sw)) (kt : a = 0 → Ev mi x ls st h Q) (kf : ¬ (a = 0) → Ev mi nx ls st h Q) : Ev mi pc ls (.int a :: st) h Q := e_if0 (P := a = 0) ho rfl kt kf
theorem e_if_1 (ho : x_ops mi pc = some (21, imm, x, 1, nx, sw)) (kt : ¬ a = b → Ev mi x ls st h Q) (kf : ¬ (¬ a = b) → Ev mi nx ls st h Q) : Ev mi pc ls (.int b :: .int a :: st) h Q := e_if (P := ¬ a = b) ho rfl kt kf
theorem e_i0_1 (ho : x_ops mi pc = some (22, imm, x, 1, nx, sw)) (kt : ¬ a = 0 → Ev mi x ls st h Q) (kf : ¬ (¬ a = 0) → Ev mi nx ls st h Q) : Ev mi pc ls (.int a :: st) h Q := e_if0 (P := ¬ a = 0) ho rfl kt kf
theorem e_if_2 (ho : x_ops mi pc = some (21, imm, x, 2, nx, sw)) (kt : a < b → Ev mi x ls st h Q) (kf : ¬ (a < b) → Ev mi nx ls st h Q) : Ev mi pc ls (.int b :: .int a :: st) h Q := e_if (P := a < b) ho rfl kt kf
theorem e_i0_2 (ho : x_ops mi pc = some (22, imm, x, 2, nx, sw)) (kt : a < 0 → Ev mi x ls st h Q) (kf : ¬ (a < 0) → Ev mi nx ls st h Q) : Ev mi pc ls (.int a :: st) h Q := e_if0 (P := a < 0) ho rfl kt kf
theorem e_if_3 (ho : x_ops mi pc = some (21, imm, x, 3, nx, sw)) (kt : b ≤ a → Ev mi x ls st h Q) (kf : ¬ (b ≤ a) → Ev mi nx ls st h Q) : Ev mi pc ls (.int b :: .int a :: st) h Q := e_if (P := b ≤ a) ho rfl kt kf
theorem e_i0_3 (ho : x_ops mi pc = some (22, imm, x, 3, nx, sw)) (kt : 0 ≤ a → Ev mi x ls st h Q) (kf : ¬ (0 ≤ a) → Ev mi nx ls st h Q) : Ev mi pc ls (.int a :: st) h Q := e_if0 (P := 0 ≤ a) ho rfl kt kf
theorem e_if_4 (ho : x_ops mi pc = some (21, imm, x, 4, nx, sw)) (kt : b < a → Ev mi x ls st h Q) (kf : ¬ (b < a) → Ev mi nx ls st h Q) : Ev mi pc ls (.int b :: .int a :: st) h Q := e_if (P := b < a) ho rfl kt kf
theorem e_i0_4 (ho : x_ops mi pc = some (22, imm, x, 4, nx, sw)) (kt : 0 < a → Ev mi x ls st h Q) (kf : ¬ (0 < a) → Ev mi nx ls st h Q) : Ev mi pc ls (.int a :: st) h Q := e_if0 (P := 0 < a) ho rfl kt kf
theorem e_if_5 (ho : x_ops mi pc = some (21, imm, x, 5, nx, sw)) (kt : a ≤ b → Ev mi x ls st h Q) (kf : ¬ (a ≤ b) → Ev mi nx ls st h Q) : Ev mi pc ls (.int b :: .int a :: st) h Q := e_if (P := a ≤ b) ho rfl kt kf
theorem e_i0_5 (ho : x_ops mi pc = some (22, imm, x, 5, nx, sw)) (kt : a ≤ 0 → Ev mi x ls st h Q) (kf : ¬ (a ≤ 0) → Ev mi nx ls st h Q) : Ev mi pc ls (.int a :: st) h Q := e_if0 (P := a ≤ 0) ho rfl kt kf
end C
