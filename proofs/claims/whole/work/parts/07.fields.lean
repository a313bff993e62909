/-- the classes' fields -/
def wd_C (ci : Nat) : List Cond := u_ws (x_ow ci) (x_T ci) (x_nf ci)
theorem wd_C0 : ∀ w ∈ wd_C 0, w ∈ gtbl := by decide +kernel
theorem wd_C1 : ∀ w ∈ wd_C 1, w ∈ gtbl := by decide +kernel
theorem wd_C2 : ∀ w ∈ wd_C 2, w ∈ gtbl := by decide +kernel
theorem wd_C3 : ∀ w ∈ wd_C 3, w ∈ gtbl := by decide +kernel
theorem wd_C4 : ∀ w ∈ wd_C 4, w ∈ gtbl := by decide +kernel
theorem wd_C5 : ∀ w ∈ wd_C 5, w ∈ gtbl := by decide +kernel
theorem wd_C6 : ∀ w ∈ wd_C 6, w ∈ gtbl := by decide +kernel
theorem wd_C7 : ∀ w ∈ wd_C 7, w ∈ gtbl := by decide +kernel
theorem wd_C8 : ∀ w ∈ wd_C 8, w ∈ gtbl := by decide +kernel
theorem wd_C9 : ∀ w ∈ wd_C 9, w ∈ gtbl := by decide +kernel
