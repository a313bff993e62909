/-! NUMBERS, for simp; the reference's frame: cells S and fields F of 69 alone have changed -/
theorem lit (n : Nat) : (OfNat.ofNat n : Int32) = nI (OfNat.ofNat n) := Int32.toBitVec_inj.mp rfl
theorem z_inb {k n : Nat} (h : k < n) (hn : n < 2 ^ 31) : InB (nI k) n = True := eq_true (inb h hn)
theorem z_le {a b : Nat} (h : a ≤ b) (hb : b < 2 ^ 31) : (nI a ≤ nI b) = True := eq_true (nI_le h hb)
theorem z_nle {a b : Nat} (h : b < a) (ha : a < 2 ^ 31) : (nI a ≤ nI b) = False := eq_false (nI_ge h ha)
theorem z_lt {a b : Nat} (h : a < b) (hb : b < 2 ^ 31) : (nI a < nI b) = True := eq_true (nI_lt h hb)
theorem z_nlt {a b : Nat} (h : b ≤ a) (ha : a < 2 ^ 31) : (nI a < nI b) = False := eq_false (nI_nlt h ha)
theorem z_ne {a b : Nat} (h : a ≠ b) (ha : a < 2 ^ 31) (hb : b < 2 ^ 31) : (nI a = nI b) = False := eq_false (fun q => h ((nI_eq ha hb).mp q))
theorem z_m1 {a : Nat} (h : 1 ≤ a) : nI a + -nI 1 = nI (a - 1) := by
  obtain ⟨j, rfl⟩ : ∃ j, a = j + 1 := ⟨a - 1, by omega⟩
  exact pk_m1 j
theorem xI_ss {h : XH} {a j : Nat} {v : Int32} : xI (xsI h a j v) a j = v := by rw [xI_s]; exact up_same
theorem xI_sd {h : XH} {a j k : Nat} {v : Int32} (hk : k ≠ j) : xI (xsI h a j v) a k = xI h a k := by rw [xI_s]; exact up_ne hk
def Gx (S F : List Nat) (h h1 : XH) : Prop := Fx (69 :: S) h h1 ∧ ∀ j, j ∉ F → xI h1 69 j = xI h 69 j
section GX
variable {S S' F F' : List Nat} {h h1 h2 : XH} {a j n : Nat} {v : Int32}
theorem Gx.rf : Gx S F h h := ⟨Fx.rf, fun _ _ => rfl⟩
theorem Gx.tr (p : Gx S F h h1) (q : Gx S F h1 h2) : Gx S F h h2 := ⟨p.1.tr q.1, fun j hj => (q.2 j hj).trans (p.2 j hj)⟩
theorem Gx.mono (p : Gx S F h h1) (hS : ∀ a ∈ S, a ∈ S') (hF : ∀ a ∈ F, a ∈ F') : Gx S' F' h h1 := ⟨p.1.mono (fun a ha => by
  rcases List.mem_cons.mp ha with e | e
  · rw [e]; exact List.mem_cons_self
  · exact List.mem_cons_of_mem _ (hS a e)), fun j hj => p.2 j (fun q => hj (hF j q))⟩
theorem Gx.trm {S1 F1 S2 F2 : List Nat} (p : Gx S1 F1 h h1) (q : Gx S2 F2 h1 h2) (h1S : ∀ a ∈ S1, a ∈ S) (h1F : ∀ a ∈ F1, a ∈ F) (h2S : ∀ a ∈ S2, a ∈ S) (h2F : ∀ a ∈ F2, a ∈ F) : Gx S F h h2 := (p.mono h1S h1F).tr (q.mono h2S h2F)
theorem Gx.set (p : Gx S F h h1) (ha : a ∈ S) (h69 : a ≠ 69) : Gx S F h (xsI h1 a j v) := ⟨p.1.set (List.mem_cons_of_mem _ ha), fun i hi => by rw [xI_n (Ne.symm h69)]; exact p.2 i hi⟩
theorem Gx.fld (p : Gx S F h h1) (hj : j ∈ F) : Gx S F h (xsI h1 69 j v) := ⟨p.1.set List.mem_cons_self, fun i hi => by rw [xI_s, up_ne (fun e => hi (by rw [e]; exact hj))]; exact p.2 i hi⟩
theorem Gx.sh (p : Gx S F h h1) (hs : Sh h) (h1n : 1 ∉ S) : Sh h1 := p.1.sh hs (fun q => by
  rcases List.mem_cons.mp q with e | e
  · cases e
  · exact h1n e)
theorem Gx.at (p : Gx S F h h1) (ha : a ∉ S) (h69 : a ≠ 69) : xI h1 a = xI h a := p.1.at (fun q => by
  rcases List.mem_cons.mp q with e | e
  · exact h69 e
  · exact ha e)
theorem Gx.f (p : Gx S F h h1) (hj : j ∉ F) : xI h1 69 j = xI h 69 j := p.2 j hj
theorem Gx.ar (p : Gx S F h h1) (r : Ar h a n) : Ar h1 a n := p.1.ar r
end GX
