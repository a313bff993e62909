/-! THE SHAPE: cells that stay as the constructors made them; 4 .. 68 the class, 69 .. 123 the reference; nine rows that are made anew as they grow; the script in use is 14 or 24 -/
def shK : List (Nat × Nat) := [(4, 18), (5, 2), (6, 14), (7, 4), (8, 1), (9, 1), (10, 4), (11, 1), (12, 4), (13, 4), (14, 15), (15, 1), (16, 1), (17, 1), (18, 1), (19, 1), (20, 1), (21, 1), (22, 1), (23, 1), (24, 15), (25, 1), (26, 1), (27, 1), (28, 1), (29, 1), (30, 1), (31, 1), (32, 1), (33, 1), (34, 13), (35, 1), (36, 1), (37, 1), (38, 1), (39, 1), (40, 12), (41, 1), (42, 1), (43, 17), (44, 1), (45, 1), (49, 16), (50, 1), (51, 1), (53, 10), (54, 1), (55, 1), (56, 1), (57, 1), (58, 11), (59, 1), (60, 1), (61, 1), (62, 1), (63, 1), (69, 19), (70, 2), (71, 2), (72, 1), (73, 1), (74, 1), (75, 4), (76, 4), (77, 4), (78, 1), (79, 1), (80, 1), (81, 1), (82, 1), (83, 1), (84, 1), (85, 1), (86, 1), (87, 1), (88, 1), (89, 1), (90, 1), (91, 1), (92, 1), (93, 1), (94, 1), (95, 1), (96, 1), (97, 1), (98, 3), (99, 1), (100, 1), (101, 1), (102, 1), (103, 1), (104, 1), (105, 1), (106, 1), (107, 1), (108, 1), (109, 1), (110, 1), (111, 1), (112, 1), (113, 1), (114, 1), (115, 1), (116, 1), (117, 1), (118, 1), (119, 1), (120, 1), (121, 1), (122, 3), (123, 1)]
def shN : List (Nat × Nat) := [(5, 2000), (7, 16), (8, 402), (9, 402), (10, 402), (11, 32), (12, 8), (13, 6), (15, 8), (16, 8), (17, 8), (18, 8), (19, 6), (20, 6), (21, 6), (22, 36), (23, 512), (25, 8), (26, 8), (27, 8), (28, 8), (29, 6), (30, 6), (31, 6), (32, 36), (33, 512), (35, 32), (36, 301), (37, 8), (38, 6), (39, 20), (41, 1000), (42, 60), (44, 20), (45, 6), (50, 20), (51, 6), (54, 20), (55, 20), (56, 301), (57, 301), (59, 20), (60, 20), (61, 20), (62, 20), (63, 5), (70, 2000), (71, 2000), (72, 403), (73, 403), (74, 403), (75, 403), (76, 16), (77, 14), (78, 14), (79, 2), (80, 16), (81, 16), (82, 16), (83, 2), (84, 2), (85, 12), (86, 12), (87, 12), (88, 72), (89, 72), (90, 72), (91, 72), (92, 2), (93, 2), (94, 400), (95, 400), (96, 16), (97, 16), (98, 260), (99, 260), (100, 260), (101, 260), (102, 260), (103, 840), (104, 840), (105, 64), (106, 16), (107, 400), (108, 20), (109, 20), (110, 6), (111, 301), (112, 8), (113, 1000), (114, 301), (115, 2000), (116, 6), (117, 15625), (118, 20), (119, 20), (120, 20), (121, 30), (122, 3), (123, 60)]
def shR : List (Nat × Nat × Nat) := [(4, 0, 5), (4, 3, 6), (4, 6, 34), (4, 7, 39), (4, 8, 40), (4, 9, 42), (4, 11, 43), (4, 12, 49), (4, 13, 53), (4, 14, 58), (6, 9, 7), (6, 10, 8), (6, 11, 9), (6, 12, 10), (6, 13, 11), (6, 14, 12), (6, 15, 13), (14, 9, 15), (14, 10, 16), (14, 11, 17), (14, 12, 18), (14, 13, 19), (14, 14, 20), (14, 15, 21), (14, 16, 22), (14, 17, 23), (24, 9, 25), (24, 10, 26), (24, 11, 27), (24, 12, 28), (24, 13, 29), (24, 14, 30), (24, 15, 31), (24, 16, 32), (24, 17, 33), (34, 1, 35), (34, 2, 36), (34, 3, 37), (34, 4, 38), (40, 2, 41), (43, 2, 44), (43, 3, 45), (43, 1, 34), (49, 3, 50), (49, 4, 51), (49, 2, 34), (53, 2, 54), (53, 3, 55), (53, 4, 56), (53, 5, 57), (53, 1, 34), (58, 2, 59), (58, 3, 60), (58, 4, 61), (58, 5, 62), (58, 6, 63), (58, 1, 34), (69, 1, 70), (69, 3, 71), (69, 5, 72), (69, 6, 73), (69, 7, 74), (69, 8, 75), (69, 9, 76), (69, 21, 77), (69, 22, 78), (69, 23, 79), (69, 24, 80), (69, 25, 81), (69, 26, 82), (69, 27, 83), (69, 28, 84), (69, 29, 85), (69, 30, 86), (69, 31, 87), (69, 33, 88), (69, 34, 89), (69, 35, 90), (69, 36, 91), (69, 37, 92), (69, 38, 93), (69, 40, 94), (69, 41, 95), (69, 43, 96), (69, 44, 97), (69, 46, 98), (69, 47, 99), (69, 48, 100), (69, 49, 101), (69, 50, 102), (69, 52, 103), (69, 53, 104), (69, 54, 105), (69, 56, 106), (69, 57, 107), (69, 59, 108), (69, 60, 109), (69, 62, 110), (69, 63, 111), (69, 64, 112), (69, 66, 113), (69, 67, 114), (69, 68, 115), (69, 69, 116), (69, 70, 117), (69, 72, 118), (69, 73, 119), (69, 74, 120), (69, 75, 121), (69, 76, 122), (69, 77, 123)]
def shG : List (Nat × Nat × Nat × Nat) := [(43, 4, 1, 46), (43, 5, 1, 47), (43, 6, 1, 48), (49, 5, 4, 52), (58, 8, 1, 64), (58, 9, 1, 65), (58, 10, 1, 66), (58, 11, 1, 67), (58, 12, 1, 68)]
def Sh (h : XH) : Prop := (∀ q ∈ shK, xK h q.1 = q.2) ∧ (∀ q ∈ shN, xN h q.1 = q.2) ∧ (∀ q ∈ shR, xR h q.1 q.2.1 = q.2.2) ∧ ((xR h 34 0 = 14 ∧ xR h 4 4 = 14 ∧ xR h 4 5 = 24) ∨ (xR h 34 0 = 24 ∧ xR h 4 4 = 24 ∧ xR h 4 5 = 14)) ∧
  (∀ q ∈ shG, xK h (xR h q.1 q.2.1) = q.2.2.1 ∧ (xR h q.1 q.2.1 = q.2.2.2 ∨ 124 ≤ xR h q.1 q.2.1) ∧ xR h q.1 q.2.1 < xT h) ∧ (∀ q ∈ shG, ∀ q' ∈ shG, xR h q.1 q.2.1 = xR h q'.1 q'.2.1 → q = q') ∧ 124 ≤ xT h ∧ (xK h 1 = 1 ∧ xN h 1 = 7 ∧ xI h 1 = x_five) ∧ ∀ a, xT h ≤ a → xK h a = 0
/-- an int row of length n -/
def Ar (h : XH) (a n : Nat) : Prop := xK h a = 1 ∧ xN h a = n ∧ 4 ≤ a
/-- a long row of length n -/
def Lr (h : XH) (a n : Nat) : Prop := xK h a = 4 ∧ xN h a = n ∧ 4 ≤ a
theorem Sh.fr {h h1 : XH} (s : Sh h) (eK : xK h1 = xK h) (eN : xN h1 = xN h) (eR : xR h1 = xR h) (eT : xT h1 = xT h) (eI : xI h1 1 = xI h 1) : Sh h1 := by
  unfold Sh
  rw [eK, eN, eR, eT, eI]
  exact s
theorem sh_lt : (∀ q ∈ shK, q.1 < 124) ∧ (∀ q ∈ shN, q.1 < 124) ∧ (∀ q ∈ shR, q.1 < 124) ∧ (∀ q ∈ shG, q.1 < 124) := by decide
theorem sh_new {h : XH} {k n : Nat} (s : Sh h) : Sh (xnew h k n) := by
  obtain ⟨s1, s2, s3, s4, s5, s6, s7, s8, s9⟩ := s
  obtain ⟨l1, l2, l3, l4⟩ := sh_lt
  have eR : ∀ a, a < 124 → xR (xnew h k n) a = xR h a := fun a ha => up_ne (by omega)
  have eK : ∀ a, a ≠ xT h → xK (xnew h k n) a = xK h a := fun a ha => up_ne ha
  have eN : ∀ a, a ≠ xT h → xN (xnew h k n) a = xN h a := fun a ha => up_ne ha
  refine ⟨fun q hq => ?_, fun q hq => ?_, fun q hq => ?_, ?_, fun q hq => ?_, fun q hq q' hq' => ?_, ?_, ?_, ?_⟩
  · rw [eK q.1 (by have := l1 q hq; omega)]; exact s1 q hq
  · rw [eN q.1 (by have := l2 q hq; omega)]; exact s2 q hq
  · rw [eR q.1 (l3 q hq)]; exact s3 q hq
  · rw [eR 34 (by omega), eR 4 (by omega)]; exact s4
  · rw [eR q.1 (l4 q hq)]
    obtain ⟨g1, g2, g3⟩ := s5 q hq
    rw [eK _ (by omega)]
    exact ⟨g1, g2, Nat.lt_succ_of_lt g3⟩
  · rw [eR q.1 (l4 q hq), eR q'.1 (l4 q' hq')]; exact s6 q hq q' hq'
  · exact Nat.le_succ_of_le s7
  · rw [eK 1 (by omega), eN 1 (by omega), show xI (xnew h k n) 1 = xI h 1 from up_ne (by omega)]; exact s8
  · intro a ha
    have ha : xT h + 1 ≤ a := ha
    rw [eK a (by omega)]; exact s9 a (by omega)
theorem ar_new {h : XH} {k m a n : Nat} (s : Sh h) (q : Ar h a n) : Ar (xnew h k m) a n := by
  have ha : a ≠ xT h := fun e => by
    have := s.2.2.2.2.2.2.2.2 a (by omega)
    rw [q.1] at this
    cases this
  exact ⟨(up_ne ha).trans q.1, (up_ne ha).trans q.2.1, q.2.2⟩

theorem sk_4 {h : XH} (s : Sh h) : xK h 4 = 18 := s.1 (4, 18) (by decide)
theorem sk_5 {h : XH} (s : Sh h) : xK h 5 = 2 := s.1 (5, 2) (by decide)
theorem sk_6 {h : XH} (s : Sh h) : xK h 6 = 14 := s.1 (6, 14) (by decide)
theorem sk_7 {h : XH} (s : Sh h) : xK h 7 = 4 := s.1 (7, 4) (by decide)
theorem sk_8 {h : XH} (s : Sh h) : xK h 8 = 1 := s.1 (8, 1) (by decide)
theorem sk_9 {h : XH} (s : Sh h) : xK h 9 = 1 := s.1 (9, 1) (by decide)
theorem sk_10 {h : XH} (s : Sh h) : xK h 10 = 4 := s.1 (10, 4) (by decide)
theorem sk_11 {h : XH} (s : Sh h) : xK h 11 = 1 := s.1 (11, 1) (by decide)
theorem sk_12 {h : XH} (s : Sh h) : xK h 12 = 4 := s.1 (12, 4) (by decide)
theorem sk_13 {h : XH} (s : Sh h) : xK h 13 = 4 := s.1 (13, 4) (by decide)
theorem sk_14 {h : XH} (s : Sh h) : xK h 14 = 15 := s.1 (14, 15) (by decide)
theorem sk_15 {h : XH} (s : Sh h) : xK h 15 = 1 := s.1 (15, 1) (by decide)
theorem sk_16 {h : XH} (s : Sh h) : xK h 16 = 1 := s.1 (16, 1) (by decide)
theorem sk_17 {h : XH} (s : Sh h) : xK h 17 = 1 := s.1 (17, 1) (by decide)
theorem sk_18 {h : XH} (s : Sh h) : xK h 18 = 1 := s.1 (18, 1) (by decide)
theorem sk_19 {h : XH} (s : Sh h) : xK h 19 = 1 := s.1 (19, 1) (by decide)
theorem sk_20 {h : XH} (s : Sh h) : xK h 20 = 1 := s.1 (20, 1) (by decide)
theorem sk_21 {h : XH} (s : Sh h) : xK h 21 = 1 := s.1 (21, 1) (by decide)
theorem sk_22 {h : XH} (s : Sh h) : xK h 22 = 1 := s.1 (22, 1) (by decide)
theorem sk_23 {h : XH} (s : Sh h) : xK h 23 = 1 := s.1 (23, 1) (by decide)
theorem sk_24 {h : XH} (s : Sh h) : xK h 24 = 15 := s.1 (24, 15) (by decide)
theorem sk_25 {h : XH} (s : Sh h) : xK h 25 = 1 := s.1 (25, 1) (by decide)
theorem sk_26 {h : XH} (s : Sh h) : xK h 26 = 1 := s.1 (26, 1) (by decide)
theorem sk_27 {h : XH} (s : Sh h) : xK h 27 = 1 := s.1 (27, 1) (by decide)
theorem sk_28 {h : XH} (s : Sh h) : xK h 28 = 1 := s.1 (28, 1) (by decide)
theorem sk_29 {h : XH} (s : Sh h) : xK h 29 = 1 := s.1 (29, 1) (by decide)
theorem sk_30 {h : XH} (s : Sh h) : xK h 30 = 1 := s.1 (30, 1) (by decide)
theorem sk_31 {h : XH} (s : Sh h) : xK h 31 = 1 := s.1 (31, 1) (by decide)
theorem sk_32 {h : XH} (s : Sh h) : xK h 32 = 1 := s.1 (32, 1) (by decide)
theorem sk_33 {h : XH} (s : Sh h) : xK h 33 = 1 := s.1 (33, 1) (by decide)
theorem sk_34 {h : XH} (s : Sh h) : xK h 34 = 13 := s.1 (34, 13) (by decide)
theorem sk_35 {h : XH} (s : Sh h) : xK h 35 = 1 := s.1 (35, 1) (by decide)
theorem sk_36 {h : XH} (s : Sh h) : xK h 36 = 1 := s.1 (36, 1) (by decide)
theorem sk_37 {h : XH} (s : Sh h) : xK h 37 = 1 := s.1 (37, 1) (by decide)
theorem sk_38 {h : XH} (s : Sh h) : xK h 38 = 1 := s.1 (38, 1) (by decide)
theorem sk_39 {h : XH} (s : Sh h) : xK h 39 = 1 := s.1 (39, 1) (by decide)
theorem sk_40 {h : XH} (s : Sh h) : xK h 40 = 12 := s.1 (40, 12) (by decide)
theorem sk_41 {h : XH} (s : Sh h) : xK h 41 = 1 := s.1 (41, 1) (by decide)
theorem sk_42 {h : XH} (s : Sh h) : xK h 42 = 1 := s.1 (42, 1) (by decide)
theorem sk_43 {h : XH} (s : Sh h) : xK h 43 = 17 := s.1 (43, 17) (by decide)
theorem sk_44 {h : XH} (s : Sh h) : xK h 44 = 1 := s.1 (44, 1) (by decide)
theorem sk_45 {h : XH} (s : Sh h) : xK h 45 = 1 := s.1 (45, 1) (by decide)
theorem sk_49 {h : XH} (s : Sh h) : xK h 49 = 16 := s.1 (49, 16) (by decide)
theorem sk_50 {h : XH} (s : Sh h) : xK h 50 = 1 := s.1 (50, 1) (by decide)
theorem sk_51 {h : XH} (s : Sh h) : xK h 51 = 1 := s.1 (51, 1) (by decide)
theorem sk_53 {h : XH} (s : Sh h) : xK h 53 = 10 := s.1 (53, 10) (by decide)
theorem sk_54 {h : XH} (s : Sh h) : xK h 54 = 1 := s.1 (54, 1) (by decide)
theorem sk_55 {h : XH} (s : Sh h) : xK h 55 = 1 := s.1 (55, 1) (by decide)
theorem sk_56 {h : XH} (s : Sh h) : xK h 56 = 1 := s.1 (56, 1) (by decide)
theorem sk_57 {h : XH} (s : Sh h) : xK h 57 = 1 := s.1 (57, 1) (by decide)
theorem sk_58 {h : XH} (s : Sh h) : xK h 58 = 11 := s.1 (58, 11) (by decide)
theorem sk_59 {h : XH} (s : Sh h) : xK h 59 = 1 := s.1 (59, 1) (by decide)
theorem sk_60 {h : XH} (s : Sh h) : xK h 60 = 1 := s.1 (60, 1) (by decide)
theorem sk_61 {h : XH} (s : Sh h) : xK h 61 = 1 := s.1 (61, 1) (by decide)
theorem sk_62 {h : XH} (s : Sh h) : xK h 62 = 1 := s.1 (62, 1) (by decide)
theorem sk_63 {h : XH} (s : Sh h) : xK h 63 = 1 := s.1 (63, 1) (by decide)
theorem sk_69 {h : XH} (s : Sh h) : xK h 69 = 19 := s.1 (69, 19) (by decide)
theorem sk_70 {h : XH} (s : Sh h) : xK h 70 = 2 := s.1 (70, 2) (by decide)
theorem sk_71 {h : XH} (s : Sh h) : xK h 71 = 2 := s.1 (71, 2) (by decide)
theorem sk_72 {h : XH} (s : Sh h) : xK h 72 = 1 := s.1 (72, 1) (by decide)
theorem sk_73 {h : XH} (s : Sh h) : xK h 73 = 1 := s.1 (73, 1) (by decide)
theorem sk_74 {h : XH} (s : Sh h) : xK h 74 = 1 := s.1 (74, 1) (by decide)
theorem sk_75 {h : XH} (s : Sh h) : xK h 75 = 4 := s.1 (75, 4) (by decide)
theorem sk_76 {h : XH} (s : Sh h) : xK h 76 = 4 := s.1 (76, 4) (by decide)
theorem sk_77 {h : XH} (s : Sh h) : xK h 77 = 4 := s.1 (77, 4) (by decide)
theorem sk_78 {h : XH} (s : Sh h) : xK h 78 = 1 := s.1 (78, 1) (by decide)
theorem sk_79 {h : XH} (s : Sh h) : xK h 79 = 1 := s.1 (79, 1) (by decide)
theorem sk_80 {h : XH} (s : Sh h) : xK h 80 = 1 := s.1 (80, 1) (by decide)
theorem sk_81 {h : XH} (s : Sh h) : xK h 81 = 1 := s.1 (81, 1) (by decide)
theorem sk_82 {h : XH} (s : Sh h) : xK h 82 = 1 := s.1 (82, 1) (by decide)
theorem sk_83 {h : XH} (s : Sh h) : xK h 83 = 1 := s.1 (83, 1) (by decide)
theorem sk_84 {h : XH} (s : Sh h) : xK h 84 = 1 := s.1 (84, 1) (by decide)
theorem sk_85 {h : XH} (s : Sh h) : xK h 85 = 1 := s.1 (85, 1) (by decide)
theorem sk_86 {h : XH} (s : Sh h) : xK h 86 = 1 := s.1 (86, 1) (by decide)
theorem sk_87 {h : XH} (s : Sh h) : xK h 87 = 1 := s.1 (87, 1) (by decide)
theorem sk_88 {h : XH} (s : Sh h) : xK h 88 = 1 := s.1 (88, 1) (by decide)
theorem sk_89 {h : XH} (s : Sh h) : xK h 89 = 1 := s.1 (89, 1) (by decide)
theorem sk_90 {h : XH} (s : Sh h) : xK h 90 = 1 := s.1 (90, 1) (by decide)
theorem sk_91 {h : XH} (s : Sh h) : xK h 91 = 1 := s.1 (91, 1) (by decide)
theorem sk_92 {h : XH} (s : Sh h) : xK h 92 = 1 := s.1 (92, 1) (by decide)
theorem sk_93 {h : XH} (s : Sh h) : xK h 93 = 1 := s.1 (93, 1) (by decide)
theorem sk_94 {h : XH} (s : Sh h) : xK h 94 = 1 := s.1 (94, 1) (by decide)
theorem sk_95 {h : XH} (s : Sh h) : xK h 95 = 1 := s.1 (95, 1) (by decide)
theorem sk_96 {h : XH} (s : Sh h) : xK h 96 = 1 := s.1 (96, 1) (by decide)
theorem sk_97 {h : XH} (s : Sh h) : xK h 97 = 1 := s.1 (97, 1) (by decide)
theorem sk_98 {h : XH} (s : Sh h) : xK h 98 = 3 := s.1 (98, 3) (by decide)
theorem sk_99 {h : XH} (s : Sh h) : xK h 99 = 1 := s.1 (99, 1) (by decide)
theorem sk_100 {h : XH} (s : Sh h) : xK h 100 = 1 := s.1 (100, 1) (by decide)
theorem sk_101 {h : XH} (s : Sh h) : xK h 101 = 1 := s.1 (101, 1) (by decide)
theorem sk_102 {h : XH} (s : Sh h) : xK h 102 = 1 := s.1 (102, 1) (by decide)
theorem sk_103 {h : XH} (s : Sh h) : xK h 103 = 1 := s.1 (103, 1) (by decide)
theorem sk_104 {h : XH} (s : Sh h) : xK h 104 = 1 := s.1 (104, 1) (by decide)
theorem sk_105 {h : XH} (s : Sh h) : xK h 105 = 1 := s.1 (105, 1) (by decide)
theorem sk_106 {h : XH} (s : Sh h) : xK h 106 = 1 := s.1 (106, 1) (by decide)
theorem sk_107 {h : XH} (s : Sh h) : xK h 107 = 1 := s.1 (107, 1) (by decide)
theorem sk_108 {h : XH} (s : Sh h) : xK h 108 = 1 := s.1 (108, 1) (by decide)
theorem sk_109 {h : XH} (s : Sh h) : xK h 109 = 1 := s.1 (109, 1) (by decide)
theorem sk_110 {h : XH} (s : Sh h) : xK h 110 = 1 := s.1 (110, 1) (by decide)
theorem sk_111 {h : XH} (s : Sh h) : xK h 111 = 1 := s.1 (111, 1) (by decide)
theorem sk_112 {h : XH} (s : Sh h) : xK h 112 = 1 := s.1 (112, 1) (by decide)
theorem sk_113 {h : XH} (s : Sh h) : xK h 113 = 1 := s.1 (113, 1) (by decide)
theorem sk_114 {h : XH} (s : Sh h) : xK h 114 = 1 := s.1 (114, 1) (by decide)
theorem sk_115 {h : XH} (s : Sh h) : xK h 115 = 1 := s.1 (115, 1) (by decide)
theorem sk_116 {h : XH} (s : Sh h) : xK h 116 = 1 := s.1 (116, 1) (by decide)
theorem sk_117 {h : XH} (s : Sh h) : xK h 117 = 1 := s.1 (117, 1) (by decide)
theorem sk_118 {h : XH} (s : Sh h) : xK h 118 = 1 := s.1 (118, 1) (by decide)
theorem sk_119 {h : XH} (s : Sh h) : xK h 119 = 1 := s.1 (119, 1) (by decide)
theorem sk_120 {h : XH} (s : Sh h) : xK h 120 = 1 := s.1 (120, 1) (by decide)
theorem sk_121 {h : XH} (s : Sh h) : xK h 121 = 1 := s.1 (121, 1) (by decide)
theorem sk_122 {h : XH} (s : Sh h) : xK h 122 = 3 := s.1 (122, 3) (by decide)
theorem sk_123 {h : XH} (s : Sh h) : xK h 123 = 1 := s.1 (123, 1) (by decide)
theorem sn_5 {h : XH} (s : Sh h) : xN h 5 = 2000 := s.2.1 (5, 2000) (by decide)
theorem sn_7 {h : XH} (s : Sh h) : xN h 7 = 16 := s.2.1 (7, 16) (by decide)
theorem sn_8 {h : XH} (s : Sh h) : xN h 8 = 402 := s.2.1 (8, 402) (by decide)
theorem sn_9 {h : XH} (s : Sh h) : xN h 9 = 402 := s.2.1 (9, 402) (by decide)
theorem sn_10 {h : XH} (s : Sh h) : xN h 10 = 402 := s.2.1 (10, 402) (by decide)
theorem sn_11 {h : XH} (s : Sh h) : xN h 11 = 32 := s.2.1 (11, 32) (by decide)
theorem sn_12 {h : XH} (s : Sh h) : xN h 12 = 8 := s.2.1 (12, 8) (by decide)
theorem sn_13 {h : XH} (s : Sh h) : xN h 13 = 6 := s.2.1 (13, 6) (by decide)
theorem sn_15 {h : XH} (s : Sh h) : xN h 15 = 8 := s.2.1 (15, 8) (by decide)
theorem sn_16 {h : XH} (s : Sh h) : xN h 16 = 8 := s.2.1 (16, 8) (by decide)
theorem sn_17 {h : XH} (s : Sh h) : xN h 17 = 8 := s.2.1 (17, 8) (by decide)
theorem sn_18 {h : XH} (s : Sh h) : xN h 18 = 8 := s.2.1 (18, 8) (by decide)
theorem sn_19 {h : XH} (s : Sh h) : xN h 19 = 6 := s.2.1 (19, 6) (by decide)
theorem sn_20 {h : XH} (s : Sh h) : xN h 20 = 6 := s.2.1 (20, 6) (by decide)
theorem sn_21 {h : XH} (s : Sh h) : xN h 21 = 6 := s.2.1 (21, 6) (by decide)
theorem sn_22 {h : XH} (s : Sh h) : xN h 22 = 36 := s.2.1 (22, 36) (by decide)
theorem sn_23 {h : XH} (s : Sh h) : xN h 23 = 512 := s.2.1 (23, 512) (by decide)
theorem sn_25 {h : XH} (s : Sh h) : xN h 25 = 8 := s.2.1 (25, 8) (by decide)
theorem sn_26 {h : XH} (s : Sh h) : xN h 26 = 8 := s.2.1 (26, 8) (by decide)
theorem sn_27 {h : XH} (s : Sh h) : xN h 27 = 8 := s.2.1 (27, 8) (by decide)
theorem sn_28 {h : XH} (s : Sh h) : xN h 28 = 8 := s.2.1 (28, 8) (by decide)
theorem sn_29 {h : XH} (s : Sh h) : xN h 29 = 6 := s.2.1 (29, 6) (by decide)
theorem sn_30 {h : XH} (s : Sh h) : xN h 30 = 6 := s.2.1 (30, 6) (by decide)
theorem sn_31 {h : XH} (s : Sh h) : xN h 31 = 6 := s.2.1 (31, 6) (by decide)
theorem sn_32 {h : XH} (s : Sh h) : xN h 32 = 36 := s.2.1 (32, 36) (by decide)
theorem sn_33 {h : XH} (s : Sh h) : xN h 33 = 512 := s.2.1 (33, 512) (by decide)
theorem sn_35 {h : XH} (s : Sh h) : xN h 35 = 32 := s.2.1 (35, 32) (by decide)
theorem sn_36 {h : XH} (s : Sh h) : xN h 36 = 301 := s.2.1 (36, 301) (by decide)
theorem sn_37 {h : XH} (s : Sh h) : xN h 37 = 8 := s.2.1 (37, 8) (by decide)
theorem sn_38 {h : XH} (s : Sh h) : xN h 38 = 6 := s.2.1 (38, 6) (by decide)
theorem sn_39 {h : XH} (s : Sh h) : xN h 39 = 20 := s.2.1 (39, 20) (by decide)
theorem sn_41 {h : XH} (s : Sh h) : xN h 41 = 1000 := s.2.1 (41, 1000) (by decide)
theorem sn_42 {h : XH} (s : Sh h) : xN h 42 = 60 := s.2.1 (42, 60) (by decide)
theorem sn_44 {h : XH} (s : Sh h) : xN h 44 = 20 := s.2.1 (44, 20) (by decide)
theorem sn_45 {h : XH} (s : Sh h) : xN h 45 = 6 := s.2.1 (45, 6) (by decide)
theorem sn_50 {h : XH} (s : Sh h) : xN h 50 = 20 := s.2.1 (50, 20) (by decide)
theorem sn_51 {h : XH} (s : Sh h) : xN h 51 = 6 := s.2.1 (51, 6) (by decide)
theorem sn_54 {h : XH} (s : Sh h) : xN h 54 = 20 := s.2.1 (54, 20) (by decide)
theorem sn_55 {h : XH} (s : Sh h) : xN h 55 = 20 := s.2.1 (55, 20) (by decide)
theorem sn_56 {h : XH} (s : Sh h) : xN h 56 = 301 := s.2.1 (56, 301) (by decide)
theorem sn_57 {h : XH} (s : Sh h) : xN h 57 = 301 := s.2.1 (57, 301) (by decide)
theorem sn_59 {h : XH} (s : Sh h) : xN h 59 = 20 := s.2.1 (59, 20) (by decide)
theorem sn_60 {h : XH} (s : Sh h) : xN h 60 = 20 := s.2.1 (60, 20) (by decide)
theorem sn_61 {h : XH} (s : Sh h) : xN h 61 = 20 := s.2.1 (61, 20) (by decide)
theorem sn_62 {h : XH} (s : Sh h) : xN h 62 = 20 := s.2.1 (62, 20) (by decide)
theorem sn_63 {h : XH} (s : Sh h) : xN h 63 = 5 := s.2.1 (63, 5) (by decide)
theorem sn_70 {h : XH} (s : Sh h) : xN h 70 = 2000 := s.2.1 (70, 2000) (by decide)
theorem sn_71 {h : XH} (s : Sh h) : xN h 71 = 2000 := s.2.1 (71, 2000) (by decide)
theorem sn_72 {h : XH} (s : Sh h) : xN h 72 = 403 := s.2.1 (72, 403) (by decide)
theorem sn_73 {h : XH} (s : Sh h) : xN h 73 = 403 := s.2.1 (73, 403) (by decide)
theorem sn_74 {h : XH} (s : Sh h) : xN h 74 = 403 := s.2.1 (74, 403) (by decide)
theorem sn_75 {h : XH} (s : Sh h) : xN h 75 = 403 := s.2.1 (75, 403) (by decide)
theorem sn_76 {h : XH} (s : Sh h) : xN h 76 = 16 := s.2.1 (76, 16) (by decide)
theorem sn_77 {h : XH} (s : Sh h) : xN h 77 = 14 := s.2.1 (77, 14) (by decide)
theorem sn_78 {h : XH} (s : Sh h) : xN h 78 = 14 := s.2.1 (78, 14) (by decide)
theorem sn_79 {h : XH} (s : Sh h) : xN h 79 = 2 := s.2.1 (79, 2) (by decide)
theorem sn_80 {h : XH} (s : Sh h) : xN h 80 = 16 := s.2.1 (80, 16) (by decide)
theorem sn_81 {h : XH} (s : Sh h) : xN h 81 = 16 := s.2.1 (81, 16) (by decide)
theorem sn_82 {h : XH} (s : Sh h) : xN h 82 = 16 := s.2.1 (82, 16) (by decide)
theorem sn_83 {h : XH} (s : Sh h) : xN h 83 = 2 := s.2.1 (83, 2) (by decide)
theorem sn_84 {h : XH} (s : Sh h) : xN h 84 = 2 := s.2.1 (84, 2) (by decide)
theorem sn_85 {h : XH} (s : Sh h) : xN h 85 = 12 := s.2.1 (85, 12) (by decide)
theorem sn_86 {h : XH} (s : Sh h) : xN h 86 = 12 := s.2.1 (86, 12) (by decide)
theorem sn_87 {h : XH} (s : Sh h) : xN h 87 = 12 := s.2.1 (87, 12) (by decide)
theorem sn_88 {h : XH} (s : Sh h) : xN h 88 = 72 := s.2.1 (88, 72) (by decide)
theorem sn_89 {h : XH} (s : Sh h) : xN h 89 = 72 := s.2.1 (89, 72) (by decide)
theorem sn_90 {h : XH} (s : Sh h) : xN h 90 = 72 := s.2.1 (90, 72) (by decide)
theorem sn_91 {h : XH} (s : Sh h) : xN h 91 = 72 := s.2.1 (91, 72) (by decide)
theorem sn_92 {h : XH} (s : Sh h) : xN h 92 = 2 := s.2.1 (92, 2) (by decide)
theorem sn_93 {h : XH} (s : Sh h) : xN h 93 = 2 := s.2.1 (93, 2) (by decide)
theorem sn_94 {h : XH} (s : Sh h) : xN h 94 = 400 := s.2.1 (94, 400) (by decide)
theorem sn_95 {h : XH} (s : Sh h) : xN h 95 = 400 := s.2.1 (95, 400) (by decide)
theorem sn_96 {h : XH} (s : Sh h) : xN h 96 = 16 := s.2.1 (96, 16) (by decide)
theorem sn_97 {h : XH} (s : Sh h) : xN h 97 = 16 := s.2.1 (97, 16) (by decide)
theorem sn_98 {h : XH} (s : Sh h) : xN h 98 = 260 := s.2.1 (98, 260) (by decide)
theorem sn_99 {h : XH} (s : Sh h) : xN h 99 = 260 := s.2.1 (99, 260) (by decide)
theorem sn_100 {h : XH} (s : Sh h) : xN h 100 = 260 := s.2.1 (100, 260) (by decide)
theorem sn_101 {h : XH} (s : Sh h) : xN h 101 = 260 := s.2.1 (101, 260) (by decide)
theorem sn_102 {h : XH} (s : Sh h) : xN h 102 = 260 := s.2.1 (102, 260) (by decide)
theorem sn_103 {h : XH} (s : Sh h) : xN h 103 = 840 := s.2.1 (103, 840) (by decide)
theorem sn_104 {h : XH} (s : Sh h) : xN h 104 = 840 := s.2.1 (104, 840) (by decide)
theorem sn_105 {h : XH} (s : Sh h) : xN h 105 = 64 := s.2.1 (105, 64) (by decide)
theorem sn_106 {h : XH} (s : Sh h) : xN h 106 = 16 := s.2.1 (106, 16) (by decide)
theorem sn_107 {h : XH} (s : Sh h) : xN h 107 = 400 := s.2.1 (107, 400) (by decide)
theorem sn_108 {h : XH} (s : Sh h) : xN h 108 = 20 := s.2.1 (108, 20) (by decide)
theorem sn_109 {h : XH} (s : Sh h) : xN h 109 = 20 := s.2.1 (109, 20) (by decide)
theorem sn_110 {h : XH} (s : Sh h) : xN h 110 = 6 := s.2.1 (110, 6) (by decide)
theorem sn_111 {h : XH} (s : Sh h) : xN h 111 = 301 := s.2.1 (111, 301) (by decide)
theorem sn_112 {h : XH} (s : Sh h) : xN h 112 = 8 := s.2.1 (112, 8) (by decide)
theorem sn_113 {h : XH} (s : Sh h) : xN h 113 = 1000 := s.2.1 (113, 1000) (by decide)
theorem sn_114 {h : XH} (s : Sh h) : xN h 114 = 301 := s.2.1 (114, 301) (by decide)
theorem sn_115 {h : XH} (s : Sh h) : xN h 115 = 2000 := s.2.1 (115, 2000) (by decide)
theorem sn_116 {h : XH} (s : Sh h) : xN h 116 = 6 := s.2.1 (116, 6) (by decide)
theorem sn_117 {h : XH} (s : Sh h) : xN h 117 = 15625 := s.2.1 (117, 15625) (by decide)
theorem sn_118 {h : XH} (s : Sh h) : xN h 118 = 20 := s.2.1 (118, 20) (by decide)
theorem sn_119 {h : XH} (s : Sh h) : xN h 119 = 20 := s.2.1 (119, 20) (by decide)
theorem sn_120 {h : XH} (s : Sh h) : xN h 120 = 20 := s.2.1 (120, 20) (by decide)
theorem sn_121 {h : XH} (s : Sh h) : xN h 121 = 30 := s.2.1 (121, 30) (by decide)
theorem sn_122 {h : XH} (s : Sh h) : xN h 122 = 3 := s.2.1 (122, 3) (by decide)
theorem sn_123 {h : XH} (s : Sh h) : xN h 123 = 60 := s.2.1 (123, 60) (by decide)
theorem sr_4_0 {h : XH} (s : Sh h) : xR h 4 0 = 5 := s.2.2.1 (4, 0, 5) (by decide)
theorem sr_4_3 {h : XH} (s : Sh h) : xR h 4 3 = 6 := s.2.2.1 (4, 3, 6) (by decide)
theorem sr_4_6 {h : XH} (s : Sh h) : xR h 4 6 = 34 := s.2.2.1 (4, 6, 34) (by decide)
theorem sr_4_7 {h : XH} (s : Sh h) : xR h 4 7 = 39 := s.2.2.1 (4, 7, 39) (by decide)
theorem sr_4_8 {h : XH} (s : Sh h) : xR h 4 8 = 40 := s.2.2.1 (4, 8, 40) (by decide)
theorem sr_4_9 {h : XH} (s : Sh h) : xR h 4 9 = 42 := s.2.2.1 (4, 9, 42) (by decide)
theorem sr_4_11 {h : XH} (s : Sh h) : xR h 4 11 = 43 := s.2.2.1 (4, 11, 43) (by decide)
theorem sr_4_12 {h : XH} (s : Sh h) : xR h 4 12 = 49 := s.2.2.1 (4, 12, 49) (by decide)
theorem sr_4_13 {h : XH} (s : Sh h) : xR h 4 13 = 53 := s.2.2.1 (4, 13, 53) (by decide)
theorem sr_4_14 {h : XH} (s : Sh h) : xR h 4 14 = 58 := s.2.2.1 (4, 14, 58) (by decide)
theorem sr_6_9 {h : XH} (s : Sh h) : xR h 6 9 = 7 := s.2.2.1 (6, 9, 7) (by decide)
theorem sr_6_10 {h : XH} (s : Sh h) : xR h 6 10 = 8 := s.2.2.1 (6, 10, 8) (by decide)
theorem sr_6_11 {h : XH} (s : Sh h) : xR h 6 11 = 9 := s.2.2.1 (6, 11, 9) (by decide)
theorem sr_6_12 {h : XH} (s : Sh h) : xR h 6 12 = 10 := s.2.2.1 (6, 12, 10) (by decide)
theorem sr_6_13 {h : XH} (s : Sh h) : xR h 6 13 = 11 := s.2.2.1 (6, 13, 11) (by decide)
theorem sr_6_14 {h : XH} (s : Sh h) : xR h 6 14 = 12 := s.2.2.1 (6, 14, 12) (by decide)
theorem sr_6_15 {h : XH} (s : Sh h) : xR h 6 15 = 13 := s.2.2.1 (6, 15, 13) (by decide)
theorem sr_14_9 {h : XH} (s : Sh h) : xR h 14 9 = 15 := s.2.2.1 (14, 9, 15) (by decide)
theorem sr_14_10 {h : XH} (s : Sh h) : xR h 14 10 = 16 := s.2.2.1 (14, 10, 16) (by decide)
theorem sr_14_11 {h : XH} (s : Sh h) : xR h 14 11 = 17 := s.2.2.1 (14, 11, 17) (by decide)
theorem sr_14_12 {h : XH} (s : Sh h) : xR h 14 12 = 18 := s.2.2.1 (14, 12, 18) (by decide)
theorem sr_14_13 {h : XH} (s : Sh h) : xR h 14 13 = 19 := s.2.2.1 (14, 13, 19) (by decide)
theorem sr_14_14 {h : XH} (s : Sh h) : xR h 14 14 = 20 := s.2.2.1 (14, 14, 20) (by decide)
theorem sr_14_15 {h : XH} (s : Sh h) : xR h 14 15 = 21 := s.2.2.1 (14, 15, 21) (by decide)
theorem sr_14_16 {h : XH} (s : Sh h) : xR h 14 16 = 22 := s.2.2.1 (14, 16, 22) (by decide)
theorem sr_14_17 {h : XH} (s : Sh h) : xR h 14 17 = 23 := s.2.2.1 (14, 17, 23) (by decide)
theorem sr_24_9 {h : XH} (s : Sh h) : xR h 24 9 = 25 := s.2.2.1 (24, 9, 25) (by decide)
theorem sr_24_10 {h : XH} (s : Sh h) : xR h 24 10 = 26 := s.2.2.1 (24, 10, 26) (by decide)
theorem sr_24_11 {h : XH} (s : Sh h) : xR h 24 11 = 27 := s.2.2.1 (24, 11, 27) (by decide)
theorem sr_24_12 {h : XH} (s : Sh h) : xR h 24 12 = 28 := s.2.2.1 (24, 12, 28) (by decide)
theorem sr_24_13 {h : XH} (s : Sh h) : xR h 24 13 = 29 := s.2.2.1 (24, 13, 29) (by decide)
theorem sr_24_14 {h : XH} (s : Sh h) : xR h 24 14 = 30 := s.2.2.1 (24, 14, 30) (by decide)
theorem sr_24_15 {h : XH} (s : Sh h) : xR h 24 15 = 31 := s.2.2.1 (24, 15, 31) (by decide)
theorem sr_24_16 {h : XH} (s : Sh h) : xR h 24 16 = 32 := s.2.2.1 (24, 16, 32) (by decide)
theorem sr_24_17 {h : XH} (s : Sh h) : xR h 24 17 = 33 := s.2.2.1 (24, 17, 33) (by decide)
theorem sr_34_1 {h : XH} (s : Sh h) : xR h 34 1 = 35 := s.2.2.1 (34, 1, 35) (by decide)
theorem sr_34_2 {h : XH} (s : Sh h) : xR h 34 2 = 36 := s.2.2.1 (34, 2, 36) (by decide)
theorem sr_34_3 {h : XH} (s : Sh h) : xR h 34 3 = 37 := s.2.2.1 (34, 3, 37) (by decide)
theorem sr_34_4 {h : XH} (s : Sh h) : xR h 34 4 = 38 := s.2.2.1 (34, 4, 38) (by decide)
theorem sr_40_2 {h : XH} (s : Sh h) : xR h 40 2 = 41 := s.2.2.1 (40, 2, 41) (by decide)
theorem sr_43_2 {h : XH} (s : Sh h) : xR h 43 2 = 44 := s.2.2.1 (43, 2, 44) (by decide)
theorem sr_43_3 {h : XH} (s : Sh h) : xR h 43 3 = 45 := s.2.2.1 (43, 3, 45) (by decide)
theorem sr_43_1 {h : XH} (s : Sh h) : xR h 43 1 = 34 := s.2.2.1 (43, 1, 34) (by decide)
theorem sr_49_3 {h : XH} (s : Sh h) : xR h 49 3 = 50 := s.2.2.1 (49, 3, 50) (by decide)
theorem sr_49_4 {h : XH} (s : Sh h) : xR h 49 4 = 51 := s.2.2.1 (49, 4, 51) (by decide)
theorem sr_49_2 {h : XH} (s : Sh h) : xR h 49 2 = 34 := s.2.2.1 (49, 2, 34) (by decide)
theorem sr_53_2 {h : XH} (s : Sh h) : xR h 53 2 = 54 := s.2.2.1 (53, 2, 54) (by decide)
theorem sr_53_3 {h : XH} (s : Sh h) : xR h 53 3 = 55 := s.2.2.1 (53, 3, 55) (by decide)
theorem sr_53_4 {h : XH} (s : Sh h) : xR h 53 4 = 56 := s.2.2.1 (53, 4, 56) (by decide)
theorem sr_53_5 {h : XH} (s : Sh h) : xR h 53 5 = 57 := s.2.2.1 (53, 5, 57) (by decide)
theorem sr_53_1 {h : XH} (s : Sh h) : xR h 53 1 = 34 := s.2.2.1 (53, 1, 34) (by decide)
theorem sr_58_2 {h : XH} (s : Sh h) : xR h 58 2 = 59 := s.2.2.1 (58, 2, 59) (by decide)
theorem sr_58_3 {h : XH} (s : Sh h) : xR h 58 3 = 60 := s.2.2.1 (58, 3, 60) (by decide)
theorem sr_58_4 {h : XH} (s : Sh h) : xR h 58 4 = 61 := s.2.2.1 (58, 4, 61) (by decide)
theorem sr_58_5 {h : XH} (s : Sh h) : xR h 58 5 = 62 := s.2.2.1 (58, 5, 62) (by decide)
theorem sr_58_6 {h : XH} (s : Sh h) : xR h 58 6 = 63 := s.2.2.1 (58, 6, 63) (by decide)
theorem sr_58_1 {h : XH} (s : Sh h) : xR h 58 1 = 34 := s.2.2.1 (58, 1, 34) (by decide)
theorem sr_69_1 {h : XH} (s : Sh h) : xR h 69 1 = 70 := s.2.2.1 (69, 1, 70) (by decide)
theorem sr_69_3 {h : XH} (s : Sh h) : xR h 69 3 = 71 := s.2.2.1 (69, 3, 71) (by decide)
theorem sr_69_5 {h : XH} (s : Sh h) : xR h 69 5 = 72 := s.2.2.1 (69, 5, 72) (by decide)
theorem sr_69_6 {h : XH} (s : Sh h) : xR h 69 6 = 73 := s.2.2.1 (69, 6, 73) (by decide)
theorem sr_69_7 {h : XH} (s : Sh h) : xR h 69 7 = 74 := s.2.2.1 (69, 7, 74) (by decide)
theorem sr_69_8 {h : XH} (s : Sh h) : xR h 69 8 = 75 := s.2.2.1 (69, 8, 75) (by decide)
theorem sr_69_9 {h : XH} (s : Sh h) : xR h 69 9 = 76 := s.2.2.1 (69, 9, 76) (by decide)
theorem sr_69_21 {h : XH} (s : Sh h) : xR h 69 21 = 77 := s.2.2.1 (69, 21, 77) (by decide)
theorem sr_69_22 {h : XH} (s : Sh h) : xR h 69 22 = 78 := s.2.2.1 (69, 22, 78) (by decide)
theorem sr_69_23 {h : XH} (s : Sh h) : xR h 69 23 = 79 := s.2.2.1 (69, 23, 79) (by decide)
theorem sr_69_24 {h : XH} (s : Sh h) : xR h 69 24 = 80 := s.2.2.1 (69, 24, 80) (by decide)
theorem sr_69_25 {h : XH} (s : Sh h) : xR h 69 25 = 81 := s.2.2.1 (69, 25, 81) (by decide)
theorem sr_69_26 {h : XH} (s : Sh h) : xR h 69 26 = 82 := s.2.2.1 (69, 26, 82) (by decide)
theorem sr_69_27 {h : XH} (s : Sh h) : xR h 69 27 = 83 := s.2.2.1 (69, 27, 83) (by decide)
theorem sr_69_28 {h : XH} (s : Sh h) : xR h 69 28 = 84 := s.2.2.1 (69, 28, 84) (by decide)
theorem sr_69_29 {h : XH} (s : Sh h) : xR h 69 29 = 85 := s.2.2.1 (69, 29, 85) (by decide)
theorem sr_69_30 {h : XH} (s : Sh h) : xR h 69 30 = 86 := s.2.2.1 (69, 30, 86) (by decide)
theorem sr_69_31 {h : XH} (s : Sh h) : xR h 69 31 = 87 := s.2.2.1 (69, 31, 87) (by decide)
theorem sr_69_33 {h : XH} (s : Sh h) : xR h 69 33 = 88 := s.2.2.1 (69, 33, 88) (by decide)
theorem sr_69_34 {h : XH} (s : Sh h) : xR h 69 34 = 89 := s.2.2.1 (69, 34, 89) (by decide)
theorem sr_69_35 {h : XH} (s : Sh h) : xR h 69 35 = 90 := s.2.2.1 (69, 35, 90) (by decide)
theorem sr_69_36 {h : XH} (s : Sh h) : xR h 69 36 = 91 := s.2.2.1 (69, 36, 91) (by decide)
theorem sr_69_37 {h : XH} (s : Sh h) : xR h 69 37 = 92 := s.2.2.1 (69, 37, 92) (by decide)
theorem sr_69_38 {h : XH} (s : Sh h) : xR h 69 38 = 93 := s.2.2.1 (69, 38, 93) (by decide)
theorem sr_69_40 {h : XH} (s : Sh h) : xR h 69 40 = 94 := s.2.2.1 (69, 40, 94) (by decide)
theorem sr_69_41 {h : XH} (s : Sh h) : xR h 69 41 = 95 := s.2.2.1 (69, 41, 95) (by decide)
theorem sr_69_43 {h : XH} (s : Sh h) : xR h 69 43 = 96 := s.2.2.1 (69, 43, 96) (by decide)
theorem sr_69_44 {h : XH} (s : Sh h) : xR h 69 44 = 97 := s.2.2.1 (69, 44, 97) (by decide)
theorem sr_69_46 {h : XH} (s : Sh h) : xR h 69 46 = 98 := s.2.2.1 (69, 46, 98) (by decide)
theorem sr_69_47 {h : XH} (s : Sh h) : xR h 69 47 = 99 := s.2.2.1 (69, 47, 99) (by decide)
theorem sr_69_48 {h : XH} (s : Sh h) : xR h 69 48 = 100 := s.2.2.1 (69, 48, 100) (by decide)
theorem sr_69_49 {h : XH} (s : Sh h) : xR h 69 49 = 101 := s.2.2.1 (69, 49, 101) (by decide)
theorem sr_69_50 {h : XH} (s : Sh h) : xR h 69 50 = 102 := s.2.2.1 (69, 50, 102) (by decide)
theorem sr_69_52 {h : XH} (s : Sh h) : xR h 69 52 = 103 := s.2.2.1 (69, 52, 103) (by decide)
theorem sr_69_53 {h : XH} (s : Sh h) : xR h 69 53 = 104 := s.2.2.1 (69, 53, 104) (by decide)
theorem sr_69_54 {h : XH} (s : Sh h) : xR h 69 54 = 105 := s.2.2.1 (69, 54, 105) (by decide)
theorem sr_69_56 {h : XH} (s : Sh h) : xR h 69 56 = 106 := s.2.2.1 (69, 56, 106) (by decide)
theorem sr_69_57 {h : XH} (s : Sh h) : xR h 69 57 = 107 := s.2.2.1 (69, 57, 107) (by decide)
theorem sr_69_59 {h : XH} (s : Sh h) : xR h 69 59 = 108 := s.2.2.1 (69, 59, 108) (by decide)
theorem sr_69_60 {h : XH} (s : Sh h) : xR h 69 60 = 109 := s.2.2.1 (69, 60, 109) (by decide)
theorem sr_69_62 {h : XH} (s : Sh h) : xR h 69 62 = 110 := s.2.2.1 (69, 62, 110) (by decide)
theorem sr_69_63 {h : XH} (s : Sh h) : xR h 69 63 = 111 := s.2.2.1 (69, 63, 111) (by decide)
theorem sr_69_64 {h : XH} (s : Sh h) : xR h 69 64 = 112 := s.2.2.1 (69, 64, 112) (by decide)
theorem sr_69_66 {h : XH} (s : Sh h) : xR h 69 66 = 113 := s.2.2.1 (69, 66, 113) (by decide)
theorem sr_69_67 {h : XH} (s : Sh h) : xR h 69 67 = 114 := s.2.2.1 (69, 67, 114) (by decide)
theorem sr_69_68 {h : XH} (s : Sh h) : xR h 69 68 = 115 := s.2.2.1 (69, 68, 115) (by decide)
theorem sr_69_69 {h : XH} (s : Sh h) : xR h 69 69 = 116 := s.2.2.1 (69, 69, 116) (by decide)
theorem sr_69_70 {h : XH} (s : Sh h) : xR h 69 70 = 117 := s.2.2.1 (69, 70, 117) (by decide)
theorem sr_69_72 {h : XH} (s : Sh h) : xR h 69 72 = 118 := s.2.2.1 (69, 72, 118) (by decide)
theorem sr_69_73 {h : XH} (s : Sh h) : xR h 69 73 = 119 := s.2.2.1 (69, 73, 119) (by decide)
theorem sr_69_74 {h : XH} (s : Sh h) : xR h 69 74 = 120 := s.2.2.1 (69, 74, 120) (by decide)
theorem sr_69_75 {h : XH} (s : Sh h) : xR h 69 75 = 121 := s.2.2.1 (69, 75, 121) (by decide)
theorem sr_69_76 {h : XH} (s : Sh h) : xR h 69 76 = 122 := s.2.2.1 (69, 76, 122) (by decide)
theorem sr_69_77 {h : XH} (s : Sh h) : xR h 69 77 = 123 := s.2.2.1 (69, 77, 123) (by decide)
theorem sgk_43_4 {h : XH} (s : Sh h) : xK h (xR h 43 4) = 1 := (s.2.2.2.2.1 (43, 4, 1, 46) (by decide)).1
theorem sg4_43_4 {h : XH} (s : Sh h) : 46 ≤ xR h 43 4 := by
  have := (s.2.2.2.2.1 (43, 4, 1, 46) (by decide)).2.1
  dsimp only at this
  omega
theorem sgk_43_5 {h : XH} (s : Sh h) : xK h (xR h 43 5) = 1 := (s.2.2.2.2.1 (43, 5, 1, 47) (by decide)).1
theorem sg4_43_5 {h : XH} (s : Sh h) : 46 ≤ xR h 43 5 := by
  have := (s.2.2.2.2.1 (43, 5, 1, 47) (by decide)).2.1
  dsimp only at this
  omega
theorem sgk_43_6 {h : XH} (s : Sh h) : xK h (xR h 43 6) = 1 := (s.2.2.2.2.1 (43, 6, 1, 48) (by decide)).1
theorem sg4_43_6 {h : XH} (s : Sh h) : 46 ≤ xR h 43 6 := by
  have := (s.2.2.2.2.1 (43, 6, 1, 48) (by decide)).2.1
  dsimp only at this
  omega
theorem sgk_49_5 {h : XH} (s : Sh h) : xK h (xR h 49 5) = 4 := (s.2.2.2.2.1 (49, 5, 4, 52) (by decide)).1
theorem sg4_49_5 {h : XH} (s : Sh h) : 46 ≤ xR h 49 5 := by
  have := (s.2.2.2.2.1 (49, 5, 4, 52) (by decide)).2.1
  dsimp only at this
  omega
theorem sgk_58_8 {h : XH} (s : Sh h) : xK h (xR h 58 8) = 1 := (s.2.2.2.2.1 (58, 8, 1, 64) (by decide)).1
theorem sg4_58_8 {h : XH} (s : Sh h) : 46 ≤ xR h 58 8 := by
  have := (s.2.2.2.2.1 (58, 8, 1, 64) (by decide)).2.1
  dsimp only at this
  omega
theorem sgk_58_9 {h : XH} (s : Sh h) : xK h (xR h 58 9) = 1 := (s.2.2.2.2.1 (58, 9, 1, 65) (by decide)).1
theorem sg4_58_9 {h : XH} (s : Sh h) : 46 ≤ xR h 58 9 := by
  have := (s.2.2.2.2.1 (58, 9, 1, 65) (by decide)).2.1
  dsimp only at this
  omega
theorem sgk_58_10 {h : XH} (s : Sh h) : xK h (xR h 58 10) = 1 := (s.2.2.2.2.1 (58, 10, 1, 66) (by decide)).1
theorem sg4_58_10 {h : XH} (s : Sh h) : 46 ≤ xR h 58 10 := by
  have := (s.2.2.2.2.1 (58, 10, 1, 66) (by decide)).2.1
  dsimp only at this
  omega
theorem sgk_58_11 {h : XH} (s : Sh h) : xK h (xR h 58 11) = 1 := (s.2.2.2.2.1 (58, 11, 1, 67) (by decide)).1
theorem sg4_58_11 {h : XH} (s : Sh h) : 46 ≤ xR h 58 11 := by
  have := (s.2.2.2.2.1 (58, 11, 1, 67) (by decide)).2.1
  dsimp only at this
  omega
theorem sgk_58_12 {h : XH} (s : Sh h) : xK h (xR h 58 12) = 1 := (s.2.2.2.2.1 (58, 12, 1, 68) (by decide)).1
theorem sg4_58_12 {h : XH} (s : Sh h) : 46 ≤ xR h 58 12 := by
  have := (s.2.2.2.2.1 (58, 12, 1, 68) (by decide)).2.1
  dsimp only at this
  omega
theorem ss_p {h : XH} (s : Sh h) : xR h 34 0 = 14 ∨ xR h 34 0 = 24 := by rcases s.2.2.2.1 with q | q <;> omega
theorem ss_s {h : XH} (s : Sh h) : xR h 4 4 = 14 ∨ xR h 4 4 = 24 := by rcases s.2.2.2.1 with q | q <;> omega
theorem ss_o {h : XH} (s : Sh h) : xR h 4 5 = 14 ∨ xR h 4 5 = 24 := by rcases s.2.2.2.1 with q | q <;> omega
theorem ss_e {h : XH} (s : Sh h) : xR h 4 4 = xR h 34 0 := by rcases s.2.2.2.1 with q | q <;> omega
theorem sc_k {h : XH} (s : Sh h) {c : Nat} (hc : c = 14 ∨ c = 24) : xK h c = 15 := by
  rcases hc with rfl | rfl
  · exact sk_14 s
  · exact sk_24 s
theorem sc_r9 {h : XH} (s : Sh h) {c : Nat} (hc : c = 14 ∨ c = 24) : xR h c 9 = c + 1 := by
  rcases hc with rfl | rfl
  · exact sr_14_9 s
  · exact sr_24_9 s
theorem sc_a1 {h : XH} (s : Sh h) {c : Nat} (hc : c = 14 ∨ c = 24) : Ar h (c + 1) 8 := by
  rcases hc with rfl | rfl
  · exact ⟨sk_15 s, sn_15 s, by decide⟩
  · exact ⟨sk_25 s, sn_25 s, by decide⟩
theorem sc_r10 {h : XH} (s : Sh h) {c : Nat} (hc : c = 14 ∨ c = 24) : xR h c 10 = c + 2 := by
  rcases hc with rfl | rfl
  · exact sr_14_10 s
  · exact sr_24_10 s
theorem sc_a2 {h : XH} (s : Sh h) {c : Nat} (hc : c = 14 ∨ c = 24) : Ar h (c + 2) 8 := by
  rcases hc with rfl | rfl
  · exact ⟨sk_16 s, sn_16 s, by decide⟩
  · exact ⟨sk_26 s, sn_26 s, by decide⟩
theorem sc_r11 {h : XH} (s : Sh h) {c : Nat} (hc : c = 14 ∨ c = 24) : xR h c 11 = c + 3 := by
  rcases hc with rfl | rfl
  · exact sr_14_11 s
  · exact sr_24_11 s
theorem sc_a3 {h : XH} (s : Sh h) {c : Nat} (hc : c = 14 ∨ c = 24) : Ar h (c + 3) 8 := by
  rcases hc with rfl | rfl
  · exact ⟨sk_17 s, sn_17 s, by decide⟩
  · exact ⟨sk_27 s, sn_27 s, by decide⟩
theorem sc_r12 {h : XH} (s : Sh h) {c : Nat} (hc : c = 14 ∨ c = 24) : xR h c 12 = c + 4 := by
  rcases hc with rfl | rfl
  · exact sr_14_12 s
  · exact sr_24_12 s
theorem sc_a4 {h : XH} (s : Sh h) {c : Nat} (hc : c = 14 ∨ c = 24) : Ar h (c + 4) 8 := by
  rcases hc with rfl | rfl
  · exact ⟨sk_18 s, sn_18 s, by decide⟩
  · exact ⟨sk_28 s, sn_28 s, by decide⟩
theorem sc_r13 {h : XH} (s : Sh h) {c : Nat} (hc : c = 14 ∨ c = 24) : xR h c 13 = c + 5 := by
  rcases hc with rfl | rfl
  · exact sr_14_13 s
  · exact sr_24_13 s
theorem sc_a5 {h : XH} (s : Sh h) {c : Nat} (hc : c = 14 ∨ c = 24) : Ar h (c + 5) 6 := by
  rcases hc with rfl | rfl
  · exact ⟨sk_19 s, sn_19 s, by decide⟩
  · exact ⟨sk_29 s, sn_29 s, by decide⟩
theorem sc_r14 {h : XH} (s : Sh h) {c : Nat} (hc : c = 14 ∨ c = 24) : xR h c 14 = c + 6 := by
  rcases hc with rfl | rfl
  · exact sr_14_14 s
  · exact sr_24_14 s
theorem sc_a6 {h : XH} (s : Sh h) {c : Nat} (hc : c = 14 ∨ c = 24) : Ar h (c + 6) 6 := by
  rcases hc with rfl | rfl
  · exact ⟨sk_20 s, sn_20 s, by decide⟩
  · exact ⟨sk_30 s, sn_30 s, by decide⟩
theorem sc_r15 {h : XH} (s : Sh h) {c : Nat} (hc : c = 14 ∨ c = 24) : xR h c 15 = c + 7 := by
  rcases hc with rfl | rfl
  · exact sr_14_15 s
  · exact sr_24_15 s
theorem sc_a7 {h : XH} (s : Sh h) {c : Nat} (hc : c = 14 ∨ c = 24) : Ar h (c + 7) 6 := by
  rcases hc with rfl | rfl
  · exact ⟨sk_21 s, sn_21 s, by decide⟩
  · exact ⟨sk_31 s, sn_31 s, by decide⟩
theorem sc_r16 {h : XH} (s : Sh h) {c : Nat} (hc : c = 14 ∨ c = 24) : xR h c 16 = c + 8 := by
  rcases hc with rfl | rfl
  · exact sr_14_16 s
  · exact sr_24_16 s
theorem sc_a8 {h : XH} (s : Sh h) {c : Nat} (hc : c = 14 ∨ c = 24) : Ar h (c + 8) 36 := by
  rcases hc with rfl | rfl
  · exact ⟨sk_22 s, sn_22 s, by decide⟩
  · exact ⟨sk_32 s, sn_32 s, by decide⟩
theorem sc_r17 {h : XH} (s : Sh h) {c : Nat} (hc : c = 14 ∨ c = 24) : xR h c 17 = c + 9 := by
  rcases hc with rfl | rfl
  · exact sr_14_17 s
  · exact sr_24_17 s
theorem sc_a9 {h : XH} (s : Sh h) {c : Nat} (hc : c = 14 ∨ c = 24) : Ar h (c + 9) 512 := by
  rcases hc with rfl | rfl
  · exact ⟨sk_23 s, sn_23 s, by decide⟩
  · exact ⟨sk_33 s, sn_33 s, by decide⟩
