/-! PURE: how the two halves of the contents belong together -/
def cl (os : List Nat) (fs : List (Nat × Nat)) (a k : Nat) : Bool := os.contains a || fs.contains (a, k)
def dj (os : List Nat) (fs : List (Nat × Nat)) (os' : List Nat) (fs' : List (Nat × Nat)) : Bool :=
  os.all (fun a => !os'.contains a && fs'.all (fun q => q.1 != a)) && fs.all (fun q => !os'.contains q.1 && !fs'.contains q)
theorem dj_ok {os os' : List Nat} {fs fs' : List (Nat × Nat)} (h : dj os fs os' fs' = true) (a k : Nat) (hs : cl os fs a k = true) : cl os' fs' a k = false := by
  unfold dj at h
  unfold cl at hs ⊢
  rw [Bool.and_eq_true, List.all_eq_true, List.all_eq_true] at h
  obtain ⟨h1, h2⟩ := h
  rw [Bool.or_eq_true] at hs
  rcases hs with q | q
  · have h3 := h1 a (by simpa using q)
    rw [Bool.and_eq_true, List.all_eq_true] at h3
    rw [Bool.or_eq_false_iff]
    refine ⟨by simpa using h3.1, ?_⟩
    rw [Bool.eq_false_iff]
    intro z
    have h4 := h3.2 (a, k) (by simpa using z)
    simp at h4
  · have h3 := h2 (a, k) (by simpa using q)
    rw [Bool.and_eq_true] at h3
    rw [Bool.or_eq_false_iff]
    exact ⟨by simpa using h3.1, by simpa using h3.2⟩
/-- two contents that agree on some cells -/
def Ag (os : List Nat) (fs : List (Nat × Nat)) (h h1 : mH) : Prop := ∀ a k, cl os fs a k = true → gi h1 a k = gi h a k ∧ gl h1 a k = gl h a k
theorem Fr.ag {os os' : List Nat} {fs fs' : List (Nat × Nat)} {h h1 : mH} (f : Fr (cl os fs) h h1) (d : dj os' fs' os fs = true) : Ag os' fs' h h1 := fun a k hs => f a k (dj_ok d a k hs)
theorem Ag.i {os : List Nat} {fs : List (Nat × Nat)} {h h1 : mH} (g : Ag os fs h h1) (a k : Nat) (hs : cl os fs a k = true) : gi h1 a k = gi h a k := (g a k hs).1
theorem Ag.l {os : List Nat} {fs : List (Nat × Nat)} {h h1 : mH} (g : Ag os fs h h1) (a k : Nat) (hs : cl os fs a k = true) : gl h1 a k = gl h a k := (g a k hs).2
-- amounts
def okA (p : Nat) (v : Int32) : Prop := (p ≤ 1 → -360 ≤ v.toInt ∧ v.toInt ≤ 359) ∧ (p = 2 ∨ p = 3 → -9 ≤ v.toInt ∧ v.toInt ≤ 9) ∧ (p = 4 → 0 ≤ v.toInt ∧ v.toInt ≤ 9) ∧ (5 ≤ p → 0 ≤ v.toInt ∧ v.toInt ≤ 99)
def RA (h : mH) : Prop := (gi h 2 0 = gi h 54 0 ∧ gi h 2 1 = gi h 54 1 ∧ gi h 2 2 = gi h 55 0 ∧ gi h 2 3 = gi h 55 1 ∧ gi h 2 4 = gi h 53 3 ∧ gi h 2 5 = gi h 53 4 ∧ gi h 2 6 = gi h 53 5) ∧
  okA 0 (gi h 2 0) ∧ okA 1 (gi h 2 1) ∧ okA 2 (gi h 2 2) ∧ okA 3 (gi h 2 3) ∧ okA 4 (gi h 2 4) ∧ okA 5 (gi h 2 5) ∧ okA 6 (gi h 2 6) ∧ (gi h 2 5).toInt ≤ (gi h 2 6).toInt
theorem RA.ag {h h1 : mH} (g : Ag [54, 55] [(2, 0), (2, 1), (2, 2), (2, 3), (2, 4), (2, 5), (2, 6), (53, 3), (53, 4), (53, 5)] h h1) (r : RA h) : RA h1 := by
  have x54 : ∀ k, gi h1 54 k = gi h 54 k := fun k => g.i 54 k rfl
  have x55 : ∀ k, gi h1 55 k = gi h 55 k := fun k => g.i 55 k rfl
  have y2_0 : gi h1 2 0 = gi h 2 0 := g.i 2 0 rfl
  have y2_1 : gi h1 2 1 = gi h 2 1 := g.i 2 1 rfl
  have y2_2 : gi h1 2 2 = gi h 2 2 := g.i 2 2 rfl
  have y2_3 : gi h1 2 3 = gi h 2 3 := g.i 2 3 rfl
  have y2_4 : gi h1 2 4 = gi h 2 4 := g.i 2 4 rfl
  have y2_5 : gi h1 2 5 = gi h 2 5 := g.i 2 5 rfl
  have y2_6 : gi h1 2 6 = gi h 2 6 := g.i 2 6 rfl
  have y53_3 : gi h1 53 3 = gi h 53 3 := g.i 53 3 rfl
  have y53_4 : gi h1 53 4 = gi h 53 4 := g.i 53 4 rfl
  have y53_5 : gi h1 53 5 = gi h 53 5 := g.i 53 5 rfl
  unfold RA at *
  simp only [x54, x55, y2_0, y2_1, y2_2, y2_3, y2_4, y2_5, y2_6, y53_3, y53_4, y53_5]
  exact r
-- how often, and when, a clock was set (i: how many calls there were)
def okL (i : Nat) (n l m k : Int32) : Prop := n = k ∧ 0 ≤ n.toInt ∧ n.toInt ≤ i ∧ (n = 0 → m = -2) ∧ (¬ n = 0 → l = m)
def RD (i : Nat) (h : mH) : Prop := okL i (gi h 3 0) (gi h 4 0) (gi h 57 0) (gi h 56 0) ∧ okL i (gi h 3 1) (gi h 4 1) (gi h 57 1) (gi h 56 1)
theorem RD.ag {i : Nat} {h h1 : mH} (g : Ag [3, 4, 56, 57] [] h h1) (r : RD i h) : RD i h1 := by
  have x3 : ∀ k, gi h1 3 k = gi h 3 k := fun k => g.i 3 k rfl
  have x4 : ∀ k, gi h1 4 k = gi h 4 k := fun k => g.i 4 k rfl
  have x56 : ∀ k, gi h1 56 k = gi h 56 k := fun k => g.i 56 k rfl
  have x57 : ∀ k, gi h1 57 k = gi h 57 k := fun k => g.i 57 k rfl
  unfold RD at *
  simp only [x3, x4, x56, x57]
  exact r
theorem okL.up {i j : Nat} {n l m k : Int32} (hj : i ≤ j) (r : okL i n l m k) : okL j n l m k := ⟨r.1, r.2.1, by have := r.2.2.1; omega, r.2.2.2⟩
theorem RD.up {i j : Nat} {h : mH} (hj : i ≤ j) (r : RD i h) : RD j h := ⟨r.1.up hj, r.2.up hj⟩
-- sights: entries of four numbers; guns: of three
def okS (a b c d : Int32) : Prop := isS a b c d
def RS (h : mH) : Prop := gi h 5 0 = 8 ∧ gi h 5 1 = 4 ∧ ∃ n, n ≤ 8 ∧ gi h 5 3 = nI n ∧ gi h 53 14 = nI n ∧ ∀ i, i < n → gi h 6 (4 * i) = gi h 62 i ∧ gi h 6 (4 * i + 1) = gi h 63 i ∧ gi h 6 (4 * i + 2) = gi h 64 i ∧ gi h 6 (4 * i + 3) = gi h 65 i ∧ okS (gi h 62 i) (gi h 63 i) (gi h 64 i) (gi h 65 i)
theorem RS.ag {h h1 : mH} (g : Ag [5, 6, 62, 63, 64, 65] [(53, 14)] h h1) (r : RS h) : RS h1 := by
  have x5 : ∀ k, gi h1 5 k = gi h 5 k := fun k => g.i 5 k rfl
  have x6 : ∀ k, gi h1 6 k = gi h 6 k := fun k => g.i 6 k rfl
  have x62 : ∀ k, gi h1 62 k = gi h 62 k := fun k => g.i 62 k rfl
  have x63 : ∀ k, gi h1 63 k = gi h 63 k := fun k => g.i 63 k rfl
  have x64 : ∀ k, gi h1 64 k = gi h 64 k := fun k => g.i 64 k rfl
  have x65 : ∀ k, gi h1 65 k = gi h 65 k := fun k => g.i 65 k rfl
  have y53_14 : gi h1 53 14 = gi h 53 14 := g.i 53 14 rfl
  unfold RS at *
  simp only [x5, x6, x62, x63, x64, x65, y53_14]
  exact r
def okG (a b c : Int32) : Prop := inR a 0 1 ∧ inR b 0 40 ∧ inR c 0 59
def RG (h : mH) : Prop := gi h 7 0 = 10 ∧ gi h 7 1 = 3 ∧ ∃ n, n ≤ 10 ∧ gi h 7 3 = nI n ∧ gi h 53 19 = nI n ∧ ∀ i, i < n → gi h 8 (3 * i) = gi h 66 i ∧ gi h 8 (3 * i + 1) = gi h 67 i ∧ gi h 8 (3 * i + 2) = gi h 68 i ∧ okG (gi h 66 i) (gi h 67 i) (gi h 68 i)
theorem RG.ag {h h1 : mH} (g : Ag [7, 8, 66, 67, 68] [(53, 19)] h h1) (r : RG h) : RG h1 := by
  have x7 : ∀ k, gi h1 7 k = gi h 7 k := fun k => g.i 7 k rfl
  have x8 : ∀ k, gi h1 8 k = gi h 8 k := fun k => g.i 8 k rfl
  have x66 : ∀ k, gi h1 66 k = gi h 66 k := fun k => g.i 66 k rfl
  have x67 : ∀ k, gi h1 67 k = gi h 67 k := fun k => g.i 67 k rfl
  have x68 : ∀ k, gi h1 68 k = gi h 68 k := fun k => g.i 68 k rfl
  have y53_19 : gi h1 53 19 = gi h 53 19 := g.i 53 19 rfl
  unfold RG at *
  simp only [x7, x8, x66, x67, x68, y53_19]
  exact r
-- the tape
def RT (h : mH) : Prop := ∃ n, n ≤ 120 ∧ gi h 11 1 = nI n ∧ gi h 53 24 = nI n ∧ ∀ i, i < n → inR (gi h 12 i) 0 255 ∧ gi h 69 i = (gi h 12 i).toInt8.toInt32
theorem RT.ag {h h1 : mH} (g : Ag [12, 69] [(11, 1), (53, 24)] h h1) (r : RT h) : RT h1 := by
  have x12 : ∀ k, gi h1 12 k = gi h 12 k := fun k => g.i 12 k rfl
  have x69 : ∀ k, gi h1 69 k = gi h 69 k := fun k => g.i 69 k rfl
  have y11_1 : gi h1 11 1 = gi h 11 1 := g.i 11 1 rfl
  have y53_24 : gi h1 53 24 = gi h 53 24 := g.i 53 24 rfl
  unfold RT at *
  simp only [x12, x69, y11_1, y53_24]
  exact r
-- changes
def okP (p a b : Int32) : Prop := (a = 0 ∧ (b = 0 ∨ b = 1) ∧ p = b) ∨ (a = 1 ∧ (b = 0 ∨ b = 1) ∧ p = 2 + b) ∨ (a = 2 ∧ b = 0 ∧ p = 4) ∨ (a = 3 ∧ b = 0 ∧ p = 5) ∨ (a = 4 ∧ b = 0 ∧ p = 6)
def okW (a b : Int32) : Prop := 0 ≤ a.toInt ∧ a.toInt ≤ b.toInt ∧ b.toInt ≤ 99
def okC (p x y wa wb wa2 wb2 : Int32) : Prop := okA p.toNatClampNeg x ∧ okA p.toNatClampNeg y ∧ (p = 5 → x = wa ∧ y = wa2 ∧ wb = wb2) ∧ (p = 6 → x = wb ∧ y = wb2 ∧ wa = wa2) ∧ (¬ p = 5 → ¬ p = 6 → wa = wa2 ∧ wb = wb2)
def RC (h : mH) : Prop := ∃ (d u : Nat) (wa wb : Nat → Int32), d + u ≤ 40 ∧ gi h 25 3 = nI d ∧ gi h 53 8 = nI d ∧ gi h 25 4 = nI (d + u) ∧ gi h 53 9 = nI u ∧ wa d = gi h 2 5 ∧ wb d = gi h 2 6 ∧ (∀ j, j ≤ d + u → okW (wa j) (wb j)) ∧
  ∀ j, j < d + u → okP (gi h 26 j) (gi h 58 j) (gi h 59 j) ∧ gi h 27 j = gi h 60 j ∧ gi h 28 j = gi h 61 j ∧ okC (gi h 26 j) (gi h 27 j) (gi h 28 j) (wa j) (wb j) (wa (j + 1)) (wb (j + 1))
theorem RC.ag {h h1 : mH} (g : Ag [25, 26, 27, 28, 58, 59, 60, 61] [(2, 5), (2, 6), (53, 8), (53, 9)] h h1) (r : RC h) : RC h1 := by
  have x25 : ∀ k, gi h1 25 k = gi h 25 k := fun k => g.i 25 k rfl
  have x26 : ∀ k, gi h1 26 k = gi h 26 k := fun k => g.i 26 k rfl
  have x27 : ∀ k, gi h1 27 k = gi h 27 k := fun k => g.i 27 k rfl
  have x28 : ∀ k, gi h1 28 k = gi h 28 k := fun k => g.i 28 k rfl
  have x58 : ∀ k, gi h1 58 k = gi h 58 k := fun k => g.i 58 k rfl
  have x59 : ∀ k, gi h1 59 k = gi h 59 k := fun k => g.i 59 k rfl
  have x60 : ∀ k, gi h1 60 k = gi h 60 k := fun k => g.i 60 k rfl
  have x61 : ∀ k, gi h1 61 k = gi h 61 k := fun k => g.i 61 k rfl
  have y2_5 : gi h1 2 5 = gi h 2 5 := g.i 2 5 rfl
  have y2_6 : gi h1 2 6 = gi h 2 6 := g.i 2 6 rfl
  have y53_8 : gi h1 53 8 = gi h 53 8 := g.i 53 8 rfl
  have y53_9 : gi h1 53 9 = gi h 53 9 := g.i 53 9 rfl
  unfold RC at *
  simp only [x25, x26, x27, x28, x58, x59, x60, x61, y2_5, y2_6, y53_8, y53_9]
  exact r
-- the image
def RI (i : Nat) (h : mH) : Prop := gi h 29 5 = gi h 53 41 ∧ gi h 30 0 = 8 ∧ gi h 30 1 = 4 ∧ gi h 32 0 = 10 ∧ gi h 32 1 = 3 ∧ (gi h 29 5 = 0 ∨ gi h 29 5 = 1) ∧ (¬ gi h 29 5 = 0 →
  (∃ n, n ≤ 8 ∧ gi h 30 3 = nI n ∧ gi h 53 42 = nI n ∧ ∀ i, i < n → gi h 31 (4 * i) = gi h 82 (4 * i) ∧ gi h 31 (4 * i + 1) = gi h 82 (4 * i + 1) ∧ gi h 31 (4 * i + 2) = gi h 82 (4 * i + 2) ∧ gi h 31 (4 * i + 3) = gi h 82 (4 * i + 3) ∧ okS (gi h 82 (4 * i)) (gi h 82 (4 * i + 1)) (gi h 82 (4 * i + 2)) (gi h 82 (4 * i + 3))) ∧
  (∃ n, n ≤ 10 ∧ gi h 32 3 = nI n ∧ gi h 53 43 = nI n ∧ ∀ i, i < n → gi h 33 (3 * i) = gi h 83 (3 * i) ∧ gi h 33 (3 * i + 1) = gi h 83 (3 * i + 1) ∧ gi h 33 (3 * i + 2) = gi h 83 (3 * i + 2) ∧ okG (gi h 83 (3 * i)) (gi h 83 (3 * i + 1)) (gi h 83 (3 * i + 2))) ∧
  (gi h 34 0 = gi h 79 0 ∧ gi h 34 1 = gi h 79 1 ∧ okA 0 (gi h 34 0) ∧ okA 1 (gi h 34 1)) ∧ okL i (gi h 35 0) (gi h 36 0) (gi h 81 0) (gi h 80 0) ∧ okL i (gi h 35 1) (gi h 36 1) (gi h 81 1) (gi h 80 1))
theorem RI.ag {i : Nat} {h h1 : mH} (g : Ag [29, 30, 31, 32, 33, 34, 35, 36, 79, 80, 81, 82, 83] [(53, 41), (53, 42), (53, 43)] h h1) (r : RI i h) : RI i h1 := by
  have x29 : ∀ k, gi h1 29 k = gi h 29 k := fun k => g.i 29 k rfl
  have x30 : ∀ k, gi h1 30 k = gi h 30 k := fun k => g.i 30 k rfl
  have x31 : ∀ k, gi h1 31 k = gi h 31 k := fun k => g.i 31 k rfl
  have x32 : ∀ k, gi h1 32 k = gi h 32 k := fun k => g.i 32 k rfl
  have x33 : ∀ k, gi h1 33 k = gi h 33 k := fun k => g.i 33 k rfl
  have x34 : ∀ k, gi h1 34 k = gi h 34 k := fun k => g.i 34 k rfl
  have x35 : ∀ k, gi h1 35 k = gi h 35 k := fun k => g.i 35 k rfl
  have x36 : ∀ k, gi h1 36 k = gi h 36 k := fun k => g.i 36 k rfl
  have x79 : ∀ k, gi h1 79 k = gi h 79 k := fun k => g.i 79 k rfl
  have x80 : ∀ k, gi h1 80 k = gi h 80 k := fun k => g.i 80 k rfl
  have x81 : ∀ k, gi h1 81 k = gi h 81 k := fun k => g.i 81 k rfl
  have x82 : ∀ k, gi h1 82 k = gi h 82 k := fun k => g.i 82 k rfl
  have x83 : ∀ k, gi h1 83 k = gi h 83 k := fun k => g.i 83 k rfl
  have y53_41 : gi h1 53 41 = gi h 53 41 := g.i 53 41 rfl
  have y53_42 : gi h1 53 42 = gi h 53 42 := g.i 53 42 rfl
  have y53_43 : gi h1 53 43 = gi h 53 43 := g.i 53 43 rfl
  unfold RI at *
  simp only [x29, x30, x31, x32, x33, x34, x35, x36, x79, x80, x81, x82, x83, y53_41, y53_42, y53_43]
  exact r
theorem RI.up {i j : Nat} {h : mH} (hj : i ≤ j) (r : RI i h) : RI j h := ⟨r.1, r.2.1, r.2.2.1, r.2.2.2.1, r.2.2.2.2.1, r.2.2.2.2.2.1, fun q => ⟨(r.2.2.2.2.2.2 q).1, (r.2.2.2.2.2.2 q).2.1, (r.2.2.2.2.2.2 q).2.2.1, (r.2.2.2.2.2.2 q).2.2.2.1.up hj, (r.2.2.2.2.2.2 q).2.2.2.2.up hj⟩⟩
-- bodies, trace
def RB (h : mH) : Prop := ∃ n, n ≤ 50 ∧ gi h 37 2 = nI n ∧ gi h 53 49 = nI n ∧ ∀ i, i < n → gi h 38 i = gi h 84 i ∧ inR (gi h 84 i) 0 7
theorem RB.ag {h h1 : mH} (g : Ag [38, 84] [(37, 2), (53, 49)] h h1) (r : RB h) : RB h1 := by
  have x38 : ∀ k, gi h1 38 k = gi h 38 k := fun k => g.i 38 k rfl
  have x84 : ∀ k, gi h1 84 k = gi h 84 k := fun k => g.i 84 k rfl
  have y37_2 : gi h1 37 2 = gi h 37 2 := g.i 37 2 rfl
  have y53_49 : gi h1 53 49 = gi h 53 49 := g.i 53 49 rfl
  unfold RB at *
  simp only [x38, x84, y37_2, y53_49]
  exact r
def RX (h : mH) : Prop := ∃ n, n ≤ 1000 ∧ gi h 37 3 = nI n ∧ gi h 53 51 = nI n ∧ ∀ i, i < n → i < 24 → gi h 39 i = gi h 85 i
theorem RX.ag {h h1 : mH} (g : Ag [39, 85] [(37, 3), (53, 51)] h h1) (r : RX h) : RX h1 := by
  have x39 : ∀ k, gi h1 39 k = gi h 39 k := fun k => g.i 39 k rfl
  have x85 : ∀ k, gi h1 85 k = gi h 85 k := fun k => g.i 85 k rfl
  have y37_3 : gi h1 37 3 = gi h 37 3 := g.i 37 3 rfl
  have y53_51 : gi h1 53 51 = gi h 53 51 := g.i 53 51 rfl
  unfold RX at *
  simp only [x39, x85, y37_3, y53_51]
  exact r
-- shelves
def okH (h : mH) (k : Nat) : Prop := (gi h (41 + 2 * k) 1 = 0 ∧ gi h 86 k = -1) ∨ (gi h (41 + 2 * k) 1 = 1 ∧ ∃ b, gi h 86 k = nI b ∧ gi h (41 + 2 * k) 2 = nI b ∧ b < (gi h 53 49).toNatClampNeg) ∨
  (gi h (41 + 2 * k) 1 = 2 ∧ ∃ s n, s ≤ 4 ∧ n ≤ 60 ∧ gi h (41 + 2 * k) 3 = nI s ∧ gi h 86 k = -2 - nI s ∧ gi h (41 + 2 * k) 4 = nI n ∧ gi h 87 k = nI n ∧ ∀ j, j < 60 → gl h (42 + 2 * k) j = gl h 88 (60 * k + j))
def RH (h : mH) : Prop := okH h 0 ∧ okH h 1 ∧ okH h 2 ∧ okH h 3 ∧ okH h 4 ∧ okH h 5
theorem RH.ag {h h1 : mH} (g : Ag [41, 42, 43, 44, 45, 46, 47, 48, 49, 50, 51, 52, 86, 87, 88] [(53, 49)] h h1) (r : RH h) : RH h1 := by
  have x41 : ∀ k, gi h1 41 k = gi h 41 k := fun k => g.i 41 k rfl
  have x42 : ∀ k, gi h1 42 k = gi h 42 k := fun k => g.i 42 k rfl
  have x43 : ∀ k, gi h1 43 k = gi h 43 k := fun k => g.i 43 k rfl
  have x44 : ∀ k, gi h1 44 k = gi h 44 k := fun k => g.i 44 k rfl
  have x45 : ∀ k, gi h1 45 k = gi h 45 k := fun k => g.i 45 k rfl
  have x46 : ∀ k, gi h1 46 k = gi h 46 k := fun k => g.i 46 k rfl
  have x47 : ∀ k, gi h1 47 k = gi h 47 k := fun k => g.i 47 k rfl
  have x48 : ∀ k, gi h1 48 k = gi h 48 k := fun k => g.i 48 k rfl
  have x49 : ∀ k, gi h1 49 k = gi h 49 k := fun k => g.i 49 k rfl
  have x50 : ∀ k, gi h1 50 k = gi h 50 k := fun k => g.i 50 k rfl
  have x51 : ∀ k, gi h1 51 k = gi h 51 k := fun k => g.i 51 k rfl
  have x52 : ∀ k, gi h1 52 k = gi h 52 k := fun k => g.i 52 k rfl
  have x86 : ∀ k, gi h1 86 k = gi h 86 k := fun k => g.i 86 k rfl
  have x87 : ∀ k, gi h1 87 k = gi h 87 k := fun k => g.i 87 k rfl
  have x88 : ∀ k, gi h1 88 k = gi h 88 k := fun k => g.i 88 k rfl
  have y53_49 : gi h1 53 49 = gi h 53 49 := g.i 53 49 rfl
  have z42 : ∀ k, gl h1 42 k = gl h 42 k := fun k => g.l 42 k rfl
  have z44 : ∀ k, gl h1 44 k = gl h 44 k := fun k => g.l 44 k rfl
  have z46 : ∀ k, gl h1 46 k = gl h 46 k := fun k => g.l 46 k rfl
  have z48 : ∀ k, gl h1 48 k = gl h 48 k := fun k => g.l 48 k rfl
  have z50 : ∀ k, gl h1 50 k = gl h 50 k := fun k => g.l 50 k rfl
  have z52 : ∀ k, gl h1 52 k = gl h 52 k := fun k => g.l 52 k rfl
  have z88 : ∀ k, gl h1 88 k = gl h 88 k := fun k => g.l 88 k rfl
  unfold RH okH at *
  simp only [Nat.mul_zero, Nat.mul_one, Nat.add_zero, Nat.reduceMul, Nat.reduceAdd] at *
  simp only [x41, x42, x43, x44, x45, x46, x47, x48, x49, x50, x51, x52, x86, x87, x88, y53_49, z42, z44, z46, z48, z50, z52, z88]
  exact r
