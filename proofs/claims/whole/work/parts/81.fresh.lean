/-! PURE: a new object of each; printed by wip/gen/start.py -/
abbrev opT : Type := Nat ⊕ (Nat × Nat × Int32)
def op1 (h : mH) : opT → mH
  | .inl o => zo h o
  | .inr (o, k, v) => si h o k v
def opR : mH → List opT → mH
  | h, [] => h
  | h, q :: l => opR (op1 h q) l
/-- what the acts leave in a cell: none, if none of them reaches it -/
def opG (a k : Nat) : opT → Option Int32
  | .inl o => if a = o then some 0 else none
  | .inr (o, j, v) => if a = o ∧ k = j then some v else none
def opF (a k : Nat) : List opT → Option Int32
  | [] => none
  | q :: l => match opF a k l with
    | some v => some v
    | none => opG a k q
theorem opG_ok (a k : Nat) (h : mH) : ∀ q : opT, gi (op1 h q) a k = (opG a k q).getD (gi h a k) := by
  intro q
  match q with
  | .inl o =>
    show (if a = o then (0 : Int32) else gi h a k) = (if a = o then some 0 else none : Option Int32).getD (gi h a k)
    by_cases e : a = o
    · rw [if_pos e, if_pos e]
      rfl
    · rw [if_neg e, if_neg e]
      rfl
  | .inr (o, j, v) =>
    show (if a = o ∧ k = j then v else gi h a k) = (if a = o ∧ k = j then some v else none : Option Int32).getD (gi h a k)
    by_cases e : a = o ∧ k = j
    · rw [if_pos e, if_pos e]
      rfl
    · rw [if_neg e, if_neg e]
      rfl
theorem opF_ok (a k : Nat) : ∀ (l : List opT) (h : mH), gi (opR h l) a k = (opF a k l).getD (gi h a k) := by
  intro l
  induction l with
  | nil => intro h; rfl
  | cons q l ih =>
    intro h
    show gi (opR (op1 h q) l) a k = (match opF a k l with | some v => some v | none => opG a k q).getD (gi h a k)
    rw [ih, opG_ok]
    cases opF a k l with
    | some v => rfl
    | none => rfl
def opL : List opT := [.inl 0, .inl 1, .inl 2, .inr (1, 0, nI 3), .inr (2, 5, 10), .inr (2, 6, 20), .inl 3, .inr (1, 1, nI 4), .inl 4, .inr (1, 2, nI 5), .inr (0, 0, nI 2), .inl 5, .inr (5, 0, 8), .inr (5, 1, 4), .inl 6, .inr (5, 2, nI 7), .inr (0, 1, nI 6), .inl 7, .inr (7, 0, 10), .inr (7, 1, 3), .inl 8, .inr (7, 2, nI 9), .inr (0, 2, nI 8), .inl 9, .inl 10, .inr (9, 0, nI 11), .inl 11, .inl 12, .inr (11, 0, nI 13), .inl 13, .inl 14, .inr (13, 0, nI 15), .inl 15, .inr (13, 1, nI 16), .inr (11, 4, nI 14), .inr (9, 1, nI 12), .inl 16, .inl 17, .inr (16, 0, nI 18), .inl 18, .inr (16, 1, nI 19), .inr (9, 2, nI 17), .inr (0, 3, nI 10), .inl 19, .inl 20, .inr (19, 0, nI 21), .inl 21, .inr (19, 1, nI 22), .inl 22, .inr (19, 2, nI 23), .inr (0, 4, nI 20), .inl 23, .inl 24, .inr (23, 0, nI 25), .inr (0, 5, nI 24), .inl 25, .inl 26, .inr (25, 0, nI 27), .inl 27, .inr (25, 1, nI 28), .inl 28, .inr (25, 2, nI 29), .inr (0, 6, nI 26), .inl 29, .inl 30, .inr (30, 0, 8), .inr (30, 1, 4), .inl 31, .inr (30, 2, nI 32), .inr (29, 0, nI 31), .inl 32, .inr (32, 0, 10), .inr (32, 1, 3), .inl 33, .inr (32, 2, nI 34), .inr (29, 1, nI 33), .inl 34, .inr (29, 2, nI 35), .inl 35, .inr (29, 3, nI 36), .inl 36, .inr (29, 4, nI 37), .inr (0, 7, nI 30), .inl 37, .inl 38, .inr (37, 0, nI 39), .inl 39, .inr (37, 1, nI 40), .inr (0, 8, nI 38), .inl 40, .inr (0, 9, nI 41), .inl 41, .inl 42, .inr (41, 0, nI 43), .inr (40, 0, nI 42), .inl 43, .inl 44, .inr (43, 0, nI 45), .inr (40, 1, nI 44), .inl 45, .inl 46, .inr (45, 0, nI 47), .inr (40, 2, nI 46), .inl 47, .inl 48, .inr (47, 0, nI 49), .inr (40, 3, nI 48), .inl 49, .inl 50, .inr (49, 0, nI 51), .inr (40, 4, nI 50), .inl 51, .inl 52, .inr (51, 0, nI 53), .inr (40, 5, nI 52), .inl 53, .inl 54, .inr (53, 1, nI 55), .inl 55, .inr (53, 2, nI 56), .inr (53, 4, 10), .inr (53, 5, 20), .inl 56, .inr (53, 6, nI 57), .inl 57, .inr (57, 0, (-2)), .inr (57, 1, (-2)), .inr (53, 7, nI 58), .inl 58, .inr (53, 10, nI 59), .inl 59, .inr (53, 11, nI 60), .inl 60, .inr (53, 12, nI 61), .inl 61, .inr (53, 13, nI 62), .inl 62, .inr (53, 15, nI 63), .inl 63, .inr (53, 16, nI 64), .inl 64, .inr (53, 17, nI 65), .inl 65, .inr (53, 18, nI 66), .inl 66, .inr (53, 20, nI 67), .inl 67, .inr (53, 21, nI 68), .inl 68, .inr (53, 22, nI 69), .inl 69, .inr (53, 23, nI 70), .inl 70, .inr (53, 29, nI 71), .inl 71, .inr (53, 30, nI 72), .inl 72, .inr (53, 31, nI 73), .inl 73, .inr (53, 32, nI 74), .inl 74, .inr (53, 33, nI 75), .inl 75, .inr (53, 34, nI 76), .inl 76, .inr (53, 35, nI 77), .inl 77, .inr (53, 37, nI 78), .inl 78, .inr (53, 39, nI 79), .inl 79, .inr (53, 44, nI 80), .inl 80, .inr (53, 45, nI 81), .inl 81, .inr (53, 46, nI 82), .inl 82, .inr (53, 47, nI 83), .inl 83, .inr (53, 48, nI 84), .inl 84, .inr (53, 50, nI 85), .inl 85, .inr (53, 52, nI 86), .inl 86, .inr (86, 0, (-1)), .inr (86, 1, (-1)), .inr (86, 2, (-1)), .inr (86, 3, (-1)), .inr (86, 4, (-1)), .inr (86, 5, (-1)), .inr (53, 53, nI 87), .inl 87, .inr (53, 54, nI 88), .inl 88, .inr (53, 55, nI 89), .inl 89, .inr (53, 56, nI 90)]
theorem fresh_at (h : mH) (a k : Nat) (v : Int32) (e : opF a k opL = some v) : gi (opR h opL) a k = v := by
  rw [opF_ok, e]
  rfl
set_option maxRecDepth 100000 in
theorem fresh_pre {h : mH} {K : mH → Prop} (k : K (opR h opL)) : w_L_pre h K := by
  unfold w_L_pre w_X11_init_1 w_X10_init_2 w_X2_init_6 w_X2_init_8 w_X6_init_10 w_X8_init_12 w_X7_init_14 w_X7_init_17 w_X3_init_20 w_X4_init_24 w_X1_init_26 w_X5_init_30 w_X2_init_31 w_X2_init_33 w_X0_init_38 w_X9_init_42 w_X9_init_44 w_X9_init_46 w_X9_init_48 w_X9_init_50 w_X9_init_52 w_X12_init_54
  intro h0 e0; subst e0
  intro h1 e; subst e
  intro h2 e; subst e
  intro h3 e; subst e
  refine ⟨rfl, ?_⟩
  intro h4 e; subst e
  refine ⟨rfl, ?_⟩
  intro h5 e; subst e
  intro h6 e; subst e
  intro h7 e; subst e
  intro h8 e; subst e
  intro h9 e; subst e
  intro h10 e; subst e
  intro h11 e; subst e
  intro h12 e; subst e
  intro h13 e; subst e
  intro h14 e; subst e
  intro h15 e; subst e
  intro h16 e; subst e
  intro h17 e; subst e
  intro h18 e; subst e
  intro h19 e; subst e
  intro h20 e; subst e
  intro h21 e; subst e
  intro h22 e; subst e
  intro h23 e; subst e
  intro h24 e; subst e
  intro h25 e; subst e
  intro h26 e; subst e
  intro h27 e; subst e
  intro h28 e; subst e
  intro h29 e; subst e
  intro h30 e; subst e
  intro h31 e; subst e
  intro h32 e; subst e
  intro h33 e; subst e
  intro h34 e; subst e
  intro h35 e; subst e
  intro h36 e; subst e
  intro h37 e; subst e
  intro h38 e; subst e
  intro h39 e; subst e
  intro h40 e; subst e
  intro h41 e; subst e
  intro h42 e; subst e
  intro h43 e; subst e
  intro h44 e; subst e
  intro h45 e; subst e
  intro h46 e; subst e
  intro h47 e; subst e
  intro h48 e; subst e
  intro h49 e; subst e
  intro h50 e; subst e
  intro h51 e; subst e
  intro h52 e; subst e
  intro h53 e; subst e
  intro h54 e; subst e
  intro h55 e; subst e
  intro h56 e; subst e
  intro h57 e; subst e
  intro h58 e; subst e
  intro h59 e; subst e
  intro h60 e; subst e
  intro h61 e; subst e
  intro h62 e; subst e
  intro h63 e; subst e
  intro h64 e; subst e
  intro h65 e; subst e
  intro h66 e; subst e
  intro h67 e; subst e
  intro h68 e; subst e
  intro h69 e; subst e
  intro h70 e; subst e
  intro h71 e; subst e
  intro h72 e; subst e
  intro h73 e; subst e
  intro h74 e; subst e
  intro h75 e; subst e
  intro h76 e; subst e
  intro h77 e; subst e
  intro h78 e; subst e
  intro h79 e; subst e
  intro h80 e; subst e
  intro h81 e; subst e
  intro h82 e; subst e
  intro h83 e; subst e
  intro h84 e; subst e
  intro h85 e; subst e
  intro h86 e; subst e
  intro h87 e; subst e
  intro h88 e; subst e
  intro h89 e; subst e
  intro h90 e; subst e
  refine ⟨rfl, ?_⟩
  intro h91 e; subst e
  intro h92 e; subst e
  intro h93 e; subst e
  intro h94 e; subst e
  refine ⟨rfl, ?_⟩
  intro h95 e; subst e
  intro h96 e; subst e
  intro h97 e; subst e
  intro h98 e; subst e
  refine ⟨rfl, ?_⟩
  intro h99 e; subst e
  intro h100 e; subst e
  intro h101 e; subst e
  intro h102 e; subst e
  refine ⟨rfl, ?_⟩
  intro h103 e; subst e
  intro h104 e; subst e
  intro h105 e; subst e
  intro h106 e; subst e
  refine ⟨rfl, ?_⟩
  intro h107 e; subst e
  intro h108 e; subst e
  intro h109 e; subst e
  intro h110 e; subst e
  refine ⟨rfl, ?_⟩
  intro h111 e; subst e
  intro h112 e; subst e
  intro h113 e; subst e
  intro h114 e; subst e
  intro h115 e; subst e
  intro h116 e; subst e
  intro h117 e; subst e
  intro h118 e; subst e
  intro h119 e; subst e
  intro h120 e; subst e
  intro h121 e; subst e
  intro h122 e; subst e
  intro h123 e; subst e
  intro h124 e; subst e
  intro h125 e; subst e
  intro h126 e; subst e
  intro h127 e; subst e
  intro h128 e; subst e
  intro h129 e; subst e
  intro h130 e; subst e
  intro h131 e; subst e
  intro h132 e; subst e
  intro h133 e; subst e
  intro h134 e; subst e
  intro h135 e; subst e
  intro h136 e; subst e
  intro h137 e; subst e
  intro h138 e; subst e
  intro h139 e; subst e
  intro h140 e; subst e
  intro h141 e; subst e
  intro h142 e; subst e
  intro h143 e; subst e
  intro h144 e; subst e
  intro h145 e; subst e
  intro h146 e; subst e
  intro h147 e; subst e
  intro h148 e; subst e
  intro h149 e; subst e
  intro h150 e; subst e
  intro h151 e; subst e
  intro h152 e; subst e
  intro h153 e; subst e
  intro h154 e; subst e
  intro h155 e; subst e
  intro h156 e; subst e
  intro h157 e; subst e
  intro h158 e; subst e
  intro h159 e; subst e
  intro h160 e; subst e
  intro h161 e; subst e
  intro h162 e; subst e
  intro h163 e; subst e
  intro h164 e; subst e
  intro h165 e; subst e
  intro h166 e; subst e
  intro h167 e; subst e
  intro h168 e; subst e
  intro h169 e; subst e
  intro h170 e; subst e
  intro h171 e; subst e
  intro h172 e; subst e
  intro h173 e; subst e
  intro h174 e; subst e
  intro h175 e; subst e
  intro h176 e; subst e
  intro h177 e; subst e
  intro h178 e; subst e
  intro h179 e; subst e
  intro h180 e; subst e
  intro h181 e; subst e
  intro h182 e; subst e
  intro h183 e; subst e
  intro h184 e; subst e
  intro h185 e; subst e
  intro h186 e; subst e
  intro h187 e; subst e
  intro h188 e; subst e
  intro h189 e; subst e
  intro h190 e; subst e
  intro h191 e; subst e
  intro h192 e; subst e
  intro h193 e; subst e
  intro h194 e; subst e
  intro h195 e; subst e
  intro h196 e; subst e
  intro h197 e; subst e
  exact k
theorem fresh_rl (h : mH) : ∀ q ∈ m_rl, gi (opR h opL) q.1 q.2.1 = nI q.2.2 := by
  have g : ∀ q ∈ m_rl, opF q.1 q.2.1 opL = some (nI q.2.2) := by decide +kernel
  exact fun q hq => fresh_at h _ _ _ (g q hq)
theorem okA_0 : ∀ p, okA p 0 := fun p => ⟨fun _ => by decide, fun _ => by decide, fun _ => by decide, fun _ => by decide⟩
theorem fresh_inv (h : mH) : Inv 0 (opR h opL) := by
  have g := fresh_at h
  have e2_0 : gi (opR h opL) 2 0 = 0 := g 2 0 _ (by decide +kernel)
  have e2_1 : gi (opR h opL) 2 1 = 0 := g 2 1 _ (by decide +kernel)
  have e2_2 : gi (opR h opL) 2 2 = 0 := g 2 2 _ (by decide +kernel)
  have e2_3 : gi (opR h opL) 2 3 = 0 := g 2 3 _ (by decide +kernel)
  have e2_4 : gi (opR h opL) 2 4 = 0 := g 2 4 _ (by decide +kernel)
  have e2_5 : gi (opR h opL) 2 5 = 10 := g 2 5 _ (by decide +kernel)
  have e2_6 : gi (opR h opL) 2 6 = 20 := g 2 6 _ (by decide +kernel)
  have e54_0 : gi (opR h opL) 54 0 = 0 := g 54 0 _ (by decide +kernel)
  have e54_1 : gi (opR h opL) 54 1 = 0 := g 54 1 _ (by decide +kernel)
  have e55_0 : gi (opR h opL) 55 0 = 0 := g 55 0 _ (by decide +kernel)
  have e55_1 : gi (opR h opL) 55 1 = 0 := g 55 1 _ (by decide +kernel)
  have e53_3 : gi (opR h opL) 53 3 = 0 := g 53 3 _ (by decide +kernel)
  have e53_4 : gi (opR h opL) 53 4 = 10 := g 53 4 _ (by decide +kernel)
  have e53_5 : gi (opR h opL) 53 5 = 20 := g 53 5 _ (by decide +kernel)
  have e3_0 : gi (opR h opL) 3 0 = 0 := g 3 0 _ (by decide +kernel)
  have e3_1 : gi (opR h opL) 3 1 = 0 := g 3 1 _ (by decide +kernel)
  have e57_0 : gi (opR h opL) 57 0 = (-2) := g 57 0 _ (by decide +kernel)
  have e57_1 : gi (opR h opL) 57 1 = (-2) := g 57 1 _ (by decide +kernel)
  have e56_0 : gi (opR h opL) 56 0 = 0 := g 56 0 _ (by decide +kernel)
  have e56_1 : gi (opR h opL) 56 1 = 0 := g 56 1 _ (by decide +kernel)
  have e5_0 : gi (opR h opL) 5 0 = 8 := g 5 0 _ (by decide +kernel)
  have e5_1 : gi (opR h opL) 5 1 = 4 := g 5 1 _ (by decide +kernel)
  have e5_3 : gi (opR h opL) 5 3 = nI 0 := g 5 3 _ (by decide +kernel)
  have e53_14 : gi (opR h opL) 53 14 = nI 0 := g 53 14 _ (by decide +kernel)
  have e7_0 : gi (opR h opL) 7 0 = 10 := g 7 0 _ (by decide +kernel)
  have e7_1 : gi (opR h opL) 7 1 = 3 := g 7 1 _ (by decide +kernel)
  have e7_3 : gi (opR h opL) 7 3 = nI 0 := g 7 3 _ (by decide +kernel)
  have e53_19 : gi (opR h opL) 53 19 = nI 0 := g 53 19 _ (by decide +kernel)
  have e11_1 : gi (opR h opL) 11 1 = nI 0 := g 11 1 _ (by decide +kernel)
  have e53_24 : gi (opR h opL) 53 24 = nI 0 := g 53 24 _ (by decide +kernel)
  have e9_3 : gi (opR h opL) 9 3 = 0 := g 9 3 _ (by decide +kernel)
  have e53_36 : gi (opR h opL) 53 36 = 0 := g 53 36 _ (by decide +kernel)
  have e9_2 : gi (opR h opL) 9 2 = nI 17 := g 9 2 _ (by decide +kernel)
  have e11_4 : gi (opR h opL) 11 4 = nI 14 := g 11 4 _ (by decide +kernel)
  have e25_3 : gi (opR h opL) 25 3 = nI 0 := g 25 3 _ (by decide +kernel)
  have e25_4 : gi (opR h opL) 25 4 = nI 0 := g 25 4 _ (by decide +kernel)
  have e53_8 : gi (opR h opL) 53 8 = nI 0 := g 53 8 _ (by decide +kernel)
  have e53_9 : gi (opR h opL) 53 9 = nI 0 := g 53 9 _ (by decide +kernel)
  have e29_5 : gi (opR h opL) 29 5 = 0 := g 29 5 _ (by decide +kernel)
  have e53_41 : gi (opR h opL) 53 41 = 0 := g 53 41 _ (by decide +kernel)
  have e30_0 : gi (opR h opL) 30 0 = 8 := g 30 0 _ (by decide +kernel)
  have e30_1 : gi (opR h opL) 30 1 = 4 := g 30 1 _ (by decide +kernel)
  have e32_0 : gi (opR h opL) 32 0 = 10 := g 32 0 _ (by decide +kernel)
  have e32_1 : gi (opR h opL) 32 1 = 3 := g 32 1 _ (by decide +kernel)
  have e37_2 : gi (opR h opL) 37 2 = nI 0 := g 37 2 _ (by decide +kernel)
  have e53_49 : gi (opR h opL) 53 49 = nI 0 := g 53 49 _ (by decide +kernel)
  have e37_3 : gi (opR h opL) 37 3 = nI 0 := g 37 3 _ (by decide +kernel)
  have e53_51 : gi (opR h opL) 53 51 = nI 0 := g 53 51 _ (by decide +kernel)
  have e41_1 : gi (opR h opL) 41 1 = 0 := g 41 1 _ (by decide +kernel)
  have e43_1 : gi (opR h opL) 43 1 = 0 := g 43 1 _ (by decide +kernel)
  have e45_1 : gi (opR h opL) 45 1 = 0 := g 45 1 _ (by decide +kernel)
  have e47_1 : gi (opR h opL) 47 1 = 0 := g 47 1 _ (by decide +kernel)
  have e49_1 : gi (opR h opL) 49 1 = 0 := g 49 1 _ (by decide +kernel)
  have e51_1 : gi (opR h opL) 51 1 = 0 := g 51 1 _ (by decide +kernel)
  have e86_0 : gi (opR h opL) 86 0 = (-1) := g 86 0 _ (by decide +kernel)
  have e86_1 : gi (opR h opL) 86 1 = (-1) := g 86 1 _ (by decide +kernel)
  have e86_2 : gi (opR h opL) 86 2 = (-1) := g 86 2 _ (by decide +kernel)
  have e86_3 : gi (opR h opL) 86 3 = (-1) := g 86 3 _ (by decide +kernel)
  have e86_4 : gi (opR h opL) 86 4 = (-1) := g 86 4 _ (by decide +kernel)
  have e86_5 : gi (opR h opL) 86 5 = (-1) := g 86 5 _ (by decide +kernel)
  generalize opR h opL = s at *
  refine ⟨?_, ?_, ?_, ?_, ?_, ?_, ?_, ?_, ?_, ?_, ?_⟩
  · unfold RA
    rw [e2_0, e2_1, e2_2, e2_3, e2_4, e2_5, e2_6, e54_0, e54_1, e55_0, e55_1, e53_3, e53_4, e53_5]
    exact ⟨⟨rfl, rfl, rfl, rfl, rfl, rfl, rfl⟩, okA_0 0, okA_0 1, okA_0 2, okA_0 3, okA_0 4, ⟨fun q => absurd q (by decide), fun q => absurd q (by decide), fun q => absurd q (by decide), fun _ => by decide⟩, ⟨fun q => absurd q (by decide), fun q => absurd q (by decide), fun q => absurd q (by decide), fun _ => by decide⟩, by decide⟩
  · unfold RD okL
    rw [e3_0, e3_1, e56_0, e56_1, e57_0, e57_1]
    exact ⟨⟨rfl, by decide, by decide, fun _ => rfl, fun q => absurd rfl q⟩, ⟨rfl, by decide, by decide, fun _ => rfl, fun q => absurd rfl q⟩⟩
  · exact ⟨e5_0, e5_1, 0, by decide, e5_3, e53_14, fun i q => absurd q (Nat.not_lt_zero i)⟩
  · exact ⟨e7_0, e7_1, 0, by decide, e7_3, e53_19, fun i q => absurd q (Nat.not_lt_zero i)⟩
  · exact ⟨0, by decide, e11_1, e53_24, fun i q => absurd q (Nat.not_lt_zero i)⟩
  · exact ⟨e9_3.trans e53_36.symm, Or.inl e9_3, Or.inr ⟨e9_2, e11_4, fun q => absurd (e9_3.symm.trans q) (by decide)⟩⟩
  · exact ⟨0, 0, fun _ => 10, fun _ => 20, by decide, e25_3, e53_8, e25_4, e53_9, e2_5.symm, e2_6.symm, fun _ _ => (show okW 10 20 from ⟨by decide, by decide, by decide⟩), fun j q => absurd q (Nat.not_lt_zero j)⟩
  · exact ⟨e29_5.trans e53_41.symm, e30_0, e30_1, e32_0, e32_1, Or.inl e29_5, fun q => absurd e29_5 q⟩
  · exact ⟨0, by decide, e37_2, e53_49, fun i q => absurd q (Nat.not_lt_zero i)⟩
  · exact ⟨0, by decide, e37_3, e53_51, fun i q => absurd q (Nat.not_lt_zero i)⟩
  · exact ⟨Or.inl ⟨e41_1, e86_0⟩, Or.inl ⟨e43_1, e86_1⟩, Or.inl ⟨e45_1, e86_2⟩, Or.inl ⟨e47_1, e86_3⟩, Or.inl ⟨e49_1, e86_4⟩, Or.inl ⟨e51_1, e86_5⟩⟩
