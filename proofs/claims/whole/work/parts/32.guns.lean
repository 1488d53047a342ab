/-! PURE: guns, bodies -/
theorem irm_nn {a y : Int32} (hy : 0 < y.toInt) (ha : ¬ a < 0) : ¬ irm a y < 0 := by
  rw [lt_i, irm_i hy]
  rw [lt_i] at ha
  have h0 : (0 : Int32).toInt = 0 := rfl
  have := Int.tmod_nonneg y.toInt (show 0 ≤ a.toInt by omega)
  omega
def hG1 (h : mH) (n : Nat) (a b c : Int32) : mH := si (si (si (si h 8 (n * 3) a) 8 (n * 3 + 1) b) 8 (n * 3 + 2) c) 7 3 (nI (n + 1))
def hG2 (h : mH) (n : Nat) (a b c : Int32) : mH := si (si (si (si h 66 n a) 67 n b) 68 n c) 53 19 (nI (n + 1))
theorem frG1 {n : Nat} {h : mH} {a b c : Int32} : Fr (cl [8] [(7, 3)]) h (hG1 h n a b c) := ((((Fr.rf _ h).si rfl).si rfl).si rfl).si rfl
theorem rsG {n : Nat} {h : mH} {a b c : Int32} (r : RG h) (h3 : gi h 7 3 = nI n) (hn : n < 10) (hs : okG a b c) : RG (hG2 (hG1 h n a b c) n a b c) := by
  obtain ⟨k8, k4, n2, hn2, c1, d1, e1⟩ := r
  have : n2 = n := (nn n2 n (by omega) (by omega)).mp (c1.symm.trans h3)
  subst this
  refine ⟨k8, k4, n2 + 1, by omega, rfl, rfl, fun j hj => ?_⟩
  unfold hG2 hG1
  by_cases q : j = n2
  · subst q
    simp only [gi_si]
    simp [Nat.mul_comm j 3]
    exact hs
  · have e := e1 j (by omega)
    simp only [gi_si]
    have q0 : ¬ 3 * j = n2 * 3 := by omega
    have q1 : ¬ 3 * j = n2 * 3 + 1 := by omega
    have q2 : ¬ 3 * j = n2 * 3 + 2 := by omega
    have q3 : ¬ 3 * j + 1 = n2 * 3 := by omega
    have q4 : ¬ 3 * j + 1 = n2 * 3 + 1 := by omega
    have q5 : ¬ 3 * j + 1 = n2 * 3 + 2 := by omega
    have q6 : ¬ 3 * j + 2 = n2 * 3 := by omega
    have q7 : ¬ 3 * j + 2 = n2 * 3 + 1 := by omega
    have q8 : ¬ 3 * j + 2 = n2 * 3 + 2 := by omega
    simp only [q, q0, q1, q2, q3, q4, q5, q6, q7, q8, and_false, false_and, if_false, show ¬ (8 : Nat) = 53 by decide, show ¬ (66 : Nat) = 53 by decide, show ¬ (67 : Nat) = 53 by decide, show ¬ (68 : Nat) = 53 by decide, show ¬ (8 : Nat) = 7 by decide, show ¬ (66 : Nat) = 7 by decide, show ¬ (67 : Nat) = 7 by decide, show ¬ (68 : Nat) = 7 by decide]
    exact e
theorem J_gun {i : Nat} {h : mH} (r : Inv i h) (a b : Int32) : w_X11_gun a b h (fun v h1 => w_X12_gun a b h1 (fun w h2 => v = w ∧ Inv (i + 1) h2)) := by
  have u := r.up
  obtain ⟨k8, k4, n, hn, c1, d1, e1⟩ := r.2.2.2.1
  have p2 : ∀ {h1 : mH} {Q : Int32 → mH → Prop}, gi h1 53 19 = nI n → (¬ a < 0 → inR (a / 100) 0 1 → ¬ 40 < irm a 100 → inR b 0 59 → (n < 10 → Q (nI n) (hG2 h1 n (a / 100) (irm a 100) b)) ∧ (n = 10 → Q (-3) h1)) → (¬ (¬ a < 0 ∧ inR (a / 100) 0 1 ∧ ¬ 40 < irm a 100 ∧ inR b 0 59) → Q (-1) h1) → w_X12_gun a b h1 Q := by
    intro h1 Q d2 g f
    unfold w_X12_gun
    refine ⟨fun q => f (fun z => z.1 q), fun g1 => ?_⟩
    rw [e_12_clock]
    refine b0 (fun q => f (fun z => q z.2.1)) (fun g2 => ⟨fun q => f (fun z => z.2.2.1 q), fun g3 => ?_⟩)
    rw [e_12_in]
    refine b1 (fun g4 => ?_) (fun q => f (fun z => q z.2.2.2))
    have hc : (nI n).toNatClampNeg = n := nI_clamp (by omega)
    refine ⟨fun q => ?_, fun q => (g g1 g2 g3 g4).2 ((nn n 10 (by omega) (by decide)).mp (d2.symm.trans q))⟩
    have hn10 : n < 10 := by
      rcases Nat.lt_or_ge n 10 with z | z
      · exact z
      · exact absurd (by rw [d2, show n = 10 by omega]; rfl) q
    have hv : vp_in (nI n) 10 := vp_nI hn10 (by decide)
    have g5 := (g g1 g2 g3 g4).1 hn10
    unfold hG2 at g5
    simp only [forall_eq, gi_si]
    simp [d2, hc, hv, nI_1, nI_pred]
    exact g5
  unfold w_X11_gun
  refine ⟨fun q => p2 d1 (fun z => absurd q z) (fun _ => ⟨rfl, u⟩), fun g1 => ?_⟩
  rw [e_11_clock]
  refine b0 (fun q => p2 d1 (fun _ z => absurd z q) (fun _ => ⟨rfl, u⟩)) (fun g2 => ⟨fun q => p2 d1 (fun _ _ z => absurd q z) (fun _ => ⟨rfl, u⟩), fun g3 => ?_⟩)
  rw [e_11_part]
  refine b1 (fun g4 => ?_) (fun q => p2 d1 (fun _ _ _ z => absurd z q) (fun _ => ⟨rfl, u⟩))
  rw [e_full (m := 10) (n := n) k8 c1 (by decide) (by omega)]
  by_cases q : n < 10
  · rw [if_pos q]
    refine ⟨fun _ => e_add3 (q := 8) (m := 10) (by decide) (by decide) (by decide) k8 k4 c1 q (by decide) (p2 (h1 := hG1 h n (a / 100) (irm a 100) b) (by rw [frG1.i 53 19 rfl]; exact d1) (fun _ _ _ _ => ⟨fun _ => ⟨rfl, ?_⟩, fun z => by omega⟩) (fun z => absurd ⟨g1, g2, g3, g4⟩ z)), fun z => absurd rfl z⟩
    have f : Fr (cl [8, 66, 67, 68] [(7, 3), (53, 19)]) h (hG2 (hG1 h n (a / 100) (irm a 100) b) n (a / 100) (irm a 100) b) := ((((((((Fr.rf _ h).si rfl).si rfl).si rfl).si rfl).si rfl).si rfl).si rfl).si rfl
    exact ⟨r.1.ag (Fr.ag f rfl), (r.2.1.up (Nat.le_succ i)).ag (Fr.ag f rfl), r.2.2.1.ag (Fr.ag f rfl), rsG r.2.2.2.1 c1 q ⟨g2, ⟨irm_nn (by decide) g1, g3⟩, g4⟩, r.2.2.2.2.1.ag (Fr.ag f rfl), r.2.2.2.2.2.1.ag (Fr.ag f rfl), r.2.2.2.2.2.2.1.ag (Fr.ag f rfl), (r.2.2.2.2.2.2.2.1.up (Nat.le_succ i)).ag (Fr.ag f rfl), r.2.2.2.2.2.2.2.2.1.ag (Fr.ag f rfl), r.2.2.2.2.2.2.2.2.2.1.ag (Fr.ag f rfl), r.2.2.2.2.2.2.2.2.2.2.ag (Fr.ag f rfl)⟩
  · rw [if_neg q]
    exact ⟨fun z => absurd z (by decide), fun _ => p2 d1 (fun _ _ _ _ => ⟨fun z => absurd z q, fun _ => ⟨rfl, u⟩⟩) (fun z => absurd ⟨g1, g2, g3, g4⟩ z)⟩
-- ===== shelves: as a statement of six =====
theorem RH.all {h : mH} : RH h ↔ ∀ k, k < 6 → okH h k := by
  unfold RH
  refine ⟨fun z k hk => ?_, fun z => ⟨z 0 (by decide), z 1 (by decide), z 2 (by decide), z 3 (by decide), z 4 (by decide), z 5 (by decide)⟩⟩
  rcases (show k = 0 ∨ k = 1 ∨ k = 2 ∨ k = 3 ∨ k = 4 ∨ k = 5 by omega) with rfl | rfl | rfl | rfl | rfl | rfl
  · exact z.1
  · exact z.2.1
  · exact z.2.2.1
  · exact z.2.2.2.1
  · exact z.2.2.2.2.1
  · exact z.2.2.2.2.2
theorem okH.to {h h1 : mH} {k : Nat} (e1 : ∀ j, gi h1 (41 + 2 * k) j = gi h (41 + 2 * k) j) (e2 : gi h1 86 k = gi h 86 k) (e3 : gi h1 87 k = gi h 87 k) (e4 : ∀ j, gl h1 (42 + 2 * k) j = gl h (42 + 2 * k) j) (e5 : ∀ j, j < 60 → gl h1 88 (60 * k + j) = gl h 88 (60 * k + j)) (e6 : (gi h 53 49).toNatClampNeg ≤ (gi h1 53 49).toNatClampNeg) (z : okH h k) : okH h1 k := by
  unfold okH at *
  simp only [e1, e2, e3, e4]
  rcases z with z | ⟨z1, b, z2, z3, z4⟩ | ⟨z1, s, n, z2, z3, z4, z5, z6, z7, z8⟩
  · exact Or.inl z
  · exact Or.inr (Or.inl ⟨z1, b, z2, z3, by omega⟩)
  · exact Or.inr (Or.inr ⟨z1, s, n, z2, z3, z4, z5, z6, z7, fun j hj => by rw [e5 j hj]; exact z8 j hj⟩)
-- ===== body =====
theorem J_body {i : Nat} {h : mH} (r : Inv i h) (a : Int32) : w_X11_body a h (fun v h1 => w_X12_body a h1 (fun w h2 => v = w ∧ Inv (i + 1) h2)) := by
  have u := r.up
  obtain ⟨n, hn, c1, d1, e1⟩ := r.2.2.2.2.2.2.2.2.1
  have hc : (nI n).toNatClampNeg = n := nI_clamp (by omega)
  have p2 : ∀ {h1 : mH} {Q : Int32 → mH → Prop}, gi h1 53 49 = nI n → (inR a 0 7 → (n < 50 → Q (nI n) (si (si h1 84 n a) 53 49 (nI (n + 1)))) ∧ (n = 50 → Q (-3) h1)) → (¬ inR a 0 7 → Q (-1) h1) → w_X12_body a h1 Q := by
    intro h1 Q d2 g f
    unfold w_X12_body
    rw [e_12_in]
    refine b1 (fun g1 => ⟨fun q => ?_, fun q => (g g1).2 ((nn n 50 (by omega) (by decide)).mp (d2.symm.trans q))⟩) f
    have hl : n < 50 := by
      rcases Nat.lt_or_ge n 50 with z | z
      · exact z
      · exact absurd (by rw [d2, show n = 50 by omega]; rfl) q
    have hv : vp_in (nI n) 50 := vp_nI hl (by decide)
    have g5 := (g g1).1 hl
    simp only [forall_eq, gi_si]
    simp [d2, hc, hv, nI_1, nI_pred]
    exact g5
  unfold w_X11_body w_X0_add
  rw [e_11_kind]
  refine b0 (fun q => p2 d1 (fun z => absurd z q) (fun _ => ⟨rfl, u⟩)) (fun g1 => ?_)
  have hlt : gi h 37 2 < 50 ↔ n < 50 := by rw [c1, show (50 : Int32) = nI 50 from rfl]; exact nlt n 50 (by omega) (by decide)
  refine ⟨fun q => ?_, fun q => p2 d1 (fun _ => ⟨fun z => absurd (hlt.mpr z) q, fun _ => ⟨rfl, u⟩⟩) (fun z => absurd g1 z)⟩
  have hl := hlt.mp q
  have hv : vp_in (nI n) 50 := vp_nI hl (by decide)
  simp only [forall_eq, gi_si]
  simp [c1, hc, hv, nI_1, nI_pred]
  refine p2 (h1 := si (si h 38 n a) 37 2 (nI (n + 1))) d1 (fun _ => ⟨fun _ => ⟨rfl, ?_⟩, fun z => by omega⟩) (fun z => absurd g1 z)
  have f : Fr (cl [38, 84] [(37, 2), (53, 49)]) h (si (si (si (si h 38 n a) 37 2 (nI (n + 1))) 84 n a) 53 49 (nI (n + 1))) := ((((Fr.rf _ h).si rfl).si rfl).si rfl).si rfl
  exact ⟨r.1.ag (Fr.ag f rfl), (r.2.1.up (Nat.le_succ i)).ag (Fr.ag f rfl), r.2.2.1.ag (Fr.ag f rfl), r.2.2.2.1.ag (Fr.ag f rfl), r.2.2.2.2.1.ag (Fr.ag f rfl), r.2.2.2.2.2.1.ag (Fr.ag f rfl), r.2.2.2.2.2.2.1.ag (Fr.ag f rfl), (r.2.2.2.2.2.2.2.1.up (Nat.le_succ i)).ag (Fr.ag f rfl), ⟨n + 1, by omega, rfl, rfl, fun j hj => by
        simp only [gi_si]
        by_cases q : j = n
        · subst q
          simp [g1]
        · have := e1 j (by omega)
          simp [q, this]⟩, r.2.2.2.2.2.2.2.2.2.1.ag (Fr.ag f rfl), RH.all.mpr (fun k hk => okH.to (h := h) (fun j => by simp only [gi_si]; rw [if_neg (by omega), if_neg (by omega), if_neg (by omega), if_neg (by omega)]) rfl rfl (fun _ => rfl) (fun _ _ => rfl) (by rw [d1, show gi (si (si (si (si h 38 n a) 37 2 (nI (n + 1))) 84 n a) 53 49 (nI (n + 1))) 53 49 = nI (n + 1) from rfl, nI_clamp (by omega), nI_clamp (by omega)]; omega) (RH.all.mp r.2.2.2.2.2.2.2.2.2.2 k hk))⟩
