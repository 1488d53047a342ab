/-! PURE: sights and guns come, bodies come -/
/-- one number of an entry is laid -/
theorem e_lay {o q m w n k : Nat} {h : mH} {x : Int32} {Q : mH → Prop} (hq : rf o 2 = q) (hlen : lenOf q = m * w) (h0 : gi h o 0 = nI m) (h1 : gi h o 1 = nI w) (h3 : gi h o 3 = nI n) (hn : n < m) (hk : k < w) (hm : m < 100) (hw : w < 100) : w_X2_lay o (nI k) x h Q ↔ Q (si h q (n * w + k) x) := by
  unfold w_X2_lay
  have hmw : n * w + k < m * w := by
    have : (n + 1) * w ≤ m * w := Nat.mul_le_mul_right w hn
    rw [Nat.add_mul] at this
    omega
  have hb : m * w ≤ 100 * 100 := Nat.mul_le_mul (by omega) (by omega)
  rw [h0, h1, h3, hq, hlen, nl w k (by omega) (by omega), nl m n (by omega) (by omega), pk_mul, nI_add, nI_clamp (by omega)]
  simp only [forall_eq]
  exact ⟨fun z => (z.2 (by omega)).2 (by omega) |>.2, fun z => ⟨fun q => by omega, fun _ => ⟨fun q => by omega, fun _ => ⟨vp_nI hmw (by omega), z⟩⟩⟩⟩
theorem e_lay_no {o w k : Nat} {h : mH} {x : Int32} {Q : mH → Prop} (h1 : gi h o 1 = nI w) (hk : w ≤ k) (hk2 : k < 100) : w_X2_lay o (nI k) x h Q ↔ Q h := by
  unfold w_X2_lay
  rw [h1, nl w k (by omega) (by omega)]
  exact ⟨fun z => z.1 hk, fun z => ⟨fun _ => z, fun q => absurd hk q⟩⟩
theorem e_full {o m n : Nat} {h : mH} {Q : Int32 → mH → Prop} (h0 : gi h o 0 = nI m) (h3 : gi h o 3 = nI n) (hm : m < 100) (hn : n < 100) : w_X2_isFull o h Q ↔ Q (if n < m then 0 else 1) h := by
  unfold w_X2_isFull
  rw [h0, h3, nlt n m (by omega) (by omega)]
  by_cases q : n < m <;> simp [q]
/-- an entry of four numbers comes -/
theorem e_add4 {o q m n : Nat} {h : mH} {a b c d : Int32} {Q : Int32 → mH → Prop} (hq : rf o 2 = q) (hoq : ¬ o = q) (hlen : lenOf q = m * 4) (h0 : gi h o 0 = nI m) (h1 : gi h o 1 = nI 4) (h3 : gi h o 3 = nI n) (hn : n < m) (hm : m < 100)
    (K : Q (nI n) (si (si (si (si (si h q (n * 4) a) q (n * 4 + 1) b) q (n * 4 + 2) c) q (n * 4 + 3) d) o 3 (nI (n + 1)))) : w_X2_add o a b c d h Q := by
  unfold w_X2_add
  rw [e_full h0 h3 hm (by omega), if_pos hn]
  refine ⟨fun _ => ?_, fun z => absurd rfl z⟩
  rw [show (0 : Int32) = nI 0 from rfl, e_lay hq hlen h0 h1 h3 hn (by decide) hm (by decide)]
  rw [show (1 : Int32) = nI 1 from rfl, e_lay (n := n) hq hlen (by rw [gi_si, if_neg (by omega)]; exact h0) (by rw [gi_si, if_neg (by omega)]; exact h1) (by rw [gi_si, if_neg (by omega)]; exact h3) hn (by decide) hm (by decide)]
  rw [show (2 : Int32) = nI 2 from rfl, e_lay (n := n) hq hlen (by rw [gi_si, if_neg (by omega), gi_si, if_neg (by omega)]; exact h0) (by rw [gi_si, if_neg (by omega), gi_si, if_neg (by omega)]; exact h1) (by rw [gi_si, if_neg (by omega), gi_si, if_neg (by omega)]; exact h3) hn (by decide) hm (by decide)]
  rw [show (3 : Int32) = nI 3 from rfl, e_lay (n := n) hq hlen (by rw [gi_si, if_neg (by omega), gi_si, if_neg (by omega), gi_si, if_neg (by omega)]; exact h0) (by rw [gi_si, if_neg (by omega), gi_si, if_neg (by omega), gi_si, if_neg (by omega)]; exact h1) (by rw [gi_si, if_neg (by omega), gi_si, if_neg (by omega), gi_si, if_neg (by omega)]; exact h3) hn (by decide) hm (by decide)]
  simp only [forall_eq]
  have e3 : gi (si (si (si (si h q (n * 4 + 0) a) q (n * 4 + 1) b) q (n * 4 + 2) c) q (n * 4 + 3) d) o 3 = nI n := by
    rw [gi_si, if_neg (by omega), gi_si, if_neg (by omega), gi_si, if_neg (by omega), gi_si, if_neg (by omega)]
    exact h3
  rw [e3, gi_si, if_pos ⟨rfl, rfl⟩, show nI 1 = 1 from rfl, nI_1, nI_pred]
  exact K
theorem e_add3 {o q m n : Nat} {h : mH} {a b c d : Int32} {Q : Int32 → mH → Prop} (hq : rf o 2 = q) (hoq : ¬ o = q) (hlen : lenOf q = m * 3) (h0 : gi h o 0 = nI m) (h1 : gi h o 1 = nI 3) (h3 : gi h o 3 = nI n) (hn : n < m) (hm : m < 100)
    (K : Q (nI n) (si (si (si (si h q (n * 3) a) q (n * 3 + 1) b) q (n * 3 + 2) c) o 3 (nI (n + 1)))) : w_X2_add o a b c d h Q := by
  unfold w_X2_add
  rw [e_full h0 h3 hm (by omega), if_pos hn]
  refine ⟨fun _ => ?_, fun z => absurd rfl z⟩
  rw [show (0 : Int32) = nI 0 from rfl, e_lay hq hlen h0 h1 h3 hn (by decide) hm (by decide)]
  rw [show (1 : Int32) = nI 1 from rfl, e_lay (n := n) hq hlen (by rw [gi_si, if_neg (by omega)]; exact h0) (by rw [gi_si, if_neg (by omega)]; exact h1) (by rw [gi_si, if_neg (by omega)]; exact h3) hn (by decide) hm (by decide)]
  rw [show (2 : Int32) = nI 2 from rfl, e_lay (n := n) hq hlen (by rw [gi_si, if_neg (by omega), gi_si, if_neg (by omega)]; exact h0) (by rw [gi_si, if_neg (by omega), gi_si, if_neg (by omega)]; exact h1) (by rw [gi_si, if_neg (by omega), gi_si, if_neg (by omega)]; exact h3) hn (by decide) hm (by decide)]
  rw [show (3 : Int32) = nI 3 from rfl, e_lay_no (w := 3) (by rw [gi_si, if_neg (by omega), gi_si, if_neg (by omega), gi_si, if_neg (by omega)]; exact h1) (by decide) (by decide)]
  simp only [forall_eq]
  have e3 : gi (si (si (si h q (n * 3 + 0) a) q (n * 3 + 1) b) q (n * 3 + 2) c) o 3 = nI n := by
    rw [gi_si, if_neg (by omega), gi_si, if_neg (by omega), gi_si, if_neg (by omega)]
    exact h3
  rw [e3, gi_si, if_pos ⟨rfl, rfl⟩, show nI 1 = 1 from rfl, nI_1, nI_pred]
  exact K
/-- the contents behind a sight in class and reference -/
def hS1 (h : mH) (n : Nat) (a b c d : Int32) : mH := si (si (si (si (si h 6 (n * 4) a) 6 (n * 4 + 1) b) 6 (n * 4 + 2) c) 6 (n * 4 + 3) d) 5 3 (nI (n + 1))
def hS2 (h : mH) (n : Nat) (a b c d : Int32) : mH := si (si (si (si (si h 62 n a) 63 n b) 64 n c) 65 n d) 53 14 (nI (n + 1))
theorem e_11_addS {n : Nat} {h : mH} {a b c d : Int32} {Q : Int32 → mH → Prop} (h0 : gi h 5 0 = 8) (h1 : gi h 5 1 = 4) (h3 : gi h 5 3 = nI n) (hn : n < 8) (K : Q (nI n) (hS1 h n a b c d)) : w_X2_add 5 a b c d h Q :=
  e_add4 (q := 6) (m := 8) (by decide) (by decide) (by decide) h0 h1 h3 hn (by decide) K
theorem e_12_addS {n : Nat} {h : mH} {a b c d : Int32} {Q : Int32 → mH → Prop} (h3 : gi h 53 14 = nI n) (hn : n < 8) (K : Q (nI n) (hS2 h n a b c d)) : w_X12_addSight a b c d h Q := by
  unfold w_X12_addSight
  have hc : (nI n).toNatClampNeg = n := nI_clamp (by omega)
  have hv : vp_in (nI n) 8 := vp_nI hn (by decide)
  simp only [forall_eq, gi_si]
  simp [h3, hc, hv, nI_1, nI_pred]
  exact K
theorem frS1 {n : Nat} {h : mH} {a b c d : Int32} : Fr (cl [6] [(5, 3)]) h (hS1 h n a b c d) := (((((Fr.rf _ h).si rfl).si rfl).si rfl).si rfl).si rfl
theorem frS2 {n : Nat} {h : mH} {a b c d : Int32} : Fr (cl [62, 63, 64, 65] [(53, 14)]) h (hS2 h n a b c d) := (((((Fr.rf _ h).si rfl).si rfl).si rfl).si rfl).si rfl
theorem rsS {n : Nat} {h : mH} {a b c d : Int32} (r : RS h) (h3 : gi h 5 3 = nI n) (hn : n < 8) (hs : isS a b c d) : RS (hS2 (hS1 h n a b c d) n a b c d) := by
  obtain ⟨k8, k4, n2, hn2, c1, d1, e1⟩ := r
  have : n2 = n := (nn n2 n (by omega) (by omega)).mp (c1.symm.trans h3)
  subst this
  refine ⟨k8, k4, n2 + 1, by omega, rfl, rfl, fun j hj => ?_⟩
  unfold hS2 hS1
  by_cases q : j = n2
  · subst q
    simp only [gi_si]
    simp [Nat.mul_comm j 4]
    exact hs
  · have e := e1 j (by omega)
    simp only [gi_si]
    have q0 : ¬ 4 * j = n2 * 4 + 3 := by omega
    have q1 : ¬ 4 * j = n2 * 4 + 2 := by omega
    have q2 : ¬ 4 * j = n2 * 4 + 1 := by omega
    have q3 : ¬ 4 * j = n2 * 4 := by omega
    have q4 : ¬ 4 * j + 1 = n2 * 4 + 3 := by omega
    have q5 : ¬ 4 * j + 1 = n2 * 4 + 2 := by omega
    have q6 : ¬ 4 * j + 1 = n2 * 4 + 1 := by omega
    have q7 : ¬ 4 * j + 1 = n2 * 4 := by omega
    have q8 : ¬ 4 * j + 2 = n2 * 4 + 3 := by omega
    have q9 : ¬ 4 * j + 2 = n2 * 4 + 2 := by omega
    have qa : ¬ 4 * j + 2 = n2 * 4 + 1 := by omega
    have qb : ¬ 4 * j + 2 = n2 * 4 := by omega
    have qc : ¬ 4 * j + 3 = n2 * 4 + 3 := by omega
    have qd : ¬ 4 * j + 3 = n2 * 4 + 2 := by omega
    have qe : ¬ 4 * j + 3 = n2 * 4 + 1 := by omega
    have qf : ¬ 4 * j + 3 = n2 * 4 := by omega
    simp only [q, q0, q1, q2, q3, q4, q5, q6, q7, q8, q9, qa, qb, qc, qd, qe, qf, and_false, false_and, if_false, show ¬ (6 : Nat) = 53 by decide, show ¬ (62 : Nat) = 53 by decide, show ¬ (63 : Nat) = 53 by decide, show ¬ (64 : Nat) = 53 by decide, show ¬ (65 : Nat) = 53 by decide, show ¬ (6 : Nat) = 5 by decide, show ¬ (62 : Nat) = 5 by decide, show ¬ (63 : Nat) = 5 by decide, show ¬ (64 : Nat) = 5 by decide, show ¬ (65 : Nat) = 5 by decide]
    exact e
theorem J_sight {i : Nat} {h : mH} (r : Inv i h) (a b : Int32) : w_X11_sight a b h (fun v h1 => w_X12_sight a b h1 (fun w h2 => v = w ∧ Inv (i + 1) h2)) := by
  have u := r.up
  obtain ⟨k8, k4, n, hn, c1, d1, e1⟩ := r.2.2.1
  have p2 : ∀ {h1 : mH} {Q : Int32 → mH → Prop}, gi h1 53 14 = nI n → (¬ a < 0 → ¬ b < 0 → isS (a / 100) (irm a 100) (b / 100) (irm b 100) → (n < 8 → Q (nI n) (hS2 h1 n (a / 100) (irm a 100) (b / 100) (irm b 100))) ∧ (n = 8 → Q (-3) h1)) → (¬ (¬ a < 0 ∧ ¬ b < 0 ∧ isS (a / 100) (irm a 100) (b / 100) (irm b 100)) → Q (-1) h1) → w_X12_sight a b h1 Q := by
    intro h1 Q d2 g f
    unfold w_X12_sight
    refine ⟨fun q => f (fun z => z.1 q), fun g1 => ⟨fun q => f (fun z => z.2.1 q), fun g2 => ?_⟩⟩
    rw [e_12_sight]
    refine b1 (fun g3 => ?_) (fun q => f (fun z => q z.2.2))
    rw [d2, show (8 : Int32) = nI 8 from rfl, nn n 8 (by omega) (by decide)]
    exact ⟨fun q => e_12_addS d2 (by omega) ((g g1 g2 g3).1 (by omega)), fun q => (g g1 g2 g3).2 q⟩
  unfold w_X11_sight
  refine ⟨fun q => p2 d1 (fun z => absurd q z) (fun _ => ⟨rfl, u⟩), fun g1 => ⟨fun q => p2 d1 (fun _ z => absurd q z) (fun _ => ⟨rfl, u⟩), fun g2 => ?_⟩⟩
  rw [e_11_sight]
  refine b1 (fun g3 => ?_) (fun q => p2 d1 (fun _ _ z => absurd z q) (fun _ => ⟨rfl, u⟩))
  rw [e_full (m := 8) (n := n) k8 c1 (by decide) (by omega)]
  by_cases q : n < 8
  · rw [if_pos q]
    refine ⟨fun _ => e_11_addS k8 k4 c1 q (p2 (by rw [frS1.i 53 14 rfl]; exact d1) (fun _ _ _ => ⟨fun _ => ⟨rfl, ?_⟩, fun z => by omega⟩) (fun z => absurd ⟨g1, g2, g3⟩ z)), fun z => absurd rfl z⟩
    have f : Fr (cl [6, 62, 63, 64, 65] [(5, 3), (53, 14)]) h (hS2 (hS1 h n (a / 100) (irm a 100) (b / 100) (irm b 100)) n (a / 100) (irm a 100) (b / 100) (irm b 100)) := ((((((((((Fr.rf _ h).si rfl).si rfl).si rfl).si rfl).si rfl).si rfl).si rfl).si rfl).si rfl).si rfl
    exact ⟨r.1.ag (Fr.ag f rfl), (r.2.1.up (Nat.le_succ i)).ag (Fr.ag f rfl), rsS r.2.2.1 c1 q g3, r.2.2.2.1.ag (Fr.ag f rfl), r.2.2.2.2.1.ag (Fr.ag f rfl), r.2.2.2.2.2.1.ag (Fr.ag f rfl), r.2.2.2.2.2.2.1.ag (Fr.ag f rfl), (r.2.2.2.2.2.2.2.1.up (Nat.le_succ i)).ag (Fr.ag f rfl), r.2.2.2.2.2.2.2.2.1.ag (Fr.ag f rfl), r.2.2.2.2.2.2.2.2.2.1.ag (Fr.ag f rfl), r.2.2.2.2.2.2.2.2.2.2.ag (Fr.ag f rfl)⟩
  · rw [if_neg q]
    exact ⟨fun z => absurd z (by decide), fun _ => p2 d1 (fun _ _ _ => ⟨fun z => absurd z q, fun _ => ⟨rfl, u⟩⟩) (fun z => absurd ⟨g1, g2, g3⟩ z)⟩
