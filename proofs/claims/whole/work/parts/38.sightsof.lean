/-! PURE: sights of a row -/
def el (h : mH) (k a y : Nat) : Int32 := (jl h k (a + y)).toInt32
def goS (h : mH) (k n n0 a c i : Nat) : Prop := i < c ∧ a + 4 * i + 3 < n ∧ n0 + i < 8 ∧ isS (el h k a (4 * i)) (el h k a (4 * i + 1)) (el h k a (4 * i + 2)) (el h k a (4 * i + 3))
def sA (h : mH) (k n0 a i : Nat) (s : mH) : Prop := gi s 5 3 = nI (n0 + i) ∧ ∀ x, gi s 6 x = if 4 * n0 ≤ x ∧ x < 4 * (n0 + i) then el h k a (x - 4 * n0) else gi h 6 x
def sB2 (h : mH) (k n0 a i : Nat) (s : mH) (t : Nat) : Prop := ∀ x, gi s (62 + t) x = if n0 ≤ x ∧ x < n0 + i then el h k a (4 * (x - n0) + t) else gi h (62 + t) x
theorem sA.nx {h s : mH} {k n0 a i : Nat} (g : sA h k n0 a i s) : sA h k n0 a (i + 1) (hS1 s (n0 + i) (el h k a (4 * i)) (el h k a (4 * i + 1)) (el h k a (4 * i + 2)) (el h k a (4 * i + 3))) := by
  refine ⟨rfl, fun x => ?_⟩
  have e := g.2 x
  unfold hS1
  rw [gi_si, gi_si, gi_si, gi_si, gi_si]
  rw [if_neg (fun z => absurd z.1 (by decide))]
  by_cases q3 : x = (n0 + i) * 4 + 3
  · rw [if_pos ⟨rfl, q3⟩, if_pos (by omega), show x - 4 * n0 = 4 * i + 3 by omega]
  · rw [if_neg (fun z => q3 z.2)]
    by_cases q2 : x = (n0 + i) * 4 + 2
    · rw [if_pos ⟨rfl, q2⟩, if_pos (by omega), show x - 4 * n0 = 4 * i + 2 by omega]
    · rw [if_neg (fun z => q2 z.2)]
      by_cases q1 : x = (n0 + i) * 4 + 1
      · rw [if_pos ⟨rfl, q1⟩, if_pos (by omega), show x - 4 * n0 = 4 * i + 1 by omega]
      · rw [if_neg (fun z => q1 z.2)]
        by_cases q0 : x = (n0 + i) * 4
        · rw [if_pos ⟨rfl, q0⟩, if_pos (by omega), show x - 4 * n0 = 4 * i by omega]
        · rw [if_neg (fun z => q0 z.2), e]
          by_cases q : 4 * n0 ≤ x ∧ x < 4 * (n0 + i)
          · rw [if_pos q, if_pos (by omega)]
          · rw [if_neg q, if_neg (by omega)]
theorem sB2.nx {h s : mH} {k n0 a i : Nat} (g : ∀ t, t < 4 → sB2 h k n0 a i s t) : ∀ t, t < 4 → sB2 h k n0 a (i + 1) (hS2 s (n0 + i) (el h k a (4 * i)) (el h k a (4 * i + 1)) (el h k a (4 * i + 2)) (el h k a (4 * i + 3))) t := by
  intro t ht x
  have e := g t ht x
  unfold hS2
  simp only [gi_si]
  by_cases q : x = n0 + i
  · subst q
    rcases (show t = 0 ∨ t = 1 ∨ t = 2 ∨ t = 3 by omega) with rfl | rfl | rfl | rfl <;> simp
  · have e2 : (if n0 ≤ x ∧ x < n0 + (i + 1) then el h k a (4 * (x - n0) + t) else gi h (62 + t) x) = gi s (62 + t) x := by
      rw [e]
      by_cases w : n0 ≤ x ∧ x < n0 + i
      · rw [if_pos w, if_pos (by omega)]
      · rw [if_neg w, if_neg (by omega)]
    rw [e2, if_neg (by omega), if_neg (fun z => q z.2), if_neg (fun z => q z.2), if_neg (fun z => q z.2), if_neg (fun z => q z.2)]
theorem rsAB {h s1 s2 : mH} {k n n0 a c J : Nat} (r : RS h) (c3 : gi h 5 3 = nI n0) (f : Fr (cl [6, 62, 63, 64, 65] [(5, 3), (53, 14)]) h s2) (A : sA h k n0 a J s1) (e5 : gi s2 5 3 = gi s1 5 3) (e6 : ∀ x, gi s2 6 x = gi s1 6 x) (d3 : gi s2 53 14 = nI (n0 + J)) (B : ∀ t, t < 4 → sB2 h k n0 a J s2 t) (hJ : n0 + J ≤ 8) (go : ∀ j, j < J → goS h k n n0 a c j) : RS s2 := by
  obtain ⟨k8, k4, n2, hn2, c1, d1, e1⟩ := r
  have : n2 = n0 := (nn n2 n0 (by omega) (by omega)).mp (c1.symm.trans c3)
  subst this
  refine ⟨by rw [f.i 5 0 rfl]; exact k8, by rw [f.i 5 1 rfl]; exact k4, n2 + J, hJ, by rw [e5]; exact A.1, d3, fun j hj => ?_⟩
  have b0 := B 0 (by decide) j
  have b1 := B 1 (by decide) j
  have b2 := B 2 (by decide) j
  have b3 := B 3 (by decide) j
  rw [e6, e6, e6, e6, A.2, A.2, A.2, A.2]
  simp only [Nat.add_zero, Nat.reduceAdd] at b0 b1 b2 b3
  rw [b0, b1, b2, b3]
  by_cases q : n2 ≤ j
  · rw [if_pos (show 4 * n2 ≤ 4 * j ∧ 4 * j < 4 * (n2 + J) by omega), if_pos (show 4 * n2 ≤ 4 * j + 1 ∧ 4 * j + 1 < 4 * (n2 + J) by omega), if_pos (show 4 * n2 ≤ 4 * j + 2 ∧ 4 * j + 2 < 4 * (n2 + J) by omega), if_pos (show 4 * n2 ≤ 4 * j + 3 ∧ 4 * j + 3 < 4 * (n2 + J) by omega)]
    rw [if_pos (show n2 ≤ j ∧ j < n2 + J by omega), if_pos (show n2 ≤ j ∧ j < n2 + J by omega), if_pos (show n2 ≤ j ∧ j < n2 + J by omega), if_pos (show n2 ≤ j ∧ j < n2 + J by omega)]
    rw [show 4 * j - 4 * n2 = 4 * (j - n2) by omega, show 4 * j + 1 - 4 * n2 = 4 * (j - n2) + 1 by omega, show 4 * j + 2 - 4 * n2 = 4 * (j - n2) + 2 by omega, show 4 * j + 3 - 4 * n2 = 4 * (j - n2) + 3 by omega]
    exact ⟨rfl, rfl, rfl, rfl, (go (j - n2) (by omega)).2.2.2⟩
  · rw [if_neg (show ¬ (4 * n2 ≤ 4 * j ∧ 4 * j < 4 * (n2 + J)) by omega), if_neg (show ¬ (4 * n2 ≤ 4 * j + 1 ∧ 4 * j + 1 < 4 * (n2 + J)) by omega), if_neg (show ¬ (4 * n2 ≤ 4 * j + 2 ∧ 4 * j + 2 < 4 * (n2 + J)) by omega), if_neg (show ¬ (4 * n2 ≤ 4 * j + 3 ∧ 4 * j + 3 < 4 * (n2 + J)) by omega)]
    rw [if_neg (show ¬ (n2 ≤ j ∧ j < n2 + J) by omega), if_neg (show ¬ (n2 ≤ j ∧ j < n2 + J) by omega), if_neg (show ¬ (n2 ≤ j ∧ j < n2 + J) by omega), if_neg (show ¬ (n2 ≤ j ∧ j < n2 + J) by omega)]
    exact e1 j (by omega)
/-- the class's loop over a row's sights -/
theorem p_ss11 {h : mH} {k n n0 a c J s : Nat} {K Q : _} (hk : k < 6) (z : sR h k s n) (hc : c ≤ 8) (h50 : gi h 5 0 = 8) (h51 : gi h 5 1 = 4) (h53 : gi h 5 3 = nI n0) (hn0 : n0 ≤ 8) (ha : a < 2 ^ 31) (st : ¬ goS h k n n0 a c J) (go : ∀ j, j < J → goS h k n n0 a c j)
    (g : ∀ s, Fr (cl [6] [(5, 3)]) h s → sA h k n0 a J s → (J = c → K s) ∧ (¬ J = c → Q (nI J) s)) : ∃ m, w_X11_sightsFrom_L6 K Q (41 + 2 * k) (nI c) m (nI a) 0 h := by
  have n60 := z.2.2.1
  obtain ⟨r1, r2, r3⟩ := rf_sh k hk
  have hJ8 : J ≤ 8 := by
    by_cases q : J = 0
    · omega
    · have := go (J - 1) (by omega)
      have := this.1
      omega
  have sml : ¬ J = 0 → a + 4 * J < 64 := fun q => by
    have := (go (J - 1) (by omega)).2.1
    omega
  have h4 : (4 : Int32).toInt = 4 := rfl
  have step : ∀ (i : Nat) (x : mH) (m : Nat), i ≤ J → Fr (cl [6] [(5, 3)]) h x → sA h k n0 a i x → (i = c → K x) → (¬ i = c → ¬ goS h k n n0 a c i → Q (nI i) x) → (goS h k n n0 a c i → w_X11_sightsFrom_L6 K Q (41 + 2 * k) (nI c) m (nI (a + 4 * (i + 1))) (nI (i + 1)) (hS1 x (n0 + i) (el h k a (4 * i)) (el h k a (4 * i + 1)) (el h k a (4 * i + 2)) (el h k a (4 * i + 3)))) → w_X11_sightsFrom_L6 K Q (41 + 2 * k) (nI c) (m + 1) (nI (a + 4 * i)) (nI i) x := by
    intro i x m hi f A k1 k2 k3
    have hi2 : i ≤ c := by
      by_cases q : i = 0
      · omega
      · have := (go (i - 1) (by omega)).1
        omega
    have hai : a + 4 * i < 2 ^ 31 := by
      by_cases q : i = 0
      · omega
      · have := (go (i - 1) (by omega)).2.1
        omega
    have xl : gi x (41 + 2 * k) 4 = nI n := by
      have : cl [6] [(5, 3)] (41 + 2 * k) 4 = false := by
        rcases (show k = 0 ∨ k = 1 ∨ k = 2 ∨ k = 3 ∨ k = 4 ∨ k = 5 by omega) with rfl | rfl | rfl | rfl | rfl | rfl <;> rfl
      rw [f.i _ _ this]
      exact z.2.2.2.2.2.1
    have xr : ∀ j, j < 60 → gl x (42 + 2 * k) j = jl h k j := by
      intro j hj
      have : cl [6] [(5, 3)] (42 + 2 * k) j = false := by
        rcases (show k = 0 ∨ k = 1 ∨ k = 2 ∨ k = 3 ∨ k = 4 ∨ k = 5 by omega) with rfl | rfl | rfl | rfl | rfl | rfl <;> rfl
      rw [f.l _ _ this]
      exact z.2.2.2.2.2.2.2 j hj
    unfold w_X11_sightsFrom_L6
    rw [nl c i (by omega) (by omega), xl, r2, r3, lt_i, sub_i (by rw [nI_toInt (by omega), h4]; omega) (by rw [nI_toInt (by omega), h4]; omega), nI_toInt (by omega), nI_toInt hai, h4]
    refine ⟨fun q => k1 (by omega), fun q => ⟨fun q2 => k2 (by omega) (fun w => by have := w.2.1; omega), fun q2 => ?_⟩⟩
    have q5 : a + 4 * i + 3 < n := by omega
    have n8 : n0 + i ≤ 8 := by
      by_cases q : i = 0
      · omega
      · have := (go (i - 1) (by omega)).2.2.1
        omega
    have x50 : gi x 5 0 = nI 8 := by rw [f.i 5 0 rfl]; exact h50
    have x51 : gi x 5 1 = 4 := by rw [f.i 5 1 rfl]; exact h51
    rw [e_full (m := 8) (n := n0 + i) x50 A.1 (by decide) (by omega)]
    by_cases q6 : n0 + i < 8
    · rw [if_pos q6]
      refine ⟨fun _ => ?_, fun w => absurd rfl w⟩
      rw [show (1 : Int32) = nI 1 from rfl, show (2 : Int32) = nI 2 from rfl, show (3 : Int32) = nI 3 from rfl, show (4 : Int32) = nI 4 from rfl, nI_add, nI_add, nI_add, nI_add, nI_add, nI_clamp (by omega), nI_clamp (by omega), nI_clamp (by omega), nI_clamp (by omega), xr _ (by omega), xr _ (by omega), xr _ (by omega), xr _ (by omega)]
      refine ⟨vp_nI (by omega) (by decide), fun x3 e3 => ⟨vp_nI (by omega) (by decide), fun x4 e4 => ⟨vp_nI (by omega) (by decide), fun x5 e5 => ⟨vp_nI (by omega) (by decide), fun x6 e6 => ?_⟩⟩⟩⟩
      have e3' : x3 = el h k a (4 * i) := e3
      have e4' : x4 = el h k a (4 * i + 1) := e4
      have e5' : x5 = el h k a (4 * i + 2) := e5
      have e6' : x6 = el h k a (4 * i + 3) := e6
      rw [e3', e4', e5', e6', e_11_sight]
      refine b1 (fun w => e_11_addS x50 x51 A.1 q6 (k3 ⟨by omega, q5, q6, w⟩)) (fun w => k2 (by omega) (fun y => w y.2.2.2))
    · rw [if_neg q6]
      exact ⟨fun w => absurd w (by decide), fun _ => k2 (by omega) (fun y => q6 y.2.2.1)⟩
  refine loop_0 (σ := mH) (fun n i s => w_X11_sightsFrom_L6 K Q (41 + 2 * k) (nI c) n (nI (a + 4 * i)) (nI i) s) (fun i s => Fr (cl [6] [(5, 3)]) h s ∧ sA h k n0 a i s) J h ⟨Fr.rf _ h, h53, fun x => by rw [if_neg (by omega)]⟩ (fun m x e => ?_) (fun m i x hi e nx => ?_)
  · exact step J x m (Nat.le_refl _) e.1 e.2 (g x e.1 e.2).1 (fun q _ => (g x e.1 e.2).2 q) (fun q => absurd q st)
  · exact step i x m (by omega) e.1 e.2 (fun q => absurd (go i hi).1 (by omega)) (fun _ q => absurd (go i hi) q) (fun _ => nx _ ⟨e.1.tr frS1, e.2.nx⟩)
/-- the reference's loop over a row's sights -/
theorem p_ss12 {h h1 : mH} {k n n0 a c J s : Nat} {K Q : _} (hk : k < 6) (z : sR h k s n) (hc : c ≤ 8) (h14 : gi h1 53 14 = nI n0) (e87 : gi h1 87 k = gi h 87 k) (e88 : ∀ j, gl h1 88 j = gl h 88 j) (e6 : ∀ t, t < 4 → ∀ x, gi h1 (62 + t) x = gi h (62 + t) x) (hn0 : n0 ≤ 8) (ha : a < 2 ^ 31) (st : ¬ goS h k n n0 a c J) (go : ∀ j, j < J → goS h k n n0 a c j)
    (g : ∀ s, Fr (cl [62, 63, 64, 65] [(53, 14)]) h1 s → gi s 53 14 = nI (n0 + J) → (∀ t, t < 4 → sB2 h k n0 a J s t) → (J = c → K s) ∧ (¬ J = c → Q (nI J) s)) : ∃ m, w_X12_sights_L58 K Q (nI k) (nI a) (nI c) m 0 h1 := by
  have n60 := z.2.2.1
  have h4 : (4 : Int32).toInt = 4 := rfl
  have ck : (nI k).toNatClampNeg = k := nI_clamp (by omega)
  have hv : vp_in (nI k) 6 := vp_nI hk (by decide)
  have step : ∀ (i : Nat) (x : mH) (m : Nat), i ≤ J → Fr (cl [62, 63, 64, 65] [(53, 14)]) h1 x → gi x 53 14 = nI (n0 + i) → (i = c → K x) → (¬ i = c → ¬ goS h k n n0 a c i → Q (nI i) x) → (goS h k n n0 a c i → w_X12_sights_L58 K Q (nI k) (nI a) (nI c) m (nI (i + 1)) (hS2 x (n0 + i) (el h k a (4 * i)) (el h k a (4 * i + 1)) (el h k a (4 * i + 2)) (el h k a (4 * i + 3)))) → w_X12_sights_L58 K Q (nI k) (nI a) (nI c) (m + 1) (nI i) x := by
    intro i x m hi f c14 k1 k2 k3
    have hi2 : i ≤ c := by
      by_cases q : i = 0
      · omega
      · have := (go (i - 1) (by omega)).1
        omega
    have n8 : n0 + i ≤ 8 := by
      by_cases q : i = 0
      · omega
      · have := (go (i - 1) (by omega)).2.2.1
        omega
    have x87 : gi x 87 k = nI n := by
      rw [f.i 87 k rfl, e87]
      exact z.2.2.2.2.2.2.1
    have x88 : ∀ j, gl x 88 (60 * k + j) = jl h k j := by
      intro j
      rw [f.l 88 _ rfl, e88]
      rfl
    unfold w_X12_sights_L58
    rw [ck, x87, nl c i (by omega) (by omega)]
    refine ⟨fun q => k1 (by omega), fun q y5 e5 => ?_⟩
    have y0 : y5.toInt = a + 4 * i := by
      rw [e5, lg_i2l_add, show (4 : Int32) = nI 4 from rfl, pk_mul, nI_toInt ha, nI_toInt (by omega)]
      omega
    have y3 : (y5 + 3).toInt = a + 4 * i + 3 := by
      rw [Int64.toInt_add, y0, show (3 : Int64).toInt = 3 from rfl]
      exact Int.bmod_eq_of_le (by omega) (by omega)
    rw [lg_cmp_lt, lg_cmp_ge, Int64.lt_iff_toInt_lt, Int64.le_iff_toInt_le, y0, y3, show (0 : Int64).toInt = 0 from rfl, Int32.toInt_toInt64, nI_toInt (by omega)]
    refine ⟨fun w => absurd w (by omega), fun _ => ⟨hv, fun w => k2 (by omega) (fun y => by have := y.2.1; omega), fun w => ?_⟩⟩
    have q5 : a + 4 * i + 3 < n := by omega
    rw [c14, show (8 : Int32) = nI 8 from rfl, nn _ 8 (by omega) (by decide)]
    refine ⟨fun q6 x6 e6 => ?_, fun q6 => k2 (by omega) (fun y => by have := y.2.2.1; omega)⟩
    have y6 : x6 = nI (60 * k + (a + 4 * i)) := by
      rw [e6, e5, lg_l2i_add, lg_l2i_i2l, lg_l2i_i2l, show (4 : Int32) = nI 4 from rfl, show (60 : Int32) = nI 60 from rfl, pk_mul, pk_mul, nI_add, nI_add]
    subst y6
    rw [show (1 : Int32) = nI 1 from rfl, show (2 : Int32) = nI 2 from rfl, show (3 : Int32) = nI 3 from rfl, nI_add, nI_add, nI_add, nI_clamp (by omega), nI_clamp (by omega), nI_clamp (by omega), nI_clamp (by omega), Nat.add_assoc (60 * k) _ 1, Nat.add_assoc (60 * k) _ 2, Nat.add_assoc (60 * k) _ 3, x88, x88, x88, x88]
    have v0 : vp_in (nI (60 * k + (a + 4 * i))) 360 := vp_nI (by omega) (by decide)
    have v1 : vp_in (nI (60 * k + (a + 4 * i + 1))) 360 := vp_nI (by omega) (by decide)
    have v2 : vp_in (nI (60 * k + (a + 4 * i + 2))) 360 := vp_nI (by omega) (by decide)
    have v3 : vp_in (nI (60 * k + (a + 4 * i + 3))) 360 := vp_nI (by omega) (by decide)
    refine ⟨v0, v1, v2, v3, ?_⟩
    rw [e_12_sight]
    refine b1 (fun w => ⟨v0, v1, v2, v3, ?_⟩) (fun w => k2 (by omega) (fun y => w y.2.2.2))
    rw [x88, x88, x88, x88]
    exact e_12_addS c14 (by omega) (by rw [nI_add]; exact k3 ⟨by omega, q5, by omega, w⟩)
  refine loop_0 (σ := mH) (fun n i s => w_X12_sights_L58 K Q (nI k) (nI a) (nI c) n (nI i) s) (fun i s => Fr (cl [62, 63, 64, 65] [(53, 14)]) h1 s ∧ gi s 53 14 = nI (n0 + i) ∧ ∀ t, t < 4 → sB2 h k n0 a i s t) J h1 ⟨Fr.rf _ h1, h14, fun t ht x => by rw [if_neg (by omega)]; exact e6 t ht x⟩ (fun m x e => ?_) (fun m i x hi e nx => ?_)
  · exact step J x m (Nat.le_refl _) e.1 e.2.1 (g x e.1 e.2.1 e.2.2).1 (fun q _ => (g x e.1 e.2.1 e.2.2).2 q) (fun q => absurd q st)
  · exact step i x m (by omega) e.1 e.2.1 (fun q => absurd (go i hi).1 (by omega)) (fun _ q => absurd (go i hi) q) (fun _ => nx _ ⟨e.1.tr frS2, rfl, sB2.nx e.2.2⟩)
theorem cl_less1 {x k : Nat} (q : cl [6, 62, 63, 64, 65] [(5, 3), (53, 14)] x k = false) : cl [6] [(5, 3)] x k = false := by
  unfold cl at *
  simp at *
  omega
theorem cl_less2 {x k : Nat} (q : cl [6, 62, 63, 64, 65] [(5, 3), (53, 14)] x k = false) : cl [62, 63, 64, 65] [(53, 14)] x k = false := by
  unfold cl at *
  simp at *
  omega
theorem J_sights {i : Nat} {h : mH} (r : Inv i h) (a b c : Int32) : w_X11_sights a b c h (fun v h1 => w_X12_sights a b c h1 (fun w h2 => v = w ∧ Inv (i + 1) h2)) := by
  have u := r.up
  have rH := r.2.2.2.2.2.2.2.2.2.2
  have rB := r.2.2.2.2.2.2.2.2.1
  obtain ⟨k8, k4, n0, hn0, c1, d1, e1⟩ := r.2.2.1
  have m2 : (-2 : Int32).toInt = -2 := rfl
  have m1 : (-1 : Int32).toInt = -1 := rfl
  have h1' : (1 : Int32).toInt = 1 := rfl
  have h8' : (8 : Int32).toInt = 8 := rfl
  have p2 : ∀ {h1 : mH} {Q : Int32 → mH → Prop}, (∀ x y, ¬ x = 5 → ¬ x = 6 → gi h1 x y = gi h x y) → (¬ (inR a 0 5 ∧ inR c 1 8) → Q (-1) h1) →
      (inR c 1 8 → ∀ k, k < 6 → a = nI k → sN h k → Q 0 h1) → (inR c 1 8 → ∀ k, k < 6 → a = nI k → ¬ sN h k → (∀ n, ¬ sR h k 0 n) → Q (-12) h1) →
      (inR c 1 8 → ∀ k n, k < 6 → a = nI k → sR h k 0 n → b < 0 → Q 0 h1) → (∀ k n p c0, k < 6 → a = nI k → sR h k 0 n → b = nI p → p < 2 ^ 31 → c = nI c0 → 1 ≤ c0 → c0 ≤ 8 → ∃ m, w_X12_sights_L58 (fun h11 => Q c h11) Q (nI k) (nI p) (nI c0) m 0 h1) → w_X12_sights a b c h1 Q := by
    intro h1 Q eg f1 f2 f3 f4 g
    unfold w_X12_sights
    rw [e_12_shelf]
    refine b0 (fun q => f1 (fun z => q z.1)) (fun ha => ?_)
    rw [e_12_in]
    refine b1 (fun hc => ?_) (fun q => f1 (fun z => q z.2))
    obtain ⟨k, hk, rfl, ck, hv⟩ := sh_k ha
    rw [ck, eg 86 k (by decide) (by decide)]
    rcases (RH.all.mp rH k hk).cs with z | ⟨x, z⟩ | ⟨t, n, z⟩
    · rw [z.2]
      exact ⟨hv, fun _ => ⟨hv, fun q => absurd rfl q, fun _ => f2 hc k hk rfl z⟩, fun q => absurd rfl q⟩
    · have hb := rB.lt z
      rw [z.2.1]
      refine ⟨hv, fun q => absurd q (nI_m1 (by omega)), fun _ => ⟨hv, fun q => ?_, fun _ => f3 hc k hk rfl (fun w => sx_NB w z) (fun n w => sx_BR z w)⟩⟩
      exfalso
      rw [eq_i, nI_toInt (by omega), m2] at q
      omega
    · have ks := kd t z.2.1
      have q1 : ¬ (-2 - nI t : Int32) = -1 := fun q => by rw [eq_i, ks, m1] at q; omega
      rw [z.2.2.2.2.1]
      refine ⟨hv, fun q => absurd q q1, fun _ => ⟨hv, fun q => ⟨hv, fun _ => ?_, fun w => absurd w q1⟩, fun q => f3 hc k hk rfl (fun w => sx_NR w z) (fun n2 w => ?_)⟩⟩
      · have : t = 0 := by rw [eq_i, ks, m2] at q; omega
        subst this
        rw [inR_i, h1', h8'] at hc
        rcases neg_or b with hb | ⟨p, hp, rfl⟩
        · refine ⟨1, ?_⟩
          unfold w_X12_sights_L58
          refine ⟨fun w => absurd w (by rw [le_i]; have : (0 : Int32).toInt = 0 := rfl; omega), fun _ y5 e5 => ⟨fun _ => f4 (inR_i.mpr (by rw [h1', h8']; exact hc)) k n hk rfl z hb, fun w => absurd ?_ w⟩⟩
          rw [lg_cmp_lt, Int64.lt_iff_toInt_lt, e5, lg_i2l_add, show (4 * 0 : Int32).toInt = 0 from rfl, show (0 : Int64).toInt = 0 from rfl]
          rw [lt_i] at hb
          have : (0 : Int32).toInt = 0 := rfl
          omega
        · have e : c = nI c.toInt.toNat := nI_of_i (by omega)
          obtain ⟨m, y⟩ := g k n p c.toInt.toNat hk rfl z rfl hp e (by omega) (by omega)
          rw [← e] at y
          exact ⟨m, y⟩
      · obtain ⟨rfl, -⟩ := sx_RR z w
        exact q rfl
  have cN : ∀ c0, c = nI c0 → 1 ≤ c0 → c0 ≤ 8 → inR c 1 8 := fun c0 e _ _ => by
    rw [e, inR_i, nI_toInt (by omega), h1', h8']
    omega
  unfold w_X11_sights
  rw [e_11_shelf]
  have n1 : ¬ (inR a 0 5 ∧ inR c 1 8) → w_X12_sights a b c h (fun w h2 => -1 = w ∧ Inv (i + 1) h2) := fun q =>
    p2 (fun _ _ _ _ => rfl) (fun _ => ⟨rfl, u⟩) (fun hc k hk e _ => absurd ⟨kin hk e, hc⟩ q) (fun hc k hk e _ _ => absurd ⟨kin hk e, hc⟩ q) (fun hc k n hk e _ _ => absurd ⟨kin hk e, hc⟩ q) (fun k n p c0 hk e _ _ _ e2 y1 y2 => absurd ⟨kin hk e, cN c0 e2 y1 y2⟩ q)
  refine b0 (fun q => n1 (fun z => q z.1)) (fun ha => ⟨fun q => n1 (fun z => z.2.1 q), fun q1 => ⟨fun q2 => ?_, fun q => n1 (fun z => q ?_)⟩⟩)
  · have hc : inR c 1 8 := ⟨q1, fun z => by rw [le_i] at q2; rw [lt_i] at z; omega⟩
    obtain ⟨k, hk, rfl, ck, hv⟩ := sh_k ha
    obtain ⟨r1, r2, r3⟩ := rf_sh k hk
    have p3 : ∀ {h1 : mH} {Q : Int32 → mH → Prop}, (∀ x y, ¬ x = 5 → ¬ x = 6 → gi h1 x y = gi h x y) → 
      (sN h k → Q 0 h1) → (¬ sN h k → (∀ n, ¬ sR h k 0 n) → Q (-12) h1) → (∀ n, sR h k 0 n → b < 0 → Q 0 h1) → (∀ n p c0, sR h k 0 n → b = nI p → p < 2 ^ 31 → c = nI c0 → 1 ≤ c0 → c0 ≤ 8 → ∃ m, w_X12_sights_L58 (fun h11 => Q c h11) Q (nI k) (nI p) (nI c0) m 0 h1) → w_X12_sights (nI k) b c h1 Q := by
      intro h1 Q eg f2 f3 f4 g
      refine p2 eg (fun q => absurd ⟨ha, hc⟩ q) (fun _ k2 hk2 e => ?_) (fun _ k2 hk2 e => ?_) (fun _ k2 n hk2 e => ?_) (fun k2 n p c0 hk2 e => ?_) <;> (have := nIne hk hk2 e; subst this)
      · exact f2
      · exact f3
      · exact f4 n
      · exact g n p c0
    refine ⟨hv, fun r5 e5 => ?_⟩
    subst e5
    rw [ck, r1]
    rcases (RH.all.mp rH k hk).cs with z | ⟨x, z⟩ | ⟨t, n, z⟩
    · rw [z.1]
      exact ⟨fun q => absurd rfl q, fun _ => p3 (fun _ _ _ _ => rfl) (fun _ => ⟨rfl, u⟩) (fun w => absurd z w) (fun n w => (sx_NR z w).elim) (fun n _ _ w => (sx_NR z w).elim)⟩
    · unfold w_X9_holdsRow
      rw [z.1]
      exact ⟨fun _ => ⟨fun _ => ⟨fun q => absurd rfl q, fun _ => p3 (fun _ _ _ _ => rfl) (fun w => (sx_NB w z).elim) (fun _ _ => ⟨rfl, u⟩) (fun n w => (sx_BR z w).elim) (fun n _ _ w => (sx_BR z w).elim)⟩, fun q => absurd q (by decide)⟩, fun q => absurd q (by decide)⟩
    · unfold w_X9_holdsRow
      rw [z.1, z.2.2.2.1]
      refine ⟨fun _ => ⟨fun q => absurd rfl q, fun _ => ⟨fun q => ⟨fun q => absurd rfl q, fun _ => p3 (fun _ _ _ _ => rfl) (fun w => (sx_NR w z).elim) (fun _ _ => ⟨rfl, u⟩) (fun n w => ?_) (fun n _ _ w => ?_)⟩, fun q => ⟨fun _ => ?_, fun q => absurd q (by decide)⟩⟩⟩, fun q => absurd q (by decide)⟩
      · obtain ⟨rfl, -⟩ := sx_RR z w
        exact absurd rfl q
      · obtain ⟨rfl, -⟩ := sx_RR z w
        exact absurd rfl q
      · have : t = 0 := (nn t 0 (by have := z.2.1; omega) (by decide)).mp q
        subst this
        rcases neg_or b with hb | ⟨p, hp, rfl⟩
        · refine ⟨fun q => ?_, fun _ => p3 (fun _ _ _ _ => rfl) (fun w => (sx_NR w z).elim) (fun _ w => absurd z (w n)) (fun _ _ _ => ⟨rfl, u⟩) (fun _ p _ _ e hp => absurd hb (by rw [e]; exact nI_pos hp))⟩
          rw [lt_i] at hb
          rw [le_i] at q
          omega
        · refine ⟨fun _ => ?_, fun q => absurd ((nl 0 p (by decide) hp).mpr (Nat.zero_le p)) q⟩
          rw [inR_i, h1', h8'] at hc
          have ec : c = nI c.toInt.toNat := nI_of_i (by omega)
          have hc1 : 1 ≤ c.toInt.toNat := by omega
          have hc8 : c.toInt.toNat ≤ 8 := by omega
          generalize c.toInt.toNat = c0 at ec hc1 hc8
          subst ec
          obtain ⟨J, hJ, st, go⟩ := least (p := fun j => ¬ goS h k n n0 p c0 j) c0 (fun y => by have := y.1; omega)
          have go' : ∀ j, j < J → goS h k n n0 p c0 j := fun j hj => Classical.byContradiction fun w => go j hj w
          have nJ : n0 + J ≤ 8 := by
            by_cases q : J = 0
            · omega
            · have := (go' (J - 1) (by omega)).2.2.1
              omega
          unfold w_X11_sightsFrom
          have fin : ∀ s, Fr (cl [6] [(5, 3)]) h s → sA h k n0 p J s → ∀ v, v = nI J → w_X12_sights (nI k) (nI p) (nI c0) s (fun w h2 => v = w ∧ Inv (i + 1) h2) := fun s f A v ev => by
            refine p3 (fun x y q5 q6 => f.i x y ?_) (fun w => (sx_NR w z).elim) (fun _ w => absurd z (w n)) (fun _ _ w => absurd w (nI_pos hp)) (fun n' p' c0' w ep hp' ec h1c h8c => ?_)
            · unfold cl
              simp [q5, q6]
            · obtain ⟨-, rfl⟩ := sx_RR z w
              have : p = p' := (nn p p' hp hp').mp ep
              subst this
              have : c0 = c0' := (nn c0 c0' (by omega) (by omega)).mp ec
              subst this
              have lst : ∀ s2, Fr (cl [62, 63, 64, 65] [(53, 14)]) s s2 → gi s2 53 14 = nI (n0 + J) → (∀ t, t < 4 → sB2 h k n0 p J s2 t) → Inv (i + 1) s2 := fun s2 f2 d3 B => by
                have f' : Fr (cl [6, 62, 63, 64, 65] [(5, 3), (53, 14)]) h s2 := (f.mono (fun x k q => cl_less1 q)).tr (f2.mono (fun x k q => cl_less2 q))
                exact ⟨r.1.ag (Fr.ag f' rfl), (r.2.1.up (Nat.le_succ i)).ag (Fr.ag f' rfl), rsAB r.2.2.1 c1 f' A (f2.i 5 3 rfl) (fun x => f2.i 6 x rfl) d3 B nJ go', r.2.2.2.1.ag (Fr.ag f' rfl), r.2.2.2.2.1.ag (Fr.ag f' rfl), r.2.2.2.2.2.1.ag (Fr.ag f' rfl), r.2.2.2.2.2.2.1.ag (Fr.ag f' rfl), (r.2.2.2.2.2.2.2.1.up (Nat.le_succ i)).ag (Fr.ag f' rfl), r.2.2.2.2.2.2.2.2.1.ag (Fr.ag f' rfl), r.2.2.2.2.2.2.2.2.2.1.ag (Fr.ag f' rfl), r.2.2.2.2.2.2.2.2.2.2.ag (Fr.ag f' rfl)⟩
              exact p_ss12 hk z hc8 (by rw [f.i 53 14 rfl]; exact d1) (f.i 87 k rfl) (fun j => f.l 88 j rfl) (fun t ht x => by rcases (show t = 0 ∨ t = 1 ∨ t = 2 ∨ t = 3 by omega) with rfl | rfl | rfl | rfl <;> exact f.i _ _ rfl) hn0 hp st go' (fun s2 f2 d3 B => ⟨fun q => ⟨by rw [ev, q], lst s2 f2 d3 B⟩, fun _ => ⟨ev, lst s2 f2 d3 B⟩⟩)
          exact p_ss11 hk z hc8 k8 k4 c1 hn0 hp st go' (fun s f A => ⟨fun q => fin s f A _ (by rw [q]), fun _ => fin s f A _ rfl⟩)
  · have := z.2.2
    rw [lt_i] at this
    rw [le_i]
    omega
