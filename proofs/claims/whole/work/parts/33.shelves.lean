/-! PURE: shelves -/
theorem rf_sh : ∀ k, k < 6 → rf 40 k = 41 + 2 * k ∧ rf (41 + 2 * k) 0 = 42 + 2 * k ∧ lenOf (42 + 2 * k) = 60 := by decide
theorem sh_k {a : Int32} (ha : inR a 0 5) : ∃ k, k < 6 ∧ a = nI k ∧ a.toNatClampNeg = k ∧ vp_in a 6 := by
  obtain ⟨k, hk, rfl⟩ := inR_nI (N := 5) rfl (by decide) ha
  exact ⟨k, by omega, rfl, nI_clamp (by omega), vp_nI (by omega) (by decide)⟩
-- what a shelf holds
def sN (h : mH) (k : Nat) : Prop := gi h (41 + 2 * k) 1 = 0 ∧ gi h 86 k = -1
def sB (h : mH) (k b : Nat) : Prop := gi h (41 + 2 * k) 1 = 1 ∧ gi h 86 k = nI b ∧ gi h (41 + 2 * k) 2 = nI b ∧ b < (gi h 53 49).toNatClampNeg
def sR (h : mH) (k s n : Nat) : Prop := gi h (41 + 2 * k) 1 = 2 ∧ s ≤ 4 ∧ n ≤ 60 ∧ gi h (41 + 2 * k) 3 = nI s ∧ gi h 86 k = -2 - nI s ∧ gi h (41 + 2 * k) 4 = nI n ∧ gi h 87 k = nI n ∧ ∀ j, j < 60 → gl h (42 + 2 * k) j = gl h 88 (60 * k + j)
theorem okH.cs {h : mH} {k : Nat} (z : okH h k) : sN h k ∨ (∃ b, sB h k b) ∨ ∃ s n, sR h k s n := by
  rcases z with z | ⟨z1, b, z2, z3, z4⟩ | ⟨z1, s, n, z2⟩
  · exact Or.inl z
  · exact Or.inr (Or.inl ⟨b, z1, z2, z3, z4⟩)
  · exact Or.inr (Or.inr ⟨s, n, z1, z2⟩)
theorem RB.lt {h : mH} (r : RB h) {k b : Nat} (z : sB h k b) : b < 50 := by
  obtain ⟨n, hn, c1, d1, e1⟩ := r
  have := z.2.2.2
  rw [d1, nI_clamp (by omega)] at this
  omega
-- codes of kinds: -2 less the sort
theorem kd (s : Nat) (hs : s ≤ 4) : (-2 - nI s : Int32).toInt = -2 - (s : Int) := by
  rcases (show s = 0 ∨ s = 1 ∨ s = 2 ∨ s = 3 ∨ s = 4 by omega) with rfl | rfl | rfl | rfl | rfl <;> decide
theorem nI_m1 {b : Nat} (hb : b < 2 ^ 31) : ¬ nI b = -1 := by
  rw [eq_i, nI_toInt hb]
  have : (-1 : Int32).toInt = -1 := rfl
  omega
/-- the refusals of a place, class -/
theorem p_11_place {h : mH} (rH : RH h) {a i : Int32} {Q : Int32 → mH → Prop} (f1 : ¬ inR a 0 5 → Q (-1) h) (f2 : ∀ k, k < 6 → a = nI k → sN h k → Q (-11) h) (f3 : ∀ k b, k < 6 → a = nI k → sB h k b → Q (-12) h)
    (f4 : ∀ k s n, k < 6 → a = nI k → sR h k s n → (∀ j, j < n → ¬ i = nI j) → Q (-13) h) (g : ∀ k s n j, k < 6 → a = nI k → sR h k s n → j < n → i = nI j → Q 0 h) : w_X11_refusalOfPlace a i h Q := by
  unfold w_X11_refusalOfPlace w_X11_refusalOfRow
  rw [e_11_shelf]
  refine b1 (fun ha => ?_) (fun ha => ⟨fun z => absurd z (by decide), fun _ => f1 ha⟩)
  obtain ⟨k, hk, rfl, hc, hv⟩ := sh_k ha
  obtain ⟨r1, r2, r3⟩ := rf_sh k hk
  refine ⟨hv, fun r3' e3 x4 e4 => ?_⟩
  subst e4
  subst e3
  rw [hc, r1]
  rcases (RH.all.mp rH k hk).cs with z | ⟨b, z⟩ | ⟨s, n, z⟩
  · rw [z.1]
    exact ⟨fun q => absurd rfl q, fun _ => ⟨fun q => absurd q (by decide), fun _ => f2 k hk rfl z⟩⟩
  · rw [z.1]
    refine ⟨fun _ x5 e5 => ?_, fun q => absurd q (by decide)⟩
    subst e5
    rw [if_neg (by decide)]
    exact ⟨fun q => absurd q (by decide), fun _ => f3 k b hk rfl z⟩
  · rw [z.1]
    refine ⟨fun _ x5 e5 => ?_, fun q => absurd q (by decide)⟩
    subst e5
    rw [if_pos rfl]
    refine ⟨fun _ => ⟨hv, fun r3' e3 => ?_⟩, fun q => absurd rfl q⟩
    subst e3
    rw [z.2.2.2.2.2.1, e_11_one]
    intro x6 e6
    subst e6
    by_cases q : ¬ i < 0 ∧ i < nI n
    · obtain ⟨j, hj, rfl⟩ := nI_of q.1
      have q2 := q.2
      rw [nlt j n hj (by have := z.2.2.1; omega)] at q2
      rw [bi_1 q, if_neg (by decide)]
      exact g k s n j hk rfl z q2 rfl
    · rw [bi_0 q, if_pos rfl]
      refine f4 k s n hk rfl z (fun j hj e => q ?_)
      have := z.2.2.1
      rw [e]
      exact ⟨nI_pos (by omega), (nlt j n (by omega) (by omega)).mpr hj⟩
/-- .. and reference -/
theorem p_12_place {h h1 : mH} (rH : RH h) {a i : Int32} {Q : Int32 → mH → Prop} (f1 : ¬ inR a 0 5 → Q (-1) h1) (f2 : ∀ k, k < 6 → a = nI k → sN h k → Q (-11) h1) (f3 : ∀ k b, k < 6 → a = nI k → sB h k b → Q (-12) h1)
    (f4 : ∀ k s n, k < 6 → a = nI k → sR h k s n → (∀ j, j < n → ¬ i = nI j) → Q (-13) h1) (g : ∀ k s n j, k < 6 → a = nI k → sR h k s n → j < n → i = nI j → Q 0 h1) (hB : RB h) (e86 : ∀ k, gi h1 86 k = gi h 86 k := by exact fun _ => rfl) (e87 : ∀ k, gi h1 87 k = gi h 87 k := by exact fun _ => rfl) : w_X12_whyNoPlace a i h1 Q := by
  unfold w_X12_whyNoPlace
  rw [e_12_shelf]
  simp only [e86, e87]
  refine b1 (fun ha => ?_) f1
  obtain ⟨k, hk, rfl, hc, hv⟩ := sh_k ha
  rw [hc]
  refine ⟨hv, ?_⟩
  have h0 : (0 : Int32).toInt = 0 := rfl
  have hm1 : (-1 : Int32).toInt = -1 := rfl
  rcases (RH.all.mp rH k hk).cs with z | ⟨b, z⟩ | ⟨s, n, z⟩
  · rw [z.2]
    exact ⟨fun q => absurd rfl q, fun _ => f2 k hk rfl z⟩
  · have hb := hB.lt z
    rw [z.2.1]
    exact ⟨fun _ => ⟨hv, fun q => absurd q (nI_pos (by omega)), fun _ => f3 k b hk rfl z⟩, fun q => absurd q (nI_m1 (by omega))⟩
  · have ks := kd s z.2.1
    have hn60 := z.2.2.1
    rw [z.2.2.2.2.1, z.2.2.2.2.2.2.1]
    refine ⟨fun _ => ⟨hv, fun _ => ⟨hv, ?_⟩, fun q => ?_⟩, fun q => ?_⟩
    · rw [e_12_in]
      intro x5 e5
      subst e5
      have e9 : inR i 0 (nI n - 1) ↔ ∃ j, j < n ∧ i = nI j := by
        rw [inR_i, sub_i (by rw [nI_toInt (by omega)]; have : (1 : Int32).toInt = 1 := rfl; omega) (by rw [nI_toInt (by omega)]; have : (1 : Int32).toInt = 1 := rfl; omega), nI_toInt (by omega), h0]
        have h11 : (1 : Int32).toInt = 1 := rfl
        constructor
        · intro q
          exact ⟨i.toInt.toNat, by omega, nI_of_i (by omega)⟩
        · rintro ⟨j, hj, rfl⟩
          rw [nI_toInt (by omega)]
          omega
      by_cases q : inR i 0 (nI n - 1)
      · rw [bi_1 q, if_neg (by decide)]
        obtain ⟨j, hj, e⟩ := e9.mp q
        exact g k s n j hk rfl z hj e
      · rw [bi_0 q, if_pos rfl]
        exact f4 k s n hk rfl z (fun j hj e => q (e9.mpr ⟨j, hj, e⟩))
    · exfalso
      apply q
      rw [lt_i, ks, h0]
      omega
    · exfalso
      rw [eq_i, ks, hm1] at q
      omega
theorem nIne {k k2 : Nat} (hk : k < 6) (hk2 : k2 < 6) (e : nI k = nI k2) : k = k2 := (nn k k2 (by omega) (by omega)).mp e
theorem J_element {i : Nat} {h : mH} (r : Inv i h) (a b : Int32) : w_X11_element a b h (fun v h1 => w_X12_element a b h1 (fun w h2 => v = w ∧ Inv (i + 1) h2)) := by
  have u := r.up
  have rH := r.2.2.2.2.2.2.2.2.2.2
  have rB := r.2.2.2.2.2.2.2.2.1
  unfold w_X11_element w_X12_element
  refine p_11_place rH (fun ha => ⟨fun z => absurd z (by decide), fun _ => ?_⟩) (fun k hk e z => ⟨fun z => absurd z (by decide), fun _ => ?_⟩) (fun k b hk e z => ⟨fun z => absurd z (by decide), fun _ => ?_⟩) (fun k s n hk e z hj => ⟨fun z => absurd z (by decide), fun _ => ?_⟩) (fun k s n j hk e z hj ei => ⟨fun _ => ?_, fun z => absurd rfl z⟩)
  · exact p_12_place rH (fun _ => ⟨fun q => absurd q (by decide), fun _ => ⟨rfl, u⟩⟩) (fun _ _ _ _ => ⟨fun q => absurd q (by decide), fun _ => ⟨rfl, u⟩⟩) (fun _ _ _ _ _ => ⟨fun q => absurd q (by decide), fun _ => ⟨rfl, u⟩⟩) (fun _ _ _ _ _ _ _ => ⟨fun q => absurd q (by decide), fun _ => ⟨rfl, u⟩⟩) (fun k s n j hk e z hj ei => absurd (by rw [e]; exact nI_inR (N := 5) (by omega) (by decide)) ha) rB
  · exact p_12_place rH (fun _ => ⟨fun q => absurd q (by decide), fun _ => ⟨rfl, u⟩⟩) (fun _ _ _ _ => ⟨fun q => absurd q (by decide), fun _ => ⟨rfl, u⟩⟩) (fun _ _ _ _ _ => ⟨fun q => absurd q (by decide), fun _ => ⟨rfl, u⟩⟩) (fun _ _ _ _ _ _ _ => ⟨fun q => absurd q (by decide), fun _ => ⟨rfl, u⟩⟩) (fun k2 s n j hk2 e2 z2 hj ei => by
      have := nIne hk hk2 (e.symm.trans e2)
      subst this
      exact absurd (z.1.symm.trans z2.1) (by decide)) rB
  · exact p_12_place rH (fun _ => ⟨fun q => absurd q (by decide), fun _ => ⟨rfl, u⟩⟩) (fun _ _ _ _ => ⟨fun q => absurd q (by decide), fun _ => ⟨rfl, u⟩⟩) (fun _ _ _ _ _ => ⟨fun q => absurd q (by decide), fun _ => ⟨rfl, u⟩⟩) (fun _ _ _ _ _ _ _ => ⟨fun q => absurd q (by decide), fun _ => ⟨rfl, u⟩⟩) (fun k2 s n j hk2 e2 z2 hj ei => by
      have := nIne hk hk2 (e.symm.trans e2)
      subst this
      exact absurd (z.1.symm.trans z2.1) (by decide)) rB
  · exact p_12_place rH (fun _ => ⟨fun q => absurd q (by decide), fun _ => ⟨rfl, u⟩⟩) (fun _ _ _ _ => ⟨fun q => absurd q (by decide), fun _ => ⟨rfl, u⟩⟩) (fun _ _ _ _ _ => ⟨fun q => absurd q (by decide), fun _ => ⟨rfl, u⟩⟩) (fun _ _ _ _ _ _ _ => ⟨fun q => absurd q (by decide), fun _ => ⟨rfl, u⟩⟩) (fun k2 s2 n2 j hk2 e2 z2 hj2 ei => by
      have := nIne hk hk2 (e.symm.trans e2)
      subst this
      have h9 := z.2.2.1
      have h8 := z2.2.2.1
      have : n = n2 := (nn n n2 (by omega) (by omega)).mp (z.2.2.2.2.2.2.1.symm.trans z2.2.2.2.2.2.2.1)
      subst this
      exact absurd ei (hj j hj2)) rB
  · obtain ⟨r1, r2, r3⟩ := rf_sh k hk
    have h60 := z.2.2.1
    subst e
    subst ei
    refine ⟨vp_nI (by omega) (by decide), fun r3' e3 => ?_⟩
    subst e3
    rw [nI_clamp (by omega), r1, r2, r3, nI_clamp (by omega)]
    refine ⟨vp_nI (by omega) (by decide), ?_⟩
    have ev : gl h (42 + 2 * k) j = gl h 88 (60 * k + j) := z.2.2.2.2.2.2.2 j (by omega)
    refine p_12_place rH (fun q => absurd (nI_inR (N := 5) (by omega) (by decide)) q) (fun k2 hk2 e2 z2 => ?_) (fun k2 b hk2 e2 z2 => ?_) (fun k2 s2 n2 hk2 e2 z2 hj2 => ?_) (fun k2 s2 n2 j2 hk2 e2 z2 hj2 ei2 => ⟨fun _ => ?_, fun q => absurd (show (0 : Int32) ≤ 0 by decide) q⟩) rB
    · have := nIne hk hk2 e2
      subst this
      exact absurd (z.1.symm.trans z2.1) (by decide)
    · have := nIne hk hk2 e2
      subst this
      exact absurd (z.1.symm.trans z2.1) (by decide)
    · have := nIne hk hk2 e2
      subst this
      have h8 := z2.2.2.1
      have : n = n2 := (nn n n2 (by omega) (by omega)).mp (z.2.2.2.2.2.2.1.symm.trans z2.2.2.2.2.2.2.1)
      subst this
      exact absurd rfl (hj2 j hj)
    · rw [show (60 : Int32) = nI 60 from rfl, pk_mul, nI_add, nI_clamp (by omega)]
      exact ⟨vp_nI (by omega) (by decide), ev, u⟩

-- ===== put: what the row keeps =====
def kep (s : Nat) (v : Int64) : Int64 := if s = 0 then ((v.toInt32).toInt8.toInt32).toInt64 else if s = 1 then ((v.toInt32).toInt16.toInt32).toInt64 else if s = 2 then (v.toInt32).toInt64 else if s = 3 then v else if lg_cmp v 0 = 0 then 0 else 1
theorem e_kept {h : mH} {o s : Nat} (hs : s ≤ 4) (h3 : gi h o 3 = nI s) (v : Int64) (Q : Int64 → mH → Prop) (K : Q (kep s v) h) : w_X9_keptOf o v h Q := by
  unfold w_X9_keptOf
  intro x1 e1
  subst e1
  rw [h3]
  rcases (show s = 0 ∨ s = 1 ∨ s = 2 ∨ s = 3 ∨ s = 4 by omega) with rfl | rfl | rfl | rfl | rfl
  · exact ⟨fun _ => K, fun q => absurd q (by decide), fun q => absurd q (by decide), fun q => absurd q (by decide), fun q => absurd rfl (q 0 (by decide))⟩
  · exact ⟨fun q => absurd q (by decide), fun _ => K, fun q => absurd q (by decide), fun q => absurd q (by decide), fun q => absurd rfl (q 1 (by decide))⟩
  · exact ⟨fun q => absurd q (by decide), fun q => absurd q (by decide), fun _ => K, fun q => absurd q (by decide), fun q => absurd rfl (q 2 (by decide))⟩
  · exact ⟨fun q => absurd q (by decide), fun q => absurd q (by decide), fun q => absurd q (by decide), fun _ => K, fun q => absurd rfl (q 3 (by decide))⟩
  · exact ⟨fun q => absurd q (by decide), fun q => absurd q (by decide), fun q => absurd q (by decide), fun q => absurd q (by decide), fun _ x e => by subst e; exact K⟩
/-- a row's element becomes another, in class and reference -/
theorem okH_put {h : mH} {k s n j : Nat} {v : Int64} (hk : k < 6) (hj : j < n) (z : sR h k s n) (rH : RH h) : RH (sl (sl h (42 + 2 * k) j v) 88 (60 * k + j) v) := by
  refine RH.all.mpr (fun k2 hk2 => ?_)
  by_cases q : k2 = k
  · subst q
    refine Or.inr (Or.inr ⟨z.1, s, n, z.2.1, z.2.2.1, z.2.2.2.1, z.2.2.2.2.1, z.2.2.2.2.2.1, z.2.2.2.2.2.2.1, fun j2 hj2 => ?_⟩)
    have e := z.2.2.2.2.2.2.2 j2 hj2
    simp only [gl_sl]
    by_cases q2 : j2 = j
    · subst q2
      rw [if_neg (by omega), if_pos (by simp), if_pos (by simp)]
    · rw [if_neg (by omega), if_neg (by omega), if_neg (by omega), if_neg (by omega)]
      exact e
  · refine okH.to (h := h) (fun _ => rfl) rfl rfl (fun j2 => ?_) (fun j2 hj2 => ?_) (Nat.le_refl _) (RH.all.mp rH k2 hk2)
    · simp only [gl_sl]
      rw [if_neg (by omega), if_neg (by omega)]
    · have := z.2.2.1
      simp only [gl_sl]
      rw [if_neg (by omega), if_neg (by omega)]
theorem cl_row : ∀ k, k < 6 → ∀ j, cl [42, 44, 46, 48, 50, 52, 88] [] (42 + 2 * k) j = true := by
  intro k hk j
  rcases (show k = 0 ∨ k = 1 ∨ k = 2 ∨ k = 3 ∨ k = 4 ∨ k = 5 by omega) with rfl | rfl | rfl | rfl | rfl | rfl <;> rfl

/-- no two readings of one shelf -/
theorem sx_NB {h : mH} {k b : Nat} (z : sN h k) (z2 : sB h k b) : False := absurd (z.1.symm.trans z2.1) (by decide)
theorem sx_NR {h : mH} {k s n : Nat} (z : sN h k) (z2 : sR h k s n) : False := absurd (z.1.symm.trans z2.1) (by decide)
theorem sx_BR {h : mH} {k b s n : Nat} (z : sB h k b) (z2 : sR h k s n) : False := absurd (z.1.symm.trans z2.1) (by decide)
theorem sx_RR {h : mH} {k s n s2 n2 : Nat} (z : sR h k s n) (z2 : sR h k s2 n2) : s = s2 ∧ n = n2 := by
  have a1 := z.2.1
  have a2 := z2.2.1
  have a3 := z.2.2.1
  have a4 := z2.2.2.1
  exact ⟨(nn s s2 (by omega) (by omega)).mp (z.2.2.2.1.symm.trans z2.2.2.2.1), (nn n n2 (by omega) (by omega)).mp (z.2.2.2.2.2.2.1.symm.trans z2.2.2.2.2.2.2.1)⟩

theorem J_put {i : Nat} {h : mH} (r : Inv i h) (a b : Int32) (v : Int64) : w_X11_put a b v h (fun v' h1 => w_X12_put a b v h1 (fun w h2 => v' = w ∧ Inv (i + 1) h2)) := by
  have u := r.up
  have rH := r.2.2.2.2.2.2.2.2.2.2
  have rB := r.2.2.2.2.2.2.2.2.1
  unfold w_X11_put w_X12_put
  refine p_11_place rH (fun ha => ⟨fun z => absurd z (by decide), fun _ => ?_⟩) (fun k hk e z => ⟨fun z => absurd z (by decide), fun _ => ?_⟩) (fun k b hk e z => ⟨fun z => absurd z (by decide), fun _ => ?_⟩) (fun k s n hk e z hj => ⟨fun z => absurd z (by decide), fun _ => ?_⟩) (fun k s n j hk e z hj ei => ⟨fun _ => ?_, fun z => absurd rfl z⟩)
  · exact p_12_place rH (fun _ => ⟨fun q => absurd q (by decide), fun _ => ⟨rfl, u⟩⟩) (fun k hk e z => absurd (by rw [e]; exact nI_inR (N := 5) (by omega) (by decide)) ha) (fun k b hk e z => absurd (by rw [e]; exact nI_inR (N := 5) (by omega) (by decide)) ha) (fun k s n hk e z hj => absurd (by rw [e]; exact nI_inR (N := 5) (by omega) (by decide)) ha) (fun k s n j hk e z hj ei => absurd (by rw [e]; exact nI_inR (N := 5) (by omega) (by decide)) ha) rB
  · subst e
    exact p_12_place rH (fun q => absurd (nI_inR (N := 5) (by omega) (by decide)) q) (fun k2 hk2 e2 z2 => ⟨fun q => absurd q (by decide), fun _ => ⟨rfl, u⟩⟩) (fun k2 b hk2 e2 z2 => by have := nIne hk hk2 e2; subst this; exact (sx_NB z z2).elim) (fun k2 s n hk2 e2 z2 hj => by have := nIne hk hk2 e2; subst this; exact (sx_NR z z2).elim) (fun k2 s n j hk2 e2 z2 hj ei => by have := nIne hk hk2 e2; subst this; exact (sx_NR z z2).elim) rB
  · subst e
    exact p_12_place rH (fun q => absurd (nI_inR (N := 5) (by omega) (by decide)) q) (fun k2 hk2 e2 z2 => by have := nIne hk hk2 e2; subst this; exact (sx_NB z2 z).elim) (fun k2 b hk2 e2 z2 => ⟨fun q => absurd q (by decide), fun _ => ⟨rfl, u⟩⟩) (fun k2 s n hk2 e2 z2 hj => by have := nIne hk hk2 e2; subst this; exact (sx_BR z z2).elim) (fun k2 s n j hk2 e2 z2 hj ei => by have := nIne hk hk2 e2; subst this; exact (sx_BR z z2).elim) rB
  · subst e
    exact p_12_place rH (fun q => absurd (nI_inR (N := 5) (by omega) (by decide)) q) (fun k2 hk2 e2 z2 => by have := nIne hk hk2 e2; subst this; exact (sx_NR z2 z).elim) (fun k2 b hk2 e2 z2 => by have := nIne hk hk2 e2; subst this; exact (sx_BR z2 z).elim) (fun k2 s n hk2 e2 z2 hj => ⟨fun q => absurd q (by decide), fun _ => ⟨rfl, u⟩⟩) (fun k2 s2 n2 j hk2 e2 z2 hj2 ei => by
      have := nIne hk hk2 e2
      subst this
      obtain ⟨-, rfl⟩ := sx_RR z z2
      exact absurd ei (hj j hj2)) rB
  · obtain ⟨r1, r2, r3⟩ := rf_sh k hk
    have h60 := z.2.2.1
    subst e
    subst ei
    have hv : vp_in (nI k) 6 := vp_nI hk (by decide)
    refine ⟨hv, fun r3' e3 => ⟨hv, fun r4' e4 => ?_⟩⟩
    subst e3
    subst e4
    rw [nI_clamp (by omega), r1, r2, r3, nI_clamp (by omega)]
    refine e_kept z.2.1 z.2.2.2.1 v _ ⟨vp_nI (by omega) (by decide), ?_⟩
    intro h7 e7
    subst e7
    have f : Fr (cl [42, 44, 46, 48, 50, 52, 88] []) h (sl (sl h (42 + 2 * k) j (kep s v)) 88 (60 * k + j) (kep s v)) := ((Fr.rf _ h).sl (cl_row k hk j)).sl rfl
    have u2 : Inv (i + 1) (sl (sl h (42 + 2 * k) j (kep s v)) 88 (60 * k + j) (kep s v)) := ⟨r.1.ag (Fr.ag f rfl), (r.2.1.up (Nat.le_succ i)).ag (Fr.ag f rfl), r.2.2.1.ag (Fr.ag f rfl), r.2.2.2.1.ag (Fr.ag f rfl), r.2.2.2.2.1.ag (Fr.ag f rfl), r.2.2.2.2.2.1.ag (Fr.ag f rfl), r.2.2.2.2.2.2.1.ag (Fr.ag f rfl), (r.2.2.2.2.2.2.2.1.up (Nat.le_succ i)).ag (Fr.ag f rfl), r.2.2.2.2.2.2.2.2.1.ag (Fr.ag f rfl), r.2.2.2.2.2.2.2.2.2.1.ag (Fr.ag f rfl), okH_put hk hj z rH⟩
    have hv2 : vp_in (nI (60 * k + j)) 360 := vp_nI (by omega) (by decide)
    have hc2 : (nI (60 * k + j)).toNatClampNeg = 60 * k + j := nI_clamp (by omega)
    refine p_12_place rH (fun q => absurd (nI_inR (N := 5) (by omega) (by decide)) q) (fun k2 hk2 e2 z2 => by have := nIne hk hk2 e2; subst this; exact (sx_NR z2 z).elim) (fun k2 b hk2 e2 z2 => by have := nIne hk hk2 e2; subst this; exact (sx_BR z2 z).elim) (fun k2 s2 n2 hk2 e2 z2 hj2 => by
      have := nIne hk hk2 e2
      subst this
      obtain ⟨-, rfl⟩ := sx_RR z z2
      exact absurd rfl (hj2 j hj)) (fun k2 s2 n2 j2 hk2 e2 z2 hj2 ei2 => ⟨fun _ => ⟨hv, fun x3 e3 => ?_⟩, fun q => absurd (show (0 : Int32) ≤ 0 by decide) q⟩) rB
    have ex : x3 = nI s := by
      subst e3
      rw [show gi (sl h (42 + 2 * k) j (kep s v)) 86 k = -2 - nI s from z.2.2.2.2.1]
      rcases (show s = 0 ∨ s = 1 ∨ s = 2 ∨ s = 3 ∨ s = 4 by have := z.2.1; omega) with rfl | rfl | rfl | rfl | rfl <;> decide
    rw [ex, show (60 : Int32) = nI 60 from rfl, pk_mul, nI_add, hc2]
    have fin : vp_in (nI (60 * k + j)) 360 ∧ ∀ h5 : mH, h5 = sl (sl h (42 + 2 * k) j (kep s v)) 88 (60 * k + j) (kep s v) → (1 : Int32) = 1 ∧ Inv (i + 1) h5 := ⟨hv2, fun h5 e5 => by subst e5; exact ⟨rfl, u2⟩⟩
    rcases (show s = 0 ∨ s = 1 ∨ s = 2 ∨ s = 3 ∨ s = 4 by have := z.2.1; omega) with rfl | rfl | rfl | rfl | rfl
    · exact ⟨fun q => absurd rfl q, fun _ => fin⟩
    · exact ⟨fun _ => ⟨fun q => absurd rfl q, fun _ => fin⟩, fun q => absurd q (by decide)⟩
    · exact ⟨fun _ => ⟨fun _ => ⟨fun q => absurd rfl q, fun _ => fin⟩, fun q => absurd q (by decide)⟩, fun q => absurd q (by decide)⟩
    · exact ⟨fun _ => ⟨fun _ => ⟨fun _ => ⟨fun q => absurd rfl q, fun _ => fin⟩, fun q => absurd q (by decide)⟩, fun q => absurd q (by decide)⟩, fun q => absurd q (by decide)⟩
    · exact ⟨fun _ => ⟨fun _ => ⟨fun _ => ⟨fun _ x4 e4 => by subst e4; exact fin, fun q => absurd q (by decide)⟩, fun q => absurd q (by decide)⟩, fun q => absurd q (by decide)⟩, fun q => absurd q (by decide)⟩
