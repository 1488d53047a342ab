/-! PURE: keep, row, taken -/
theorem cl_sh : ∀ k, k < 6 → ∀ j, cl [41, 43, 45, 47, 49, 51, 86, 87, 42, 44, 46, 48, 50, 52, 88] [] (41 + 2 * k) j = true := by
  intro k hk j
  rcases (show k = 0 ∨ k = 1 ∨ k = 2 ∨ k = 3 ∨ k = 4 ∨ k = 5 by omega) with rfl | rfl | rfl | rfl | rfl | rfl <;> rfl
theorem cl_ro : ∀ k, k < 6 → ∀ j, cl [41, 43, 45, 47, 49, 51, 86, 87, 42, 44, 46, 48, 50, 52, 88] [] (42 + 2 * k) j = true := by
  intro k hk j
  rcases (show k = 0 ∨ k = 1 ∨ k = 2 ∨ k = 3 ∨ k = 4 ∨ k = 5 by omega) with rfl | rfl | rfl | rfl | rfl | rfl <;> rfl
theorem okH_keep {h : mH} {k : Nat} {x a y : Int32} (hk : k < 6) (rH : RH h) (z : (x = 0 ∧ y = -1) ∨ (x = 1 ∧ ∃ b, y = nI b ∧ a = nI b ∧ b < (gi h 53 49).toNatClampNeg)) : RH (si (si (si h (41 + 2 * k) 1 x) (41 + 2 * k) 2 a) 86 k y) := by
  refine RH.all.mpr (fun k2 hk2 => ?_)
  by_cases q : k2 = k
  · subst q
    unfold okH
    simp only [gi_si]
    rw [if_neg (by omega), if_neg (by omega), if_pos (by simp), if_pos (by simp)]
    rcases z with z | ⟨z1, b, z2, z3, z4⟩
    · exact Or.inl z
    · refine Or.inr (Or.inl ⟨z1, b, z2, ?_, ?_⟩)
      · rw [if_neg (by omega), if_pos (by simp)]; exact z3
      · rw [if_neg (by omega), if_neg (by omega), if_neg (by omega)]; exact z4
  · refine okH.to (h := h) (fun j => ?_) ?_ ?_ (fun _ => rfl) (fun _ _ => rfl) ?_ (RH.all.mp rH k2 hk2)
    · simp only [gi_si]
      rw [if_neg (by omega), if_neg (by omega), if_neg (by omega)]
    · simp only [gi_si]
      rw [if_neg (by omega), if_neg (by omega), if_neg (by omega)]
    · simp only [gi_si]
      rw [if_neg (by omega), if_neg (by omega), if_neg (by omega)]
    · simp only [gi_si]
      rw [if_neg (by omega), if_neg (by omega), if_neg (by omega)]
      exact Nat.le_refl _
theorem J_keep {i : Nat} {h : mH} (r : Inv i h) (a b : Int32) : w_X11_keep a b h (fun v h1 => w_X12_keep a b h1 (fun w h2 => v = w ∧ Inv (i + 1) h2)) := by
  have u := r.up
  have rH := r.2.2.2.2.2.2.2.2.2.2
  obtain ⟨n, hn, c1, d1, e1⟩ := r.2.2.2.2.2.2.2.2.1
  have hm1 : (-1 : Int32).toInt = -1 := rfl
  have h0 : (0 : Int32).toInt = 0 := rfl
  have hb : ∀ x : Int32, inR x 0 (nI n - 1) ↔ ∃ j, j < n ∧ x = nI j := by
    intro x
    have h11 : (1 : Int32).toInt = 1 := rfl
    rw [inR_i, sub_i (by rw [nI_toInt (by omega)]; omega) (by rw [nI_toInt (by omega)]; omega), nI_toInt (by omega), h0]
    constructor
    · intro q
      exact ⟨x.toInt.toNat, by omega, nI_of_i (by omega)⟩
    · rintro ⟨j, hj, rfl⟩
      rw [nI_toInt (by omega)]
      omega
  have p2 : ∀ {h1 : mH} {Q : Int32 → mH → Prop}, gi h1 53 49 = nI n → (∀ k, k < 6 → a = nI k → (b = -1 ∨ ∃ j, j < n ∧ b = nI j) → Q 1 (si h1 86 k b)) → (¬ (inR a 0 5 ∧ (b = -1 ∨ ∃ j, j < n ∧ b = nI j)) → Q (-1) h1) → w_X12_keep a b h1 Q := by
    intro h1 Q d2 g f
    unfold w_X12_keep w_X12_isBody
    rw [e_12_shelf]
    refine b0 (fun q => f (fun z => q z.1)) (fun ha => ?_)
    obtain ⟨k, hk, rfl, hc, hv⟩ := sh_k ha
    refine ⟨fun q => ⟨hv, fun h3 e3 => ?_⟩, fun q => ?_⟩
    · subst e3
      rw [hc]
      exact g k hk rfl (Or.inl q)
    · rw [d2, e_12_in]
      refine ⟨bi_01 _, b1 (fun q2 => ⟨hv, fun h6 e6 => ?_⟩) (fun q2 => f (fun z => ?_))⟩
      · subst e6
        rw [hc]
        exact g k hk rfl (Or.inr ((hb b).mp q2))
      · rcases z.2 with z2 | z2
        · exact q z2
        · exact q2 ((hb b).mpr z2)
  unfold w_X11_keep
  rw [e_11_shelf]
  refine b0 (fun q => p2 d1 (fun k hk e _ => absurd (by rw [e]; exact nI_inR (N := 5) (by omega) (by decide)) q) (fun _ => ⟨rfl, u⟩)) (fun ha => ?_)
  obtain ⟨k, hk, rfl, hc, hv⟩ := sh_k ha
  obtain ⟨r1, r2, r3⟩ := rf_sh k hk
  refine ⟨fun q => p2 d1 (fun _ _ _ z => ?_) (fun _ => ⟨rfl, u⟩), fun q => ⟨fun q2 => ⟨hv, fun r3' e3 x4 e4 h5 e5 h6 e6 => ?_⟩, fun q2 => p2 d1 (fun _ _ _ z => ?_) (fun _ => ⟨rfl, u⟩)⟩⟩
  · exfalso
    rw [lt_i, hm1] at q
    rcases z with rfl | ⟨j, hj, rfl⟩
    · omega
    · rw [nI_toInt (by omega)] at q; omega
  · subst e3
    subst e5
    subst e6
    rw [hc, r1]
    rw [lt_i, hm1] at q
    rw [c1, lt_i, nI_toInt (by omega)] at q2
    have hz : (x4 = 0 ∧ b = -1) ∨ (x4 = 1 ∧ ∃ j, b = nI j ∧ b = nI j ∧ j < (gi h 53 49).toNatClampNeg) := by
      by_cases q3 : 0 ≤ b
      · rw [if_pos q3] at e4
        rw [le_i, h0] at q3
        refine Or.inr ⟨e4, b.toInt.toNat, nI_of_i (by omega), nI_of_i (by omega), ?_⟩
        rw [d1, nI_clamp (by omega)]
        omega
      · rw [if_neg q3] at e4
        rw [le_i, h0] at q3
        refine Or.inl ⟨e4, ?_⟩
        rw [eq_i, hm1]
        omega
    have f : Fr (cl [41, 43, 45, 47, 49, 51, 86, 87, 42, 44, 46, 48, 50, 52, 88] []) h (si (si (si h (41 + 2 * k) 1 x4) (41 + 2 * k) 2 b) 86 k b) := (((Fr.rf _ h).si (cl_sh k hk _)).si (cl_sh k hk _)).si rfl
    have u2 : Inv (i + 1) (si (si (si h (41 + 2 * k) 1 x4) (41 + 2 * k) 2 b) 86 k b) := ⟨r.1.ag (Fr.ag f rfl), (r.2.1.up (Nat.le_succ i)).ag (Fr.ag f rfl), r.2.2.1.ag (Fr.ag f rfl), r.2.2.2.1.ag (Fr.ag f rfl), r.2.2.2.2.1.ag (Fr.ag f rfl), r.2.2.2.2.2.1.ag (Fr.ag f rfl), r.2.2.2.2.2.2.1.ag (Fr.ag f rfl), (r.2.2.2.2.2.2.2.1.up (Nat.le_succ i)).ag (Fr.ag f rfl), r.2.2.2.2.2.2.2.2.1.ag (Fr.ag f rfl), r.2.2.2.2.2.2.2.2.2.1.ag (Fr.ag f rfl), okH_keep hk rH hz⟩
    refine p2 (by simp only [gi_si]; rw [if_neg (by omega), if_neg (by omega)]; exact d1) (fun k2 hk2 e2 _ => ?_) (fun z => absurd ⟨ha, ?_⟩ z)
    · have := nIne hk hk2 e2
      subst this
      exact ⟨rfl, u2⟩
    · rcases hz with hz | ⟨-, j, hz1, -, hz2⟩
      · exact Or.inl hz.2
      · rw [d1, nI_clamp (by omega)] at hz2
        exact Or.inr ⟨j, hz2, hz1⟩
  · exfalso
    apply q2
    rw [c1, lt_i, nI_toInt (by omega)]
    rcases z with rfl | ⟨j, hj, rfl⟩
    · omega
    · rw [nI_toInt (by omega)]; omega
-- ===== row =====
/-- many longs become 0 -/
def zr (h : mH) (o k n : Nat) : mH := (h.1, fun a b => if a = o ∧ k ≤ b ∧ b < k + n then 0 else h.2 a b)
theorem gl_zr {h : mH} {o k n a b : Nat} : gl (zr h o k n) a b = if a = o ∧ k ≤ b ∧ b < k + n then 0 else gl h a b := rfl
theorem gi_zr {h : mH} {o k n a b : Nat} : gi (zr h o k n) a b = gi h a b := rfl
theorem zr_0 {h : mH} {o k : Nat} : zr h o k 0 = h := by
  unfold zr
  refine Prod.ext rfl ?_
  funext a b
  simp only
  rw [if_neg (by omega)]
theorem zr_s {h : mH} {o k n : Nat} : sl (zr h o k n) o (k + n) 0 = zr h o k (n + 1) := by
  unfold zr sl
  refine Prod.ext rfl ?_
  funext a b
  simp only
  by_cases q : a = o ∧ b = k + n
  · rw [if_pos q, if_pos (by omega)]
  · rw [if_neg q]
    by_cases q2 : a = o ∧ k ≤ b ∧ b < k + n
    · rw [if_pos q2, if_pos (by omega)]
    · rw [if_neg q2, if_neg (by omega)]
theorem p_row9 {h : mH} {k : Nat} (hk : k < 6) {K Q : mH → Prop} (g : K (zr h (42 + 2 * k) 0 60)) : ∃ n, w_X9_becomeRow_L17 K Q (41 + 2 * k) n 0 h := by
  obtain ⟨r1, r2, r3⟩ := rf_sh k hk
  refine loop_0 (σ := mH) (fun n i s => w_X9_becomeRow_L17 K Q (41 + 2 * k) n (nI i) s) (fun i s => s = zr h (42 + 2 * k) 0 i) 60 h zr_0.symm (fun n s e => ?_) (fun n i s hi e nx => ?_)
  · subst e
    exact ⟨fun _ => g, fun q => absurd (show (60 : Int32) ≤ nI 60 by decide) q⟩
  · subst e
    unfold w_X9_becomeRow_L17
    rw [show (60 : Int32) = nI 60 from rfl, nl 60 i (by decide) (by omega), r2, r3, nI_clamp (by omega), nI_1]
    refine ⟨fun q => by omega, fun _ => ⟨vp_nI hi (by decide), fun h4 e4 => ?_⟩⟩
    subst e4
    refine nx _ ?_
    have := zr_s (h := h) (o := 42 + 2 * k) (k := 0) (n := i)
    rw [Nat.zero_add] at this
    exact this
theorem p_row12 {h : mH} {k : Nat} (hk : k < 6) {K Q : _} {l1 : Int32} (hl : l1 = nI k) (g : K (zr h 88 (60 * k) 60)) : ∃ n, w_X12_row_L54 K Q l1 n (60 * l1) h := by
  subst hl
  have e0 : (60 : Int32) * nI k = nI (60 * k) := by rw [show (60 : Int32) = nI 60 from rfl, pk_mul]
  obtain ⟨n, hw⟩ := loop_0 (σ := mH) (fun n i s => w_X12_row_L54 K Q (nI k) n (nI (60 * k + i)) s) (fun i s => s = zr h 88 (60 * k) i) 60 h zr_0.symm (fun n s e => by
    subst e
    unfold w_X12_row_L54
    rw [e0, show (60 : Int32) = nI 60 from rfl, nI_add]
    exact ⟨fun _ => g, fun q => absurd ((nl (60 * k + 60) (60 * k + 60) (by omega) (by omega)).mpr (Nat.le_refl _)) q⟩) (fun n i s hi e nx => by
    subst e
    unfold w_X12_row_L54
    rw [e0, show (60 : Int32) = nI 60 from rfl, nI_add, nl (60 * k + 60) (60 * k + i) (by omega) (by omega), nI_clamp (by omega), nI_1]
    refine ⟨fun q => by omega, fun _ => ⟨vp_nI (by omega) (by decide), fun h4 e4 => ?_⟩⟩
    subst e4
    exact nx _ zr_s)
  refine ⟨n, ?_⟩
  rw [e0]
  exact hw
