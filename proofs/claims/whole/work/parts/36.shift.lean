/-! PURE: shift -/
theorem gl_cpl {h : mH} {o q sp dp n a b : Nat} : gl (cpl h o q sp dp n) a b = if a = q ∧ dp ≤ b ∧ b < dp + n then gl h o (sp + (b - dp)) else gl h a b := by
  unfold gl cpl va_cpy
  simp only
  by_cases q1 : a = q
  · subst q1
    simp
  · rw [if_neg q1, if_neg (fun z => q1 z.1)]
theorem p_sh1 {h : mH} {k p m : Nat} {K Q : _} {l1 l2 l3 l4 l5 : Int32} (h1 : l1 = nI k) (h2 : l2 = nI p) (h5 : l5 = nI m) (hk : k < 6) (hpm : p + m ≤ 60) (g : ∀ s, (∀ a b, gi s a b = gi h a b) → (∀ a b, ¬ a = 89 → gl s a b = gl h a b) → (∀ j, j < m → gl s 89 j = gl h 88 (60 * k + p + j)) → K s) : ∃ n, w_X12_shift_L113 K Q l1 l2 l3 l4 l5 n 0 h := by
  subst h1
  subst h2
  subst h5
  refine loop_0 (σ := mH) (fun n i s => w_X12_shift_L113 K Q (nI k) (nI p) l3 l4 (nI m) n (nI i) s) (fun i s => (∀ a b, gi s a b = gi h a b) ∧ (∀ a b, ¬ a = 89 → gl s a b = gl h a b) ∧ (∀ j, j < i → gl s 89 j = gl h 88 (60 * k + p + j))) m h ⟨fun _ _ => rfl, fun _ _ _ => rfl, fun j hj => absurd hj (Nat.not_lt_zero j)⟩ (fun n s e => ?_) (fun n i s hi e nx => ?_)
  · exact ⟨fun _ => g s e.1 e.2.1 e.2.2, fun q => absurd ((nl m m (by omega) (by omega)).mpr (Nat.le_refl m)) q⟩
  · unfold w_X12_shift_L113
    rw [nl m i (by omega) (by omega), show (60 : Int32) = nI 60 from rfl, pk_mul, nI_add, nI_add, nI_clamp (by omega), nI_clamp (by omega), nI_1]
    refine ⟨fun q => by omega, fun _ => ⟨vp_nI (by omega) (by decide), vp_nI (by omega) (by decide), fun h5 e5 => ?_⟩⟩
    subst e5
    refine nx _ ⟨e.1, fun a b hab => ?_, fun j hj => ?_⟩
    · rw [gl_sl, if_neg (fun z => hab z.1)]
      exact e.2.1 a b hab
    · rw [gl_sl]
      by_cases q : j = i
      · subst q
        rw [if_pos ⟨rfl, rfl⟩]
        exact e.2.1 88 _ (by decide)
      · rw [if_neg (fun z => q z.2)]
        exact e.2.2 j (by omega)
theorem p_sh2 {h : mH} {k p m : Nat} {K Q : _} {l3 l4 l5 : Int32} (h1 : l3 = nI k) (h2 : l4 = nI p) (h5 : l5 = nI m) (hk : k < 6) (hpm : p + m ≤ 60) (g : ∀ s, (∀ a b, gi s a b = gi h a b) → (∀ a b, ¬ a = 88 → gl s a b = gl h a b) → (∀ b, gl s 88 b = if 60 * k + p ≤ b ∧ b < 60 * k + p + m then gl h 89 (b - (60 * k + p)) else gl h 88 b) → K s) : ∃ n, w_X12_shift_L150 K Q l3 l4 l5 n 0 h := by
  subst h1
  subst h2
  subst h5
  refine loop_0 (σ := mH) (fun n i s => w_X12_shift_L150 K Q (nI k) (nI p) (nI m) n (nI i) s) (fun i s => (∀ a b, gi s a b = gi h a b) ∧ (∀ a b, ¬ a = 88 → gl s a b = gl h a b) ∧ (∀ b, gl s 88 b = if 60 * k + p ≤ b ∧ b < 60 * k + p + i then gl h 89 (b - (60 * k + p)) else gl h 88 b)) m h ⟨fun _ _ => rfl, fun _ _ _ => rfl, fun b => by rw [if_neg (by omega)]⟩ (fun n s e => ?_) (fun n i s hi e nx => ?_)
  · exact ⟨fun _ => g s e.1 e.2.1 e.2.2, fun q => absurd ((nl m m (by omega) (by omega)).mpr (Nat.le_refl m)) q⟩
  · unfold w_X12_shift_L150
    rw [nl m i (by omega) (by omega), show (60 : Int32) = nI 60 from rfl, pk_mul, nI_add, nI_add, nI_clamp (by omega), nI_clamp (by omega), nI_1]
    refine ⟨fun q => by omega, fun _ => ⟨vp_nI (by omega) (by decide), vp_nI (by omega) (by decide), fun h5 e5 => ?_⟩⟩
    subst e5
    refine nx _ ⟨e.1, fun a b hab => ?_, fun b => ?_⟩
    · rw [gl_sl, if_neg (fun z => hab z.1)]
      exact e.2.1 a b hab
    · rw [gl_sl]
      by_cases q : b = 60 * k + p + i
      · subst q
        rw [if_pos ⟨rfl, rfl⟩, if_pos (by omega), e.2.1 89 _ (by decide), show 60 * k + p + i - (60 * k + p) = i by omega]
      · rw [if_neg (fun z => q z.2), e.2.2 b]
        by_cases q2 : 60 * k + p ≤ b ∧ b < 60 * k + p + i
        · rw [if_pos q2, if_pos (by omega)]
        · rw [if_neg q2, if_neg (by omega)]
/-- a shift of elements keeps the shelves together -/
theorem okH_shift {h s : mH} {k k2 t n n2 p q m : Nat} (hk : k < 6) (hk2 : k2 < 6) (z : sR h k t n) (z2 : sR h k2 t n2) (hp : p + m ≤ n) (hq : q + m ≤ n2) (rH : RH h)
    (e1 : ∀ a b, gi s a b = gi h a b) (e2 : ∀ a b, ¬ a = 88 → ¬ a = 89 → gl s a b = gl (cpl h (42 + 2 * k) (42 + 2 * k2) p q m) a b) (e3 : ∀ b, gl s 88 b = if 60 * k2 + q ≤ b ∧ b < 60 * k2 + q + m then gl h 88 (60 * k + p + (b - (60 * k2 + q))) else gl h 88 b) : RH s := by
  have n60 := z.2.2.1
  have n60' := z2.2.2.1
  refine RH.all.mpr (fun k3 hk3 => ?_)
  by_cases w : k3 = k2
  · subst w
    refine Or.inr (Or.inr ⟨by rw [e1]; exact z2.1, t, n2, z2.2.1, z2.2.2.1, by rw [e1]; exact z2.2.2.2.1, by rw [e1]; exact z2.2.2.2.2.1, by rw [e1]; exact z2.2.2.2.2.2.1, by rw [e1]; exact z2.2.2.2.2.2.2.1, fun j hj => ?_⟩)
    rw [e2 _ _ (by omega) (by omega), e3, gl_cpl]
    by_cases w2 : q ≤ j ∧ j < q + m
    · rw [if_pos ⟨rfl, w2⟩, if_pos (by omega), z.2.2.2.2.2.2.2 _ (by omega)]
      congr 1
      omega
    · rw [if_neg (by omega), if_neg (by omega)]
      exact z2.2.2.2.2.2.2.2 j hj
  · refine okH.to (h := h) (fun _ => e1 _ _) (e1 _ _) (e1 _ _) (fun j => ?_) (fun j hj => ?_) (by rw [e1]; exact Nat.le_refl _) (RH.all.mp rH k3 hk3)
    · rw [e2 _ _ (by omega) (by omega), gl_cpl, if_neg (by omega)]
    · rw [e3, if_neg (by omega)]
theorem kin {a : Int32} {k : Nat} (hk : k < 6) (e : a = nI k) : inR a 0 5 := by
  rw [e]
  exact nI_inR (N := 5) (by omega) (by decide)
theorem cl_r89 : ∀ k, k < 6 → ∀ j, cl [42, 44, 46, 48, 50, 52, 88, 89] [] (42 + 2 * k) j = true := by
  intro k hk j
  rcases (show k = 0 ∨ k = 1 ∨ k = 2 ∨ k = 3 ∨ k = 4 ∨ k = 5 by omega) with rfl | rfl | rfl | rfl | rfl | rfl <;> rfl
theorem J_shift {i : Nat} {h : mH} (r : Inv i h) (a b c d e : Int32) : w_X11_shift a b c d e h (fun v h1 => w_X12_shift a b c d e h1 (fun w h2 => v = w ∧ Inv (i + 1) h2)) := by
  have u := r.up
  have rH := r.2.2.2.2.2.2.2.2.2.2
  have rB := r.2.2.2.2.2.2.2.2.1
  have h0 : (0 : Int32).toInt = 0 := rfl
  have hm1 : (-1 : Int32).toInt = -1 := rfl
  -- when places and number are right
  have hp : ∀ (n : Nat), n ≤ 60 → (¬ e < 0 → ¬ b < 0 → (¬ nI n - e < b ↔ ∃ p m, b = nI p ∧ e = nI m ∧ p + m ≤ n)) := by
    intro n hn g1 g2
    obtain ⟨m, hm, rfl⟩ := nI_of g1
    obtain ⟨p, hp, rfl⟩ := nI_of g2
    rw [lt_i, sub_i (by rw [nI_toInt (by omega), nI_toInt (by omega)]; omega) (by rw [nI_toInt (by omega), nI_toInt (by omega)]; omega), nI_toInt (by omega), nI_toInt (by omega), nI_toInt (by omega)]
    constructor
    · intro q
      exact ⟨p, m, rfl, rfl, by omega⟩
    · rintro ⟨p2, m2, e1, e2, q⟩
      have a1 := (nn p p2 (by omega) (by omega)).mp e1
      have a2 := (nn m m2 (by omega) (by omega)).mp e2
      omega
  have hq : ∀ (n : Nat), n ≤ 60 → (¬ e < 0 → ¬ d < 0 → (d ≤ nI n - e ↔ ∃ p m, d = nI p ∧ e = nI m ∧ p + m ≤ n)) := by
    intro n hn g1 g2
    obtain ⟨m, hm, rfl⟩ := nI_of g1
    obtain ⟨p, hp, rfl⟩ := nI_of g2
    rw [le_i, sub_i (by rw [nI_toInt (by omega), nI_toInt (by omega)]; omega) (by rw [nI_toInt (by omega), nI_toInt (by omega)]; omega), nI_toInt (by omega), nI_toInt (by omega), nI_toInt (by omega)]
    constructor
    · intro q
      exact ⟨p, m, rfl, rfl, by omega⟩
    · rintro ⟨p2, m2, e1, e2, q⟩
      have a1 := (nn p p2 (by omega) (by omega)).mp e1
      have a2 := (nn m m2 (by omega) (by omega)).mp e2
      omega
  -- the reference, over contents with the same ints
  have p2 : ∀ {h1 : mH} {Q : Int32 → mH → Prop}, (∀ x y, gi h1 x y = gi h x y) → (¬ (inR a 0 5 ∧ inR c 0 5) → Q (-1) h1) →
      (∀ k k2, k < 6 → k2 < 6 → a = nI k → c = nI k2 → (sN h k ∨ sN h k2) → Q (-11) h1) → (∀ k k2, k < 6 → k2 < 6 → a = nI k → c = nI k2 → ¬ (sN h k ∨ sN h k2) → (∀ t n n2, sR h k t n → ¬ sR h k2 t n2) → Q (-12) h1) →
      (∀ k k2 t n n2, k < 6 → k2 < 6 → a = nI k → c = nI k2 → sR h k t n → sR h k2 t n2 → (¬ e < 0 → ¬ b < 0 → ¬ d < 0 → (¬ ∃ p m, b = nI p ∧ e = nI m ∧ p + m ≤ n) ∨ (¬ ∃ p m, d = nI p ∧ e = nI m ∧ p + m ≤ n2)) → Q (-13) h1) →
      (∀ k k2 t n n2 p q m, k < 6 → k2 < 6 → a = nI k → c = nI k2 → sR h k t n → sR h k2 t n2 → b = nI p → d = nI q → e = nI m → p + m ≤ n → q + m ≤ n2 → ∀ s, (∀ x y, gi s x y = gi h x y) → (∀ x y, ¬ x = 88 → ¬ x = 89 → gl s x y = gl h1 x y) → (∀ y, gl s 88 y = if 60 * k2 + q ≤ y ∧ y < 60 * k2 + q + m then gl h1 88 (60 * k + p + (y - (60 * k2 + q))) else gl h1 88 y) → Q e s) → w_X12_shift a b c d e h1 Q := by
    intro h1 Q eg f1 f2 f3 f4 g
    unfold w_X12_shift
    rw [e_12_shelf]
    refine b0 (fun q => f1 (fun z => q z.1)) (fun ha => ?_)
    rw [e_12_shelf]
    refine b1 (fun hc => ?_) (fun q => f1 (fun z => q z.2))
    obtain ⟨k, hk, rfl, hck, hv⟩ := sh_k ha
    obtain ⟨k2, hk2, rfl, hck2, hv2⟩ := sh_k hc
    simp only [eg, hck, hck2]
    refine ⟨hv, ?_⟩
    rcases (RH.all.mp rH k hk).cs with z | ⟨x, z⟩ | ⟨t, n, z⟩
    · rw [z.2]
      exact ⟨fun _ => f2 k k2 hk hk2 rfl rfl (Or.inl z), fun q => absurd rfl q⟩
    · have hb := rB.lt z
      rw [z.2.1]
      refine ⟨fun q => absurd q (nI_m1 (by omega)), fun _ => ⟨hv2, ⟨fun q => ⟨hv, fun _ => f3 k k2 hk hk2 rfl rfl (fun w => ?_) (fun t n n2 w => (sx_BR z w).elim), fun q2 => absurd (by rw [le_i, nI_toInt (by omega), h0]; omega) q2⟩, fun q => ?_⟩⟩⟩
      · rcases w with w | w
        · exact sx_NB w z
        · exact q w.2
      · rcases (RH.all.mp rH k2 hk2).cs with z2 | ⟨y, z2⟩ | ⟨t2, n2, z2⟩
        · exact f2 k k2 hk hk2 rfl rfl (Or.inr z2)
        · have hb2 := rB.lt z2
          exact absurd (z2.2.1.symm.trans q) (nI_m1 (by omega))
        · have ks := kd t2 z2.2.1
          rw [z2.2.2.2.2.1, eq_i, ks, hm1] at q
          omega
    · have ks := kd t z.2.1
      rw [z.2.2.2.2.1]
      refine ⟨fun q => ?_, fun _ => ⟨hv2, ⟨fun q => ⟨hv, fun q2 => ?_, fun _ => ⟨hv, hv2, ?_⟩⟩, fun q => ?_⟩⟩⟩
      · exfalso; rw [eq_i, ks, hm1] at q; omega
      · exfalso; rw [le_i, ks, h0] at q2; omega
      · rcases (RH.all.mp rH k2 hk2).cs with z2 | ⟨y, z2⟩ | ⟨t2, n2, z2⟩
        · exact absurd z2.2 q
        · have hb2 := rB.lt z2
          rw [z2.2.1]
          refine ⟨fun q3 => ?_, fun _ => f3 k k2 hk hk2 rfl rfl (fun w => ?_) (fun t3 n3 n4 _ w => sx_BR z2 w)⟩
          · exfalso; rw [eq_i, ks, nI_toInt (by omega)] at q3; omega
          · rcases w with w | w
            · exact sx_NR w z
            · exact sx_NB w z2
        · have ks2 := kd t2 z2.2.1
          rw [z2.2.2.2.2.1, z.2.2.2.2.2.2.1, z2.2.2.2.2.2.2.1]
          refine ⟨fun q3 => ?_, fun q3 => f3 k k2 hk hk2 rfl rfl (fun w => ?_) (fun t3 n3 n4 w1 w2 => q3 ?_)⟩
          · have : t = t2 := by rw [eq_i, ks, ks2] at q3; omega
            subst this
            refine ⟨fun g1 => f4 k k2 t n n2 hk hk2 rfl rfl z z2 (fun w => absurd g1 w), fun g1 => ⟨fun g2 => f4 k k2 t n n2 hk hk2 rfl rfl z z2 (fun _ w => absurd g2 w), fun g2 => ⟨fun g3 => f4 k k2 t n n2 hk hk2 rfl rfl z z2 (fun _ _ w => absurd g3 w), fun g3 => ⟨hv, fun g4 => f4 k k2 t n n2 hk hk2 rfl rfl z z2 (fun _ _ _ => Or.inl (fun w => (hp n z.2.2.1 g1 g2).mpr w g4)), fun g4 => ⟨hv2, fun g5 => ?_, fun g5 => f4 k k2 t n n2 hk hk2 rfl rfl z z2 (fun _ _ _ => Or.inr (fun w => g5 ((hq n2 z2.2.2.1 g1 g3).mpr w)))⟩⟩⟩⟩⟩
            obtain ⟨p, m, rfl, rfl, hpm⟩ := (hp n z.2.2.1 g1 g2).mp g4
            obtain ⟨q', m', rfl, em, hqm⟩ := (hq n2 z2.2.2.1 g1 g3).mp g5
            have n60 := z.2.2.1
            have n60' := z2.2.2.1
            have : m = m' := (nn m m' (by omega) (by omega)).mp em
            subst this
            refine p_sh1 rfl rfl rfl hk (by omega) (fun s1 a1 a2 a3 => p_sh2 rfl rfl rfl hk2 (by omega) (fun s2 b1 b2 b3 => ?_))
            refine g k k2 t n n2 p q' m hk hk2 rfl rfl z z2 rfl rfl rfl hpm hqm s2 (fun x y => by rw [b1, a1, eg]) (fun x y x1 x2 => by rw [b2 x y x1, a2 x y x2]) (fun y => ?_)
            rw [b3]
            by_cases w : 60 * k2 + q' ≤ y ∧ y < 60 * k2 + q' + m
            · rw [if_pos w, if_pos w, a3 _ (by omega)]
            · rw [if_neg w, if_neg w, a2 _ _ (by decide)]
          · rcases w with w | w
            · exact sx_NR w z
            · exact sx_NR w z2
          · obtain ⟨rfl, -⟩ := sx_RR z w1
            obtain ⟨rfl, -⟩ := sx_RR z2 w2
            rfl
      · rcases (RH.all.mp rH k2 hk2).cs with z2 | ⟨y, z2⟩ | ⟨t2, n2, z2⟩
        · exact f2 k k2 hk hk2 rfl rfl (Or.inr z2)
        · have hb2 := rB.lt z2
          exact absurd (z2.2.1.symm.trans q) (nI_m1 (by omega))
        · have ks2 := kd t2 z2.2.1
          rw [z2.2.2.2.2.1, eq_i, ks2, hm1] at q
          omega
  unfold w_X11_shift
  rw [e_11_shelf]
  refine b0 (fun q => p2 (fun _ _ => rfl) (fun _ => ⟨rfl, u⟩) (fun k _ hk _ e _ _ => absurd (kin hk e) q) (fun k _ hk _ e _ _ _ => absurd (kin hk e) q) (fun k _ _ _ _ hk _ e _ _ _ _ => absurd (kin hk e) q) (fun k _ _ _ _ _ _ _ hk _ e => absurd (kin hk e) q)) (fun ha => ?_)
  rw [e_11_shelf]
  refine b1 (fun hc => ?_) (fun q => p2 (fun _ _ => rfl) (fun _ => ⟨rfl, u⟩) (fun _ k _ hk _ e _ => absurd (kin hk e) q) (fun _ k _ hk _ e _ _ => absurd (kin hk e) q) (fun _ k _ _ _ _ hk _ e _ _ _ => absurd (kin hk e) q) (fun _ k _ _ _ _ _ _ _ hk _ e => absurd (kin hk e) q))
  obtain ⟨k, hk, rfl, hck, hv⟩ := sh_k ha
  obtain ⟨k2, hk2, rfl, hck2, hv2⟩ := sh_k hc
  obtain ⟨r1, r2, r3⟩ := rf_sh k hk
  obtain ⟨s1, s2, s3⟩ := rf_sh k2 hk2
  have p3 : ∀ {h1 : mH} {Q : Int32 → mH → Prop}, (∀ x y, gi h1 x y = gi h x y) →
      ((sN h k ∨ sN h k2) → Q (-11) h1) → (¬ (sN h k ∨ sN h k2) → (∀ t n n2, sR h k t n → ¬ sR h k2 t n2) → Q (-12) h1) →
      (∀ t n n2, sR h k t n → sR h k2 t n2 → (¬ e < 0 → ¬ b < 0 → ¬ d < 0 → (¬ ∃ p m, b = nI p ∧ e = nI m ∧ p + m ≤ n) ∨ (¬ ∃ p m, d = nI p ∧ e = nI m ∧ p + m ≤ n2)) → Q (-13) h1) →
      (∀ t n n2 p q m, sR h k t n → sR h k2 t n2 → b = nI p → d = nI q → e = nI m → p + m ≤ n → q + m ≤ n2 → ∀ s, (∀ x y, gi s x y = gi h x y) → (∀ x y, ¬ x = 88 → ¬ x = 89 → gl s x y = gl h1 x y) → (∀ y, gl s 88 y = if 60 * k2 + q ≤ y ∧ y < 60 * k2 + q + m then gl h1 88 (60 * k + p + (y - (60 * k2 + q))) else gl h1 88 y) → Q e s) → w_X12_shift (nI k) b (nI k2) d e h1 Q := by
    intro h1 Q eg f2 f3 f4 g
    refine p2 eg (fun q => absurd ⟨ha, hc⟩ q) (fun k' k2' hk' hk2' ek ek2 => ?_) (fun k' k2' hk' hk2' ek ek2 => ?_) (fun k' k2' t n n2 hk' hk2' ek ek2 => ?_) (fun k' k2' t n n2 p q m hk' hk2' ek ek2 => ?_)
    · have := nIne hk hk' ek
      have := nIne hk2 hk2' ek2
      subst k' k2'
      exact f2
    · have := nIne hk hk' ek
      have := nIne hk2 hk2' ek2
      subst k' k2'
      exact f3
    · have := nIne hk hk' ek
      have := nIne hk2 hk2' ek2
      subst k' k2'
      exact f4 t n n2
    · have := nIne hk hk' ek
      have := nIne hk2 hk2' ek2
      subst k' k2'
      exact g t n n2 p q m
  refine ⟨hv, fun r5 e5 => ?_⟩
  subst e5
  rw [hck, r1]
  refine ⟨hv2, fun r6 e6 => ?_⟩
  subst e6
  rw [hck2, s1]
  have n12 : ¬ (sN h k ∨ sN h k2) → (∀ t n n2, sR h k t n → ¬ sR h k2 t n2) → w_X12_shift (nI k) b (nI k2) d e h (fun w h2 => -12 = w ∧ Inv (i + 1) h2) := fun w1 w2 =>
    p3 (fun _ _ => rfl) (fun w => absurd w w1) (fun _ _ => ⟨rfl, u⟩) (fun t n n2 y1 y2 => absurd y2 (w2 t n n2 y1)) (fun t n n2 _ _ _ y1 y2 => absurd y2 (w2 t n n2 y1))
  have n11 : (sN h k ∨ sN h k2) → w_X12_shift (nI k) b (nI k2) d e h (fun w h2 => -11 = w ∧ Inv (i + 1) h2) := fun w1 =>
    p3 (fun _ _ => rfl) (fun _ => ⟨rfl, u⟩) (fun w => absurd w1 w) (fun t n n2 y1 y2 => (w1.elim (fun z => sx_NR z y1) (fun z => sx_NR z y2)).elim) (fun t n n2 _ _ _ y1 y2 => (w1.elim (fun z => sx_NR z y1) (fun z => sx_NR z y2)).elim)
  rcases (RH.all.mp rH k hk).cs with z | ⟨x, z⟩ | ⟨t, n, z⟩
  · rw [z.1]
    exact ⟨fun _ => n11 (Or.inl z), fun q => absurd rfl q⟩
  · rw [z.1]
    refine ⟨fun q => absurd q (by decide), fun _ => ⟨fun q => ⟨fun _ => n12 (fun w => ?_) (fun t n n2 y _ => sx_BR z y), fun q => absurd q (by decide)⟩, fun q => n11 (Or.inr ?_)⟩⟩
    · rcases w with w | w
      · exact sx_NB w z
      · exact q w.1
    · rcases (RH.all.mp rH k2 hk2).cs with z2 | ⟨y, z2⟩ | ⟨t2, n2, z2⟩
      · exact z2
      · exact absurd (z2.1.symm.trans q) (by decide)
      · exact absurd (z2.1.symm.trans q) (by decide)
  · unfold w_X9_holdsRow
    rw [z.1]
    refine ⟨fun q => absurd q (by decide), fun _ => ?_⟩
    rcases (RH.all.mp rH k2 hk2).cs with z2 | ⟨y, z2⟩ | ⟨t2, n2, z2⟩
    · rw [z2.1]
      exact ⟨fun q => absurd rfl q, fun _ => n11 (Or.inr z2)⟩
    · rw [z2.1]
      have w1 : ¬ (sN h k ∨ sN h k2) := fun w => w.elim (fun w => sx_NR w z) (fun w => sx_NB w z2)
      exact ⟨fun _ => ⟨fun q => absurd rfl q, fun _ => ⟨fun _ => ⟨fun q => absurd rfl q, fun _ => n12 w1 (fun t n n2 _ y => sx_BR z2 y)⟩, fun q => absurd q (by decide)⟩⟩, fun q => absurd q (by decide)⟩
    · dsimp only
      rw [z2.1, z.2.2.2.1, z2.2.2.2.1, z.2.2.2.2.2.1, z2.2.2.2.2.2.1, r2, s2, r3, s3]
      have w1 : ¬ (sN h k ∨ sN h k2) := fun w => w.elim (fun w => sx_NR w z) (fun w => sx_NR w z2)
      refine ⟨fun _ => ⟨fun q => absurd rfl q, fun _ => ⟨fun q => absurd rfl q, fun _ => ⟨fun q => ⟨fun q => absurd rfl q, fun _ => n12 w1 (fun t3 n3 n4 y1 y2 => q ?_)⟩, fun q => ?_⟩⟩⟩, fun q => absurd q (by decide)⟩
      · obtain ⟨rfl, -⟩ := sx_RR z y1
        obtain ⟨rfl, -⟩ := sx_RR z2 y2
        rfl
      · have tt := z.2.1
        have tt2 := z2.2.1
        have : t2 = t := (nn t2 t (by omega) (by omega)).mp q
        subst this
        have n60 := z.2.2.1
        have n60' := z2.2.2.1
        have p4 : ∀ {h1 : mH} {Q : Int32 → mH → Prop}, (∀ x y, gi h1 x y = gi h x y) → ((¬ ∃ p q m, b = nI p ∧ d = nI q ∧ e = nI m ∧ p + m ≤ n ∧ q + m ≤ n2) → Q (-13) h1) →
            (∀ p q m, b = nI p → d = nI q → e = nI m → p + m ≤ n → q + m ≤ n2 → ∀ s, (∀ x y, gi s x y = gi h x y) → (∀ x y, ¬ x = 88 → ¬ x = 89 → gl s x y = gl h1 x y) → (∀ y, gl s 88 y = if 60 * k2 + q ≤ y ∧ y < 60 * k2 + q + m then gl h1 88 (60 * k + p + (y - (60 * k2 + q))) else gl h1 88 y) → Q e s) → w_X12_shift (nI k) b (nI k2) d e h1 Q := by
          intro h1 Q eg f g
          refine p3 eg (fun w => absurd w w1) (fun _ w => absurd z2 (w _ _ _ z)) (fun t' n' n2' y1 y2 w => f ?_) (fun t' n' n2' p q m y1 y2 => ?_)
          · obtain ⟨-, rfl⟩ := sx_RR z y1
            obtain ⟨-, rfl⟩ := sx_RR z2 y2
            rintro ⟨p, q, m, rfl, rfl, rfl, y3, y4⟩
            exact (w (nI_pos (by omega)) (nI_pos (by omega)) (nI_pos (by omega))).elim (fun w => w ⟨p, m, rfl, rfl, y3⟩) (fun w => w ⟨q, m, rfl, rfl, y4⟩)
          · obtain ⟨-, rfl⟩ := sx_RR z y1
            obtain ⟨-, rfl⟩ := sx_RR z2 y2
            exact g p q m
        have n13 : (¬ ∃ p q m, b = nI p ∧ d = nI q ∧ e = nI m ∧ p + m ≤ n ∧ q + m ≤ n2) → w_X12_shift (nI k) b (nI k2) d e h (fun w h2 => -13 = w ∧ Inv (i + 1) h2) := fun w =>
          p4 (fun _ _ => rfl) (fun _ => ⟨rfl, u⟩) (fun p q m y1 y2 y3 y4 y5 => absurd ⟨p, q, m, y1, y2, y3, y4, y5⟩ w)
        refine ⟨fun _ => ⟨fun g1 => n13 ?_, fun g1 => ⟨fun g2 => n13 ?_, fun g2 => ⟨fun g3 => n13 ?_, fun g3 => ⟨fun g4 => n13 ?_, fun g4 => ⟨fun g5 => ?_, fun g5 => n13 ?_⟩⟩⟩⟩⟩, fun q => absurd q (by decide)⟩
        · rintro ⟨p, q, m, rfl, rfl, rfl, y3, y4⟩
          exact nI_pos (by omega) g1
        · rintro ⟨p, q, m, rfl, rfl, rfl, y3, y4⟩
          exact nI_pos (by omega) g2
        · rintro ⟨p, q, m, rfl, rfl, rfl, y3, y4⟩
          exact nI_pos (by omega) g3
        · rintro ⟨p, q, m, e1, e2, e3, y3, y4⟩
          exact (hp n n60 g1 g2).mpr ⟨p, m, e1, e3, y3⟩ g4
        · obtain ⟨p, m, rfl, rfl, hpm⟩ := (hp n n60 g1 g2).mp g4
          obtain ⟨q', m', rfl, em, hqm⟩ := (hq n2 n60' g1 g3).mp g5
          have : m = m' := (nn m m' (by omega) (by omega)).mp em
          subst this
          rw [nI_clamp (by omega), nI_clamp (by omega), nI_clamp (by omega)]
          refine ⟨⟨g2, g3, g1, by omega, by omega⟩, fun h9 e9 => ?_⟩
          subst e9
          refine p4 (fun _ _ => rfl) (fun w => absurd ⟨p, q', m, rfl, rfl, rfl, hpm, hqm⟩ w) (fun p1 q1 m1 y1 y2 y3 y4 y5 s x1 x2 x3 => ?_)
          have : p = p1 := (nn p p1 (by omega) (by omega)).mp y1
          subst this
          have : q' = q1 := (nn q' q1 (by omega) (by omega)).mp y2
          subst this
          have : m = m1 := (nn m m1 (by omega) (by omega)).mp y3
          subst this
          have x88 : ∀ y, gl (cpl h (42 + 2 * k) (42 + 2 * k2) p q' m) 88 y = gl h 88 y := fun y => by rw [gl_cpl, if_neg (by omega)]
          have f : Fr (cl [42, 44, 46, 48, 50, 52, 88, 89] []) h s := fun a b hp => by
            refine ⟨x1 a b, ?_⟩
            have q1 : ¬ a = 42 + 2 * k2 := fun z => by
              subst z
              rw [cl_r89 k2 hk2] at hp
              cases hp
            rw [x2 a b (fun z => by subst z; cases hp) (fun z => by subst z; cases hp), gl_cpl, if_neg (fun z => q1 z.1)]
          exact ⟨rfl, ⟨r.1.ag (Fr.ag f rfl), (r.2.1.up (Nat.le_succ i)).ag (Fr.ag f rfl), r.2.2.1.ag (Fr.ag f rfl), r.2.2.2.1.ag (Fr.ag f rfl), r.2.2.2.2.1.ag (Fr.ag f rfl), r.2.2.2.2.2.1.ag (Fr.ag f rfl), r.2.2.2.2.2.2.1.ag (Fr.ag f rfl), (r.2.2.2.2.2.2.2.1.up (Nat.le_succ i)).ag (Fr.ag f rfl), r.2.2.2.2.2.2.2.2.1.ag (Fr.ag f rfl), r.2.2.2.2.2.2.2.2.2.1.ag (Fr.ag f rfl), okH_shift hk hk2 z z2 hpm hqm rH x1 x2 (fun y => by rw [x3]; simp only [x88])⟩⟩
        · rintro ⟨p, q, m, e1, e2, e3, y3, y4⟩
          exact g5 ((hq n2 n60' g1 g3).mpr ⟨q, m, e2, e3, y4⟩)
