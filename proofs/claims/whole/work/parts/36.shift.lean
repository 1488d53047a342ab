/-! PURE: shift -/
theorem gl_cpl {h : mH} {o q sp dp n a b : Nat} : gl (cpl h o q sp dp n) a b = if a = q ∧ dp ≤ b ∧ b < dp + n then gl h o (sp + (b - dp)) else gl h a b := by
  unfold gl cpl va_cpy
  simp only
  by_cases q1 : a = q
  · subst q1
    simp
  · rw [if_neg q1, if_neg (fun z => q1 z.1)]
theorem p_sh1 {h : mH} {k p m : Nat} {K Q : _} {l1 l2 l3 l4 l5 : Int32} (h1 : l1 = nI k) (h2 : l2 = nI p) (h5 : l5 = nI m) (hk : k < 6) (hpm : p + m ≤ 60) (g : ∀ s, (∀ a b, gi s a b = gi h a b) → (∀ a b, ¬ a = 89 → gl s a b = gl h a b) → (∀ j, j < m → gl s 89 j = gl h 88 (60 * k + p + j)) → K s) : ∃ n, w_X12_shift_L113 K Q l1 l2 l3 l4 l5 n 0 h := by
  subst h1
  subst h2
  subst h5
  refine loop_0 (σ := mH) (fun n i s => w_X12_shift_L113 K Q (nI k) (nI p) l3 l4 (nI m) n (nI i) s) (fun i s => (∀ a b, gi s a b = gi h a b) ∧ (∀ a b, ¬ a = 89 → gl s a b = gl h a b) ∧ (∀ j, j < i → gl s 89 j = gl h 88 (60 * k + p + j))) m h ⟨fun _ _ => rfl, fun _ _ _ => rfl, fun j hj => absurd hj (Nat.not_lt_zero j)⟩ (fun n s e => ?_) (fun n i s hi e nx => ?_)
  · exact ⟨fun _ => g s e.1 e.2.1 e.2.2, fun q => absurd ((nl m m (by omega) (by omega)).mpr (Nat.le_refl m)) q⟩
  · unfold w_X12_shift_L113
    rw [nl m i (by omega) (by omega), show (60 : Int32) = nI 60 from rfl, pk_mul, nI_add, nI_add, nI_clamp (by omega), nI_clamp (by omega), nI_1]
    refine ⟨fun q => by omega, fun _ => ⟨vp_nI (by omega) (by decide), vp_nI (by omega) (by decide), fun h5 e5 => ?_⟩⟩
    subst e5
    refine nx _ ⟨e.1, fun a b hab => ?_, fun j hj => ?_⟩
    · rw [gl_sl, if_neg (fun z => hab z.1)]
      exact e.2.1 a b hab
    · rw [gl_sl]
      by_cases q : j = i
      · subst q
        rw [if_pos ⟨rfl, rfl⟩]
        exact e.2.1 88 _ (by decide)
      · rw [if_neg (fun z => q z.2)]
        exact e.2.2 j (by omega)
theorem p_sh2 {h : mH} {k p m : Nat} {K Q : _} {l3 l4 l5 : Int32} (h1 : l3 = nI k) (h2 : l4 = nI p) (h5 : l5 = nI m) (hk : k < 6) (hpm : p + m ≤ 60) (g : ∀ s, (∀ a b, gi s a b = gi h a b) → (∀ a b, ¬ a = 88 → gl s a b = gl h a b) → (∀ b, gl s 88 b = if 60 * k + p ≤ b ∧ b < 60 * k + p + m then gl h 89 (b - (60 * k + p)) else gl h 88 b) → K s) : ∃ n, w_X12_shift_L150 K Q l3 l4 l5 n 0 h := by
  subst h1
  subst h2
  subst h5
  refine loop_0 (σ := mH) (fun n i s => w_X12_shift_L150 K Q (nI k) (nI p) (nI m) n (nI i) s) (fun i s => (∀ a b, gi s a b = gi h a b) ∧ (∀ a b, ¬ a = 88 → gl s a b = gl h a b) ∧ (∀ b, gl s 88 b = if 60 * k + p ≤ b ∧ b < 60 * k + p + i then gl h 89 (b - (60 * k + p)) else gl h 88 b)) m h ⟨fun _ _ => rfl, fun _ _ _ => rfl, fun b => by rw [if_neg (by omega)]⟩ (fun n s e => ?_) (fun n i s hi e nx => ?_)
  · exact ⟨fun _ => g s e.1 e.2.1 e.2.2, fun q => absurd ((nl m m (by omega) (by omega)).mpr (Nat.le_refl m)) q⟩
  · unfold w_X12_shift_L150
    rw [nl m i (by omega) (by omega), show (60 : Int32) = nI 60 from rfl, pk_mul, nI_add, nI_add, nI_clamp (by omega), nI_clamp (by omega), nI_1]
    refine ⟨fun q => by omega, fun _ => ⟨vp_nI (by omega) (by decide), vp_nI (by omega) (by decide), fun h5 e5 => ?_⟩⟩
    subst e5
    refine nx _ ⟨e.1, fun a b hab => ?_, fun b => ?_⟩
    · rw [gl_sl, if_neg (fun z => hab z.1)]
      exact e.2.1 a b hab
    · rw [gl_sl]
      by_cases q : b = 60 * k + p + i
      · subst q
        rw [if_pos ⟨rfl, rfl⟩, if_pos (by omega), e.2.1 89 _ (by decide), show 60 * k + p + i - (60 * k + p) = i by omega]
      · rw [if_neg (fun z => q z.2), e.2.2 b]
        by_cases q2 : 60 * k + p ≤ b ∧ b < 60 * k + p + i
        · rw [if_pos q2, if_pos (by omega)]
        · rw [if_neg q2, if_neg (by omega)]
/-- a shift of elements keeps the shelves together -/
theorem okH_shift {h s : mH} {k k2 t n n2 p q m : Nat} (hk : k < 6) (hk2 : k2 < 6) (z : sR h k t n) (z2 : sR h k2 t n2) (hp : p + m ≤ n) (hq : q + m ≤ n2) (rH : RH h)
    (e1 : ∀ a b, gi s a b = gi h a b) (e2 : ∀ a b, ¬ a = 88 → ¬ a = 89 → gl s a b = gl (cpl h (42 + 2 * k) (42 + 2 * k2) p q m) a b) (e3 : ∀ b, gl s 88 b = if 60 * k2 + q ≤ b ∧ b < 60 * k2 + q + m then gl h 88 (60 * k + p + (b - (60 * k2 + q))) else gl h 88 b) : RH s := by
  have n60 := z.2.2.1
  have n60' := z2.2.2.1
  refine RH.all.mpr (fun k3 hk3 => ?_)
  by_cases w : k3 = k2
  · subst w
    refine Or.inr (Or.inr ⟨by rw [e1]; exact z2.1, t, n2, z2.2.1, z2.2.2.1, by rw [e1]; exact z2.2.2.2.1, by rw [e1]; exact z2.2.2.2.2.1, by rw [e1]; exact z2.2.2.2.2.2.1, by rw [e1]; exact z2.2.2.2.2.2.2.1, fun j hj => ?_⟩)
    rw [e2 _ _ (by omega) (by omega), e3, gl_cpl]
    by_cases w2 : q ≤ j ∧ j < q + m
    · rw [if_pos ⟨rfl, w2⟩, if_pos (by omega), z.2.2.2.2.2.2.2 _ (by omega)]
      congr 1
      omega
    · rw [if_neg (by omega), if_neg (by omega)]
      exact z2.2.2.2.2.2.2.2 j hj
  · refine okH.to (h := h) (fun _ => e1 _ _) (e1 _ _) (e1 _ _) (fun j => ?_) (fun j hj => ?_) (by rw [e1]; exact Nat.le_refl _) (RH.all.mp rH k3 hk3)
    · rw [e2 _ _ (by omega) (by omega), gl_cpl, if_neg (by omega)]
    · rw [e3, if_neg (by omega)]
theorem J_shift {i : Nat} {h : mH} (r : Inv i h) (a b c d e : Int32) : w_X11_shift a b c d e h (fun v h1 => w_X12_shift a b c d e h1 (fun w h2 => v = w ∧ Inv (i + 1) h2)) := by
  have u := r.up
  have rH := r.2.2.2.2.2.2.2.2.2.2
  have rB := r.2.2.2.2.2.2.2.2.1
  have h0 : (0 : Int32).toInt = 0 := rfl
  have hm1 : (-1 : Int32).toInt = -1 := rfl
  -- when places and number are right
  have hp : ∀ (n : Nat), n ≤ 60 → (¬ e < 0 → ¬ b < 0 → (¬ nI n - e < b ↔ ∃ p m, b = nI p ∧ e = nI m ∧ p + m ≤ n)) := by
    intro n hn g1 g2
    obtain ⟨m, hm, rfl⟩ := nI_of g1
    obtain ⟨p, hp, rfl⟩ := nI_of g2
    rw [lt_i, sub_i (by rw [nI_toInt (by omega), nI_toInt (by omega)]; omega) (by rw [nI_toInt (by omega), nI_toInt (by omega)]; omega), nI_toInt (by omega), nI_toInt (by omega), nI_toInt (by omega)]
    constructor
    · intro q
      exact ⟨p, m, rfl, rfl, by omega⟩
    · rintro ⟨p2, m2, e1, e2, q⟩
      have a1 := (nn p p2 (by omega) (by omega)).mp e1
      have a2 := (nn m m2 (by omega) (by omega)).mp e2
      omega
  have hq : ∀ (n : Nat), n ≤ 60 → (¬ e < 0 → ¬ d < 0 → (d ≤ nI n - e ↔ ∃ p m, d = nI p ∧ e = nI m ∧ p + m ≤ n)) := by
    intro n hn g1 g2
    obtain ⟨m, hm, rfl⟩ := nI_of g1
    obtain ⟨p, hp, rfl⟩ := nI_of g2
    rw [le_i, sub_i (by rw [nI_toInt (by omega), nI_toInt (by omega)]; omega) (by rw [nI_toInt (by omega), nI_toInt (by omega)]; omega), nI_toInt (by omega), nI_toInt (by omega), nI_toInt (by omega)]
    constructor
    · intro q
      exact ⟨p, m, rfl, rfl, by omega⟩
    · rintro ⟨p2, m2, e1, e2, q⟩
      have a1 := (nn p p2 (by omega) (by omega)).mp e1
      have a2 := (nn m m2 (by omega) (by omega)).mp e2
      omega
  -- the reference, over contents with the same ints
  have p2 : ∀ {h1 : mH} {Q : Int32 → mH → Prop}, (∀ x y, gi h1 x y = gi h x y) → (¬ (inR a 0 5 ∧ inR c 0 5) → Q (-1) h1) →
      (∀ k k2, k < 6 → k2 < 6 → a = nI k → c = nI k2 → (sN h k ∨ sN h k2) → Q (-11) h1) → (∀ k k2, k < 6 → k2 < 6 → a = nI k → c = nI k2 → ¬ (sN h k ∨ sN h k2) → (∀ t n n2, sR h k t n → ¬ sR h k2 t n2) → Q (-12) h1) →
      (∀ k k2 t n n2, k < 6 → k2 < 6 → a = nI k → c = nI k2 → sR h k t n → sR h k2 t n2 → (¬ e < 0 → ¬ b < 0 → ¬ d < 0 → (¬ ∃ p m, b = nI p ∧ e = nI m ∧ p + m ≤ n) ∨ (¬ ∃ p m, d = nI p ∧ e = nI m ∧ p + m ≤ n2)) → Q (-13) h1) →
      (∀ k k2 t n n2 p q m, k < 6 → k2 < 6 → a = nI k → c = nI k2 → sR h k t n → sR h k2 t n2 → b = nI p → d = nI q → e = nI m → p + m ≤ n → q + m ≤ n2 → ∀ s, (∀ x y, gi s x y = gi h x y) → (∀ x y, ¬ x = 88 → ¬ x = 89 → gl s x y = gl h1 x y) → (∀ y, gl s 88 y = if 60 * k2 + q ≤ y ∧ y < 60 * k2 + q + m then gl h1 88 (60 * k + p + (y - (60 * k2 + q))) else gl h1 88 y) → Q e s) → w_X12_shift a b c d e h1 Q := by
    intro h1 Q eg f1 f2 f3 f4 g
    unfold w_X12_shift
    rw [e_12_shelf]
    refine b0 (fun q => f1 (fun z => q z.1)) (fun ha => ?_)
    rw [e_12_shelf]
    refine b1 (fun hc => ?_) (fun q => f1 (fun z => q z.2))
    obtain ⟨k, hk, rfl, hck, hv⟩ := sh_k ha
    obtain ⟨k2, hk2, rfl, hck2, hv2⟩ := sh_k hc
    simp only [eg, hck, hck2]
    refine ⟨hv, ?_⟩
    rcases (RH.all.mp rH k hk).cs with z | ⟨x, z⟩ | ⟨t, n, z⟩
    · rw [z.2]
      exact ⟨fun _ => f2 k k2 hk hk2 rfl rfl (Or.inl z), fun q => absurd rfl q⟩
    · have hb := rB.lt z
      rw [z.2.1]
      refine ⟨fun q => absurd q (nI_m1 (by omega)), fun _ => ⟨hv2, ⟨fun q => ⟨hv, fun _ => f3 k k2 hk hk2 rfl rfl (fun w => ?_) (fun t n n2 w => (sx_BR z w).elim), fun q2 => absurd (by rw [le_i, nI_toInt (by omega), h0]; omega) q2⟩, fun q => ?_⟩⟩⟩
      · rcases w with w | w
        · exact sx_NB w z
        · exact q w.2
      · rcases (RH.all.mp rH k2 hk2).cs with z2 | ⟨y, z2⟩ | ⟨t2, n2, z2⟩
        · exact f2 k k2 hk hk2 rfl rfl (Or.inr z2)
        · have hb2 := rB.lt z2
          exact absurd (z2.2.1.symm.trans q) (nI_m1 (by omega))
        · have ks := kd t2 z2.2.1
          rw [z2.2.2.2.2.1, eq_i, ks, hm1] at q
          omega
    · have ks := kd t z.2.1
      rw [z.2.2.2.2.1]
      refine ⟨fun q => ?_, fun _ => ⟨hv2, ⟨fun q => ⟨hv, fun q2 => ?_, fun _ => ⟨hv, hv2, ?_⟩⟩, fun q => ?_⟩⟩⟩
      · exfalso; rw [eq_i, ks, hm1] at q; omega
      · exfalso; rw [le_i, ks, h0] at q2; omega
      · rcases (RH.all.mp rH k2 hk2).cs with z2 | ⟨y, z2⟩ | ⟨t2, n2, z2⟩
        · exact absurd z2.2 q
        · have hb2 := rB.lt z2
          rw [z2.2.1]
          refine ⟨fun q3 => ?_, fun _ => f3 k k2 hk hk2 rfl rfl (fun w => ?_) (fun t3 n3 n4 _ w => sx_BR z2 w)⟩
          · exfalso; rw [eq_i, ks, nI_toInt (by omega)] at q3; omega
          · rcases w with w | w
            · exact sx_NR w z
            · exact sx_NB w z2
        · have ks2 := kd t2 z2.2.1
          rw [z2.2.2.2.2.1, z.2.2.2.2.2.2.1, z2.2.2.2.2.2.2.1]
          refine ⟨fun q3 => ?_, fun q3 => f3 k k2 hk hk2 rfl rfl (fun w => ?_) (fun t3 n3 n4 w1 w2 => q3 ?_)⟩
          · have : t = t2 := by rw [eq_i, ks, ks2] at q3; omega
            subst this
            refine ⟨fun g1 => f4 k k2 t n n2 hk hk2 rfl rfl z z2 (fun w => absurd g1 w), fun g1 => ⟨fun g2 => f4 k k2 t n n2 hk hk2 rfl rfl z z2 (fun _ w => absurd g2 w), fun g2 => ⟨fun g3 => f4 k k2 t n n2 hk hk2 rfl rfl z z2 (fun _ _ w => absurd g3 w), fun g3 => ⟨hv, fun g4 => f4 k k2 t n n2 hk hk2 rfl rfl z z2 (fun _ _ _ => Or.inl (fun w => (hp n z.2.2.1 g1 g2).mpr w g4)), fun g4 => ⟨hv2, fun g5 => ?_, fun g5 => f4 k k2 t n n2 hk hk2 rfl rfl z z2 (fun _ _ _ => Or.inr (fun w => g5 ((hq n2 z2.2.2.1 g1 g3).mpr w)))⟩⟩⟩⟩⟩
            obtain ⟨p, m, rfl, rfl, hpm⟩ := (hp n z.2.2.1 g1 g2).mp g4
            obtain ⟨q', m', rfl, em, hqm⟩ := (hq n2 z2.2.2.1 g1 g3).mp g5
            have n60 := z.2.2.1
            have n60' := z2.2.2.1
            have : m = m' := (nn m m' (by omega) (by omega)).mp em
            subst this
            refine p_sh1 rfl rfl rfl hk (by omega) (fun s1 a1 a2 a3 => p_sh2 rfl rfl rfl hk2 (by omega) (fun s2 b1 b2 b3 => ?_))
            refine g k k2 t n n2 p q' m hk hk2 rfl rfl z z2 rfl rfl rfl hpm hqm s2 (fun x y => by rw [b1, a1, eg]) (fun x y x1 x2 => by rw [b2 x y x1, a2 x y x2]) (fun y => ?_)
            rw [b3]
            by_cases w : 60 * k2 + q' ≤ y ∧ y < 60 * k2 + q' + m
            · rw [if_pos w, if_pos w, a3 _ (by omega)]
            · rw [if_neg w, if_neg w, a2 _ _ (by decide)]
          · rcases w with w | w
            · exact sx_NR w z
            · exact sx_NR w z2
          · obtain ⟨rfl, -⟩ := sx_RR z w1
            obtain ⟨rfl, -⟩ := sx_RR z2 w2
            rfl
      · rcases (RH.all.mp rH k2 hk2).cs with z2 | ⟨y, z2⟩ | ⟨t2, n2, z2⟩
        · exact f2 k k2 hk hk2 rfl rfl (Or.inr z2)
        · have hb2 := rB.lt z2
          exact absurd (z2.2.1.symm.trans q) (nI_m1 (by omega))
        · have ks2 := kd t2 z2.2.1
          rw [z2.2.2.2.2.1, eq_i, ks2, hm1] at q
          omega
  sorry
