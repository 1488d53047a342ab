/-! PURE: meet -/
theorem ten {G : Nat} (hG : G ≤ 9) : G = 0 ∨ G = 1 ∨ G = 2 ∨ G = 3 ∨ G = 4 ∨ G = 5 ∨ G = 6 ∨ G = 7 ∨ G = 8 ∨ G = 9 := by omega
theorem hit_p (G x d : Nat) (hG : G ≤ 9) (hx : x < 100) : ∃ s, s ≤ d + 1 ∧ (s + (x + G * s) / 100 = d ∨ s + (x + G * s) / 100 = d + 1) := by
  by_cases q : (100 * d + 99 - x) % (100 + G) ≤ 99
  · refine ⟨(100 * d + 99 - x) / (100 + G), ?_⟩
    rcases ten hG with rfl | rfl | rfl | rfl | rfl | rfl | rfl | rfl | rfl | rfl <;> omega
  · refine ⟨(100 * d + 199 - x) / (100 + G), ?_⟩
    rcases ten hG with rfl | rfl | rfl | rfl | rfl | rfl | rfl | rfl | rfl | rfl <;> omega
theorem hit_m (G x d : Nat) (hG : G ≤ 9) (hx : x < 100) : ∃ s, s ≤ d + 120 ∧ (s + (x + G * s) / 100 = d ∨ s + (x + G * s) / 100 = d + 60 ∨ s + (x + G * s) / 100 = d + 120) := by
  by_cases q : (100 * d + 99 - x) % (100 + G) ≤ 99
  · refine ⟨(100 * d + 99 - x) / (100 + G), ?_⟩
    rcases ten hG with rfl | rfl | rfl | rfl | rfl | rfl | rfl | rfl | rfl | rfl <;> omega
  · by_cases q2 : (100 * d + 6099 - x) % (100 + G) ≤ 99
    · refine ⟨(100 * d + 6099 - x) / (100 + G), ?_⟩
      rcases ten hG with rfl | rfl | rfl | rfl | rfl | rfl | rfl | rfl | rfl | rfl <;> omega
    · refine ⟨(100 * d + 12099 - x) / (100 + G), ?_⟩
      rcases ten hG with rfl | rfl | rfl | rfl | rfl | rfl | rfl | rfl | rfl | rfl <;> omega
theorem hit_n (M x d : Nat) (hM : M ≤ 9) (hx : x < 100) : ∃ s, s ≤ d + d / 10 + 2 ∧ s = d + (x + M * s) / 100 := by
  refine ⟨(100 * d + x) / (100 - M), ?_⟩
  rcases ten hM with rfl | rfl | rfl | rfl | rfl | rfl | rfl | rfl | rfl | rfl <;> omega
/-- what a clock shows, in whole numbers -/
theorem shwI {t : Nat} (ht : t < 200000) {o g : Int32} (ho : -360 ≤ o.toInt ∧ o.toInt ≤ 359) (hg : -9 ≤ g.toInt ∧ g.toInt ≤ 9) : (shw (nI t) o g).toInt = (t + o.toInt + ((t : Int) * g.toInt).tdiv 100) % 720 := by
  obtain ⟨-, -, e⟩ := shw_i (nI t) o g
  have ht' : (nI t).toInt = t := nI_toInt (by omega)
  have b : -1800000 ≤ (t : Int) * g.toInt ∧ (t : Int) * g.toInt ≤ 1800000 := by
    have a1 : (t : Int) * g.toInt ≤ t * 9 := Int.mul_le_mul_of_nonneg_left hg.2 (by omega)
    have a2 : (t : Int) * (-9) ≤ t * g.toInt := Int.mul_le_mul_of_nonneg_left hg.1 (by omega)
    omega
  have em : (nI t * g).toInt = t * g.toInt := by rw [mul_i (by rw [ht']; omega) (by rw [ht']; omega), ht']
  have ed : (nI t * g / 100).toInt = ((t : Int) * g.toInt).tdiv 100 := by rw [div_i (by decide), em]; rfl
  have bd := tdiv_le ((t : Int) * g.toInt) 100 (by omega)
  have ea : (nI t + o).toInt = t + o.toInt := by rw [add_i (by rw [ht']; omega) (by rw [ht']; omega), ht']
  rw [e, add_i (by rw [ea, ed]; omega) (by rw [ea, ed]; omega), ea, ed]
/-- the steps of a clock: after s minutes it shows d more -/
theorem steps {t s : Nat} {g : Int} (hg : -9 ≤ g ∧ g ≤ 9) : ((t + s : Nat) : Int) * g = t * g + s * g ∧ (0 ≤ g → (((t + s : Nat) : Int) * g).tdiv 100 = ((t : Int) * g).tdiv 100 + ((t * g.toNat % 100 + g.toNat * s) / 100 : Nat)) ∧ (g ≤ 0 → (((t + s : Nat) : Int) * g).tdiv 100 = ((t : Int) * g).tdiv 100 - ((t * (-g).toNat % 100 + (-g).toNat * s) / 100 : Nat)) := by
  refine ⟨by rw [Int.natCast_add, Int.add_mul], fun q => ?_, fun q => ?_⟩
  · obtain ⟨G, rfl⟩ := Int.eq_ofNat_of_zero_le q
    rw [Int.toNat_natCast, ← Int.natCast_mul, ← Int.natCast_mul, Nat.add_mul, Nat.mul_comm s G]
    generalize t * G = A
    generalize G * s = B
    rw [Int.tdiv_eq_ediv_of_nonneg (by omega), Int.tdiv_eq_ediv_of_nonneg (by omega)]
    omega
  · obtain ⟨G, hG⟩ := Int.eq_ofNat_of_zero_le (show 0 ≤ -g by omega)
    have : g = -(G : Int) := by omega
    subst this
    rw [Int.neg_neg, Int.toNat_natCast, Int.mul_neg, Int.mul_neg, Int.neg_tdiv, Int.neg_tdiv, ← Int.natCast_mul, ← Int.natCast_mul, Nat.add_mul, Nat.mul_comm s G]
    generalize t * G = A
    generalize G * s = B
    rw [Int.tdiv_eq_ediv_of_nonneg (by omega), Int.tdiv_eq_ediv_of_nonneg (by omega)]
    omega
theorem meetsI {t0 : Nat} (ht : t0 ≤ 99999) {o g : Int32} (ho : -360 ≤ o.toInt ∧ o.toInt ≤ 359) (hg : -9 ≤ g.toInt ∧ g.toInt ≤ 9) {c p : Int32} (hp : inR p 0 59) : ∃ s, s < 1440 ∧ ptf c (shw (nI (t0 + s)) o g) = p := by
  have h0 : (0 : Int32).toInt = 0 := rfl
  have h59 : (59 : Int32).toInt = 59 := rfl
  have h12 : (12 : Int32).toInt = 12 := rfl
  have h60 : (60 : Int32).toInt = 60 := rfl
  rw [inR_i, h0, h59] at hp
  suffices w : ∃ s, s < 1440 ∧ (c = 0 → (shw (nI (t0 + s)) o g).toInt / 12 = p.toInt) ∧ (¬ c = 0 → (shw (nI (t0 + s)) o g).toInt % 60 = p.toInt) by
    obtain ⟨s, hs, w1, w2⟩ := w
    refine ⟨s, hs, ?_⟩
    obtain ⟨b1, b2, -⟩ := shw_i (nI (t0 + s)) o g
    unfold ptf
    by_cases hc : c = 0
    · rw [if_pos hc, eq_i, div_i (by decide), h12, Int.tdiv_eq_ediv_of_nonneg b1]
      exact w1 hc
    · rw [if_neg hc, eq_i, irm_i (by decide), h60, Int.tmod_eq_emod_of_nonneg b1]
      exact w2 hc
  have V : ∀ s, s < 1440 → (shw (nI (t0 + s)) o g).toInt = (((t0 + s : Nat) : Int) + o.toInt + (((t0 + s : Nat) : Int) * g.toInt).tdiv 100) % 720 := fun s hs => shwI (by omega) ho hg
  by_cases q : 0 ≤ g.toInt
  · have hx : t0 * g.toInt.toNat % 100 < 100 := Nat.mod_lt _ (by decide)
    by_cases hc : c = 0
    · obtain ⟨s, hs, e⟩ := hit_p g.toInt.toNat _ ((12 * p.toInt - (t0 + o.toInt + ((t0 : Int) * g.toInt).tdiv 100)) % 720).toNat (by omega) hx
      refine ⟨s, by omega, fun _ => ?_, fun q => absurd hc q⟩
      rw [V s (by omega), (steps hg).2.1 q]
      generalize (t0 * g.toInt.toNat % 100 + g.toInt.toNat * s) / 100 = A at e
      generalize ((t0 : Int) * g.toInt).tdiv 100 = B at e hs
      omega
    · obtain ⟨s, hs, e⟩ := hit_m g.toInt.toNat _ ((p.toInt - (t0 + o.toInt + ((t0 : Int) * g.toInt).tdiv 100)) % 60).toNat (by omega) hx
      refine ⟨s, by omega, fun q => absurd q hc, fun _ => ?_⟩
      rw [V s (by omega), (steps hg).2.1 q]
      generalize (t0 * g.toInt.toNat % 100 + g.toInt.toNat * s) / 100 = A at e
      generalize ((t0 : Int) * g.toInt).tdiv 100 = B at e hs
      omega
  · have hx : t0 * (-g.toInt).toNat % 100 < 100 := Nat.mod_lt _ (by decide)
    by_cases hc : c = 0
    · obtain ⟨s, hs, e⟩ := hit_n (-g.toInt).toNat _ ((12 * p.toInt - (t0 + o.toInt + ((t0 : Int) * g.toInt).tdiv 100)) % 720).toNat (by omega) hx
      refine ⟨s, by omega, fun _ => ?_, fun q => absurd hc q⟩
      rw [V s (by omega), (steps hg).2.2 (by omega)]
      generalize (t0 * (-g.toInt).toNat % 100 + (-g.toInt).toNat * s) / 100 = A at e
      generalize ((t0 : Int) * g.toInt).tdiv 100 = B at e hs
      omega
    · obtain ⟨s, hs, e⟩ := hit_n (-g.toInt).toNat _ ((p.toInt - (t0 + o.toInt + ((t0 : Int) * g.toInt).tdiv 100)) % 60).toNat (by omega) hx
      refine ⟨s, by omega, fun q => absurd q hc, fun _ => ?_⟩
      rw [V s (by omega), (steps hg).2.2 (by omega)]
      generalize (t0 * (-g.toInt).toNat % 100 + (-g.toInt).toNat * s) / 100 = A at e
      generalize ((t0 : Int) * g.toInt).tdiv 100 = B at e hs
      omega
theorem RA.offB {h : mH} (r : RA h) {c : Int32} (hc : inR c 0 1) : -360 ≤ (gi h 54 c.toNatClampNeg).toInt ∧ (gi h 54 c.toNatClampNeg).toInt ≤ 359 := by
  obtain ⟨e, k0, k1, -⟩ := r
  rcases inR_01 hc with rfl | rfl
  · have := k0.1 (by decide)
    rw [e.1] at this
    exact this
  · have := k1.1 (by decide)
    rw [e.2.1] at this
    exact this
theorem RA.gainB {h : mH} (r : RA h) {c : Int32} (hc : inR c 0 1) : -9 ≤ (gi h 55 c.toNatClampNeg).toInt ∧ (gi h 55 c.toNatClampNeg).toInt ≤ 9 := by
  obtain ⟨e, k0, k1, k2, k3, -⟩ := r
  rcases inR_01 hc with rfl | rfl
  · have := k2.2.1 (Or.inl rfl)
    rw [e.2.2.1] at this
    exact this
  · have := k3.2.1 (Or.inr rfl)
    rw [e.2.2.2.1] at this
    exact this
theorem meets_all {h : mH} (r : RA h) {c p : Int32} (hc : inR c 0 1) (hp : inR p 0 59) {t0 : Nat} (ht : t0 ≤ 99999) : ∃ J, J < 1440 ∧ prt h c (nI (t0 + J)) = p ∧ ∀ j, j < J → ¬ prt h c (nI (t0 + j)) = p := by
  obtain ⟨s, hs, e⟩ := meetsI (c := c) ht (r.offB hc) (r.gainB hc) hp
  obtain ⟨J, hJ, y, z⟩ := least (p := fun j => prt h c (nI (t0 + j)) = p) s e
  exact ⟨J, by omega, y, z⟩
theorem p_fm11 {h : mH} {Q : _} (r : RA h) {c p : Int32} (hc : inR c 0 1) {t0 J : Nat} (ht : t0 ≤ 99999) (hJ : J < 1440) (y : prt h c (nI (t0 + J)) = p) (z : ∀ j, j < J → ¬ prt h c (nI (t0 + j)) = p) (g : Q (nI (t0 + J)) h) : w_X10_firstMinute c (nI t0) p h Q := by
  unfold w_X10_firstMinute
  have := loop_0 (σ := mH) (fun n i s => w_X10_firstMinute_L3 (fun h3 => Q (-1) h3) Q c (nI t0) p n (nI (t0 + i)) s) (fun i s => s = h) J h rfl (fun n s e => ?_) (fun n i s hi e nx => ?_)
  · exact this
  · subst e
    unfold w_X10_firstMinute_L3
    rw [show (1440 : Int32) = nI 1440 from rfl, nI_add, nl _ _ (by omega) (by omega)]
    refine ⟨fun q => absurd q (by omega), fun _ => ?_⟩
    rw [e_10_part r hc]
    exact ⟨fun q => absurd y q, fun _ => g⟩
  · subst e
    unfold w_X10_firstMinute_L3
    rw [show (1440 : Int32) = nI 1440 from rfl, nI_add, nl _ _ (by omega) (by omega)]
    refine ⟨fun q => absurd q (by omega), fun _ => ?_⟩
    rw [e_10_part r hc, nI_1]
    exact ⟨fun _ => nx _ rfl, fun q => absurd q (z i hi)⟩
theorem p_fm12 {h : mH} {Q : _} {c p : Int32} (hc : inR c 0 1) {t0 J : Nat} (ht : t0 ≤ 99999) (hJ : J < 1440) (y : prt h c (nI (t0 + J)) = p) (z : ∀ j, j < J → ¬ prt h c (nI (t0 + j)) = p) (g : Q (nI (t0 + J)) h) : w_X12_meets c (nI t0) p h Q := by
  unfold w_X12_meets
  have := loop_0 (σ := mH) (fun n i s => w_X12_meets_L3 (fun h3 => Q (-2) h3) Q c (nI t0) p n (nI (t0 + i)) s) (fun i s => s = h) J h rfl (fun n s e => ?_) (fun n i s hi e nx => ?_)
  · exact this
  · subst e
    unfold w_X12_meets_L3
    rw [show (1440 : Int32) = nI 1440 from rfl, nI_add, nl _ _ (by omega) (by omega)]
    refine ⟨fun q => absurd q (by omega), fun _ => ?_⟩
    rw [e_12_part hc]
    exact ⟨fun q => absurd y q, fun _ => g⟩
  · subst e
    unfold w_X12_meets_L3
    rw [show (1440 : Int32) = nI 1440 from rfl, nI_add, nl _ _ (by omega) (by omega)]
    refine ⟨fun q => absurd q (by omega), fun _ => ?_⟩
    rw [e_12_part hc, nI_1]
    exact ⟨fun _ => nx _ rfl, fun q => absurd q (z i hi)⟩
theorem irm100 {b : Int32} (hb : ¬ b < 0) : ¬ irm b 100 < 0 ∧ ¬ b / 100 < 0 := by
  have h0 : (0 : Int32).toInt = 0 := rfl
  have h100 : (100 : Int32).toInt = 100 := rfl
  rw [lt_i, h0] at hb
  rw [lt_i, lt_i, h0, irm_i (by decide), div_i (by decide), h100, Int.tdiv_eq_ediv_of_nonneg (by omega), Int.tmod_eq_emod_of_nonneg (by omega)]
  omega
theorem lt60 {x : Int32} (hx : ¬ x < 0) : inR x 0 59 ↔ ¬ 60 ≤ x := by
  have h0 : (0 : Int32).toInt = 0 := rfl
  have h59 : (59 : Int32).toInt = 59 := rfl
  have h60 : (60 : Int32).toInt = 60 := rfl
  rw [inR_i, le_i, h0, h59, h60]
  rw [lt_i, h0] at hx
  omega
theorem J_meet {i : Nat} {h : mH} (r : Inv i h) (a b c : Int32) : w_X11_meet a b c h (fun v h1 => w_X12_meet a b c h1 (fun w h2 => v = w ∧ Inv (i + 1) h2)) := by
  have u := r.up
  have rA := r.1
  have h01 : inR (0 : Int32) 0 1 := by exact nI_inR (j := 0) (N := 1) (by decide) (by decide)
  have h11 : inR (1 : Int32) 0 1 := by exact nI_inR (j := 1) (N := 1) (by decide) (by decide)
  have p2 : ∀ {Q : Int32 → mH → Prop}, (¬ (inR a 0 99999 ∧ ¬ b < 0 ∧ inR (b / 100) 0 59 ∧ inR (irm b 100) 0 59 ∧ inR c 0 2) → Q (-1) h) → (inR a 0 99999 → ¬ b < 0 → inR (b / 100) 0 59 → inR (irm b 100) 0 59 → inR c 0 2 → ∀ x J1 J2, x ≤ 99999 → a = nI x → J1 < 1440 → J2 < 1440 → (prt h 0 (nI (x + J1)) = b / 100 ∧ ∀ j, j < J1 → ¬ prt h 0 (nI (x + j)) = b / 100) → (prt h 1 (nI (x + J2)) = irm b 100 ∧ ∀ j, j < J2 → ¬ prt h 1 (nI (x + j)) = irm b 100) → Q (if 2 ≤ c then (if J2 ≤ J1 then nI (x + J1) - nI (x + J2) else nI (x + J2) - nI (x + J1)) else if c = 0 then nI (x + J1) else nI (x + J2)) h) → w_X12_meet a b c h Q := by
    intro Q f g
    unfold w_X12_meet
    rw [e_12_minute]
    refine b0 (fun q => f (fun z => q z.1)) (fun ha => ⟨fun q => f (fun z => z.2.1 q), fun hb => ⟨fun q => f (fun z => (lt60 (irm100 hb).2).mp z.2.2.1 q), fun q1 => ⟨fun q => f (fun z => (lt60 (irm100 hb).1).mp z.2.2.2.1 q), fun q2 => ?_⟩⟩⟩)
    rw [e_12_in]
    refine b1 (fun hc => ?_) (fun q => f (fun z => q z.2.2.2.2))
    have p1 := (lt60 (irm100 hb).2).mpr q1
    have p2 := (lt60 (irm100 hb).1).mpr q2
    obtain ⟨x, hx, rfl⟩ := inR_nI (N := 99999) rfl (by decide) ha
    obtain ⟨J1, hJ1, y1, z1⟩ := meets_all rA h01 p1 hx
    obtain ⟨J2, hJ2, y2, z2⟩ := meets_all rA h11 p2 hx
    have G := g ha hb p1 p2 hc x J1 J2 hx rfl hJ1 hJ2 ⟨y1, z1⟩ ⟨y2, z2⟩
    refine p_fm12 h01 hx hJ1 y1 z1 (p_fm12 h11 hx hJ2 y2 z2 ⟨fun q => ⟨fun w => absurd w (nI_pos (by omega)), fun _ => ⟨fun _ x9 e9 => ?_, fun w => absurd (nI_pos' (by omega)) w⟩⟩, fun q x11 e11 => ?_⟩)
    · rw [if_pos q] at G
      rw [e9]
      simp only [nl (x + J2) (x + J1) (by omega) (by omega), Nat.add_le_add_iff_left]
      exact G
    · rw [if_neg q] at G
      rw [e11]
      exact G
  have n1 : ¬ (inR a 0 99999 ∧ ¬ b < 0 ∧ inR (b / 100) 0 59 ∧ inR (irm b 100) 0 59 ∧ inR c 0 2) → w_X12_meet a b c h (fun w h2 => -1 = w ∧ Inv (i + 1) h2) := fun q =>
    p2 (fun _ => ⟨rfl, u⟩) (fun y1 y2 y3 y4 y5 => absurd ⟨y1, y2, y3, y4, y5⟩ q)
  unfold w_X11_meet
  rw [e_11_minute]
  refine b0 (fun q => n1 (fun z => q z.1)) (fun ha => ⟨fun q => n1 (fun z => z.2.1 q), fun hb => ?_⟩)
  rw [e_11_part]
  refine b0 (fun q => n1 (fun z => q z.2.2.1)) (fun k1 => ?_)
  rw [e_11_part]
  refine b0 (fun q => n1 (fun z => q z.2.2.2.1)) (fun k2 => ?_)
  rw [e_11_one, bi_i (one_inR 2 rfl)]
  refine b1 (fun hc => ?_) (fun q => n1 (fun z => q z.2.2.2.2))
  obtain ⟨x, hx, rfl⟩ := inR_nI (N := 99999) rfl (by decide) ha
  obtain ⟨J1, hJ1, y1, z1⟩ := meets_all rA h01 k1 hx
  obtain ⟨J2, hJ2, y2, z2⟩ := meets_all rA h11 k2 hx
  have fin : ∀ v, v = (if 2 ≤ c then (if J2 ≤ J1 then nI (x + J1) - nI (x + J2) else nI (x + J2) - nI (x + J1)) else if c = 0 then nI (x + J1) else nI (x + J2)) → w_X12_meet (nI x) b c h (fun w h2 => v = w ∧ Inv (i + 1) h2) := fun v ev =>
    p2 (fun q => absurd ⟨ha, hb, k1, k2, hc⟩ q) (fun _ _ _ _ _ x' J1' J2' hx' ex hJ1' hJ2' w1 w2 => by
      have : x = x' := (nn x x' (by omega) (by omega)).mp ex
      subst this
      have uq : ∀ {p : Nat → Prop} {m n : Nat}, p m → (∀ j, j < m → ¬ p j) → p n → (∀ j, j < n → ¬ p j) → m = n := fun {p m n} a1 a2 b1 b2 => by
        rcases Nat.lt_trichotomy m n with q | q | q
        · exact absurd a1 (b2 m q)
        · exact q
        · exact absurd b1 (a2 n q)
      have : J1 = J1' := uq (p := fun j => prt h 0 (nI (x + j)) = b / 100) y1 z1 w1.1 w1.2
      subst this
      have : J2 = J2' := uq (p := fun j => prt h 1 (nI (x + j)) = irm b 100) y2 z2 w2.1 w2.2
      subst this
      exact ⟨ev, u⟩)
  have h2 : (2 : Int32).toInt = 2 := rfl
  have h0 : (0 : Int32).toInt = 0 := rfl
  have hc2 := inR_i.mp hc
  rw [h0, h2] at hc2
  have c2 : c = 2 ↔ 2 ≤ c := by
    rw [le_i, eq_i, h2]
    omega
  refine p_fm11 rA h01 hx hJ1 y1 z1 (p_fm11 rA h11 hx hJ2 y2 z2 ⟨fun w => absurd w (nI_pos (by omega)), fun _ => ⟨fun _ => ⟨fun q x13 e13 => fin _ ?_, fun q => fin _ ?_⟩, fun w => absurd (nI_pos' (by omega)) w⟩⟩)
  · rw [if_neg (fun w => q (c2.mpr w))]
    exact e13
  · rw [if_pos (c2.mp q)]
    have sb : ∀ m n, m < 200000 → n < 200000 → (nI m - nI n).toInt = (m : Int) - n := fun m n hm hn => pk_sub_toInt (by omega) (by omega)
    unfold iab
    have k : 0 ≤ nI (x + J1) - nI (x + J2) ↔ J2 ≤ J1 := by
      rw [le_i, sb _ _ (by omega) (by omega), h0]
      omega
    by_cases w : J2 ≤ J1
    · rw [if_pos (k.mpr w), if_pos w]
    · rw [if_neg (fun y => w (k.mp y)), if_neg w, eq_i, sub_i (by rw [sb _ _ (by omega) (by omega), h0]; omega) (by rw [sb _ _ (by omega) (by omega), h0]; omega), sb _ _ (by omega) (by omega), sb _ _ (by omega) (by omega), h0]
      omega
