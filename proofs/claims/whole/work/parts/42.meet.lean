/-! PURE: meet -/
theorem ten {G : Nat} (hG : G ≤ 9) : G = 0 ∨ G = 1 ∨ G = 2 ∨ G = 3 ∨ G = 4 ∨ G = 5 ∨ G = 6 ∨ G = 7 ∨ G = 8 ∨ G = 9 := by omega
theorem hit_p (G x d : Nat) (hG : G ≤ 9) (hx : x < 100) : ∃ s, s ≤ d + 1 ∧ (s + (x + G * s) / 100 = d ∨ s + (x + G * s) / 100 = d + 1) := by
  by_cases q : (100 * d + 99 - x) % (100 + G) ≤ 99
  · refine ⟨(100 * d + 99 - x) / (100 + G), ?_⟩
    rcases ten hG with rfl | rfl | rfl | rfl | rfl | rfl | rfl | rfl | rfl | rfl <;> omega
  · refine ⟨(100 * d + 199 - x) / (100 + G), ?_⟩
    rcases ten hG with rfl | rfl | rfl | rfl | rfl | rfl | rfl | rfl | rfl | rfl <;> omega
theorem hit_m (G x d : Nat) (hG : G ≤ 9) (hx : x < 100) : ∃ s, s ≤ d + 120 ∧ (s + (x + G * s) / 100 = d ∨ s + (x + G * s) / 100 = d + 60 ∨ s + (x + G * s) / 100 = d + 120) := by
  by_cases q : (100 * d + 99 - x) % (100 + G) ≤ 99
  · refine ⟨(100 * d + 99 - x) / (100 + G), ?_⟩
    rcases ten hG with rfl | rfl | rfl | rfl | rfl | rfl | rfl | rfl | rfl | rfl <;> omega
  · by_cases q2 : (100 * d + 6099 - x) % (100 + G) ≤ 99
    · refine ⟨(100 * d + 6099 - x) / (100 + G), ?_⟩
      rcases ten hG with rfl | rfl | rfl | rfl | rfl | rfl | rfl | rfl | rfl | rfl <;> omega
    · refine ⟨(100 * d + 12099 - x) / (100 + G), ?_⟩
      rcases ten hG with rfl | rfl | rfl | rfl | rfl | rfl | rfl | rfl | rfl | rfl <;> omega
theorem hit_n (M x d : Nat) (hM : M ≤ 9) (hx : x < 100) : ∃ s, s ≤ d + d / 10 + 2 ∧ s = d + (x + M * s) / 100 := by
  refine ⟨(100 * d + x) / (100 - M), ?_⟩
  rcases ten hM with rfl | rfl | rfl | rfl | rfl | rfl | rfl | rfl | rfl | rfl <;> omega
/-- what a clock shows, in whole numbers -/
theorem shwI {t : Nat} (ht : t < 200000) {o g : Int32} (ho : -360 ≤ o.toInt ∧ o.toInt ≤ 359) (hg : -9 ≤ g.toInt ∧ g.toInt ≤ 9) : (shw (nI t) o g).toInt = (t + o.toInt + ((t : Int) * g.toInt).tdiv 100) % 720 := by
  obtain ⟨-, -, e⟩ := shw_i (nI t) o g
  have ht' : (nI t).toInt = t := nI_toInt (by omega)
  have b : -1800000 ≤ (t : Int) * g.toInt ∧ (t : Int) * g.toInt ≤ 1800000 := by
    have a1 : (t : Int) * g.toInt ≤ t * 9 := Int.mul_le_mul_of_nonneg_left hg.2 (by omega)
    have a2 : (t : Int) * (-9) ≤ t * g.toInt := Int.mul_le_mul_of_nonneg_left hg.1 (by omega)
    omega
  have em : (nI t * g).toInt = t * g.toInt := by rw [mul_i (by rw [ht']; omega) (by rw [ht']; omega), ht']
  have ed : (nI t * g / 100).toInt = ((t : Int) * g.toInt).tdiv 100 := by rw [div_i (by decide), em]; rfl
  have bd := tdiv_le ((t : Int) * g.toInt) 100 (by omega)
  have ea : (nI t + o).toInt = t + o.toInt := by rw [add_i (by rw [ht']; omega) (by rw [ht']; omega), ht']
  rw [e, add_i (by rw [ea, ed]; omega) (by rw [ea, ed]; omega), ea, ed]
/-- the steps of a clock: after s minutes it shows d more -/
theorem steps {t s : Nat} {g : Int} (hg : -9 ≤ g ∧ g ≤ 9) : ((t + s : Nat) : Int) * g = t * g + s * g ∧ (0 ≤ g → (((t + s : Nat) : Int) * g).tdiv 100 = ((t : Int) * g).tdiv 100 + ((t * g.toNat % 100 + g.toNat * s) / 100 : Nat)) ∧ (g ≤ 0 → (((t + s : Nat) : Int) * g).tdiv 100 = ((t : Int) * g).tdiv 100 - ((t * (-g).toNat % 100 + (-g).toNat * s) / 100 : Nat)) := by
  refine ⟨by rw [Int.natCast_add, Int.add_mul], fun q => ?_, fun q => ?_⟩
  · obtain ⟨G, rfl⟩ := Int.eq_ofNat_of_zero_le q
    rw [Int.toNat_natCast, ← Int.natCast_mul, ← Int.natCast_mul, Nat.add_mul, Nat.mul_comm s G]
    generalize t * G = A
    generalize G * s = B
    rw [Int.tdiv_eq_ediv_of_nonneg (by omega), Int.tdiv_eq_ediv_of_nonneg (by omega)]
    omega
  · obtain ⟨G, hG⟩ := Int.eq_ofNat_of_zero_le (show 0 ≤ -g by omega)
    have : g = -(G : Int) := by omega
    subst this
    rw [Int.neg_neg, Int.toNat_natCast, Int.mul_neg, Int.mul_neg, Int.neg_tdiv, Int.neg_tdiv, ← Int.natCast_mul, ← Int.natCast_mul, Nat.add_mul, Nat.mul_comm s G]
    generalize t * G = A
    generalize G * s = B
    rw [Int.tdiv_eq_ediv_of_nonneg (by omega), Int.tdiv_eq_ediv_of_nonneg (by omega)]
    omega
theorem meetsI {t0 : Nat} (ht : t0 ≤ 99999) {o g : Int32} (ho : -360 ≤ o.toInt ∧ o.toInt ≤ 359) (hg : -9 ≤ g.toInt ∧ g.toInt ≤ 9) {c p : Int32} (hp : inR p 0 59) : ∃ s, s < 1440 ∧ ptf c (shw (nI (t0 + s)) o g) = p := by
  have h0 : (0 : Int32).toInt = 0 := rfl
  have h59 : (59 : Int32).toInt = 59 := rfl
  have h12 : (12 : Int32).toInt = 12 := rfl
  have h60 : (60 : Int32).toInt = 60 := rfl
  rw [inR_i, h0, h59] at hp
  suffices w : ∃ s, s < 1440 ∧ (c = 0 → (shw (nI (t0 + s)) o g).toInt / 12 = p.toInt) ∧ (¬ c = 0 → (shw (nI (t0 + s)) o g).toInt % 60 = p.toInt) by
    obtain ⟨s, hs, w1, w2⟩ := w
    refine ⟨s, hs, ?_⟩
    obtain ⟨b1, b2, -⟩ := shw_i (nI (t0 + s)) o g
    unfold ptf
    by_cases hc : c = 0
    · rw [if_pos hc, eq_i, div_i (by decide), h12, Int.tdiv_eq_ediv_of_nonneg b1]
      exact w1 hc
    · rw [if_neg hc, eq_i, irm_i (by decide), h60, Int.tmod_eq_emod_of_nonneg b1]
      exact w2 hc
  have V : ∀ s, s < 1440 → (shw (nI (t0 + s)) o g).toInt = (((t0 + s : Nat) : Int) + o.toInt + (((t0 + s : Nat) : Int) * g.toInt).tdiv 100) % 720 := fun s hs => shwI (by omega) ho hg
  by_cases q : 0 ≤ g.toInt
  · have hx : t0 * g.toInt.toNat % 100 < 100 := Nat.mod_lt _ (by decide)
    by_cases hc : c = 0
    · obtain ⟨s, hs, e⟩ := hit_p g.toInt.toNat _ ((12 * p.toInt - (t0 + o.toInt + ((t0 : Int) * g.toInt).tdiv 100)) % 720).toNat (by omega) hx
      refine ⟨s, by omega, fun _ => ?_, fun q => absurd hc q⟩
      rw [V s (by omega), (steps hg).2.1 q]
      generalize (t0 * g.toInt.toNat % 100 + g.toInt.toNat * s) / 100 = A at e
      generalize ((t0 : Int) * g.toInt).tdiv 100 = B at e hs
      omega
    · obtain ⟨s, hs, e⟩ := hit_m g.toInt.toNat _ ((p.toInt - (t0 + o.toInt + ((t0 : Int) * g.toInt).tdiv 100)) % 60).toNat (by omega) hx
      refine ⟨s, by omega, fun q => absurd q hc, fun _ => ?_⟩
      rw [V s (by omega), (steps hg).2.1 q]
      generalize (t0 * g.toInt.toNat % 100 + g.toInt.toNat * s) / 100 = A at e
      generalize ((t0 : Int) * g.toInt).tdiv 100 = B at e hs
      omega
  · have hx : t0 * (-g.toInt).toNat % 100 < 100 := Nat.mod_lt _ (by decide)
    by_cases hc : c = 0
    · obtain ⟨s, hs, e⟩ := hit_n (-g.toInt).toNat _ ((12 * p.toInt - (t0 + o.toInt + ((t0 : Int) * g.toInt).tdiv 100)) % 720).toNat (by omega) hx
      refine ⟨s, by omega, fun _ => ?_, fun q => absurd hc q⟩
      rw [V s (by omega), (steps hg).2.2 (by omega)]
      generalize (t0 * (-g.toInt).toNat % 100 + (-g.toInt).toNat * s) / 100 = A at e
      generalize ((t0 : Int) * g.toInt).tdiv 100 = B at e hs
      omega
    · obtain ⟨s, hs, e⟩ := hit_n (-g.toInt).toNat _ ((p.toInt - (t0 + o.toInt + ((t0 : Int) * g.toInt).tdiv 100)) % 60).toNat (by omega) hx
      refine ⟨s, by omega, fun q => absurd q hc, fun _ => ?_⟩
      rw [V s (by omega), (steps hg).2.2 (by omega)]
      generalize (t0 * (-g.toInt).toNat % 100 + (-g.toInt).toNat * s) / 100 = A at e
      generalize ((t0 : Int) * g.toInt).tdiv 100 = B at e hs
      omega
