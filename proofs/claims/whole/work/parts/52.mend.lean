/-! PURE: mend -/
def alw (h : mH) (k : Nat) (x : Int32) : Prop := (k ≤ 1 → inR x (-360) 359) ∧ (k = 2 ∨ k = 3 → inR x (-9) 9) ∧ (k = 4 → inR x 0 9) ∧ (k = 5 → inR x 0 (gi h 53 5)) ∧ (k = 6 → inR x (gi h 53 4) 99)
theorem p_place {h : mH} {a b : Int32} {Q : Int32 → mH → Prop} (g : ∀ p, okP p b a → Q p h) (f : (∀ p, ¬ okP p b a) → ∀ v, v < 0 → Q v h) : w_X10_placeOf a b h Q := by
  unfold w_X10_placeOf w_X10_placeOf_J9
  have clk : (b = 0 ∨ b = 1) → w_X11_isClock a h (fun v2 h1 => ((v2 = 0 → Q (-1) h1) ∧ (¬ v2 = 0 → ∀ x3, x3 = (if b = 0 then 0 else 2) → Q (x3 + a) h1))) := fun hb => by
    rw [e_11_clock]
    refine b0 (fun q => f (fun p w => q ?_) _ (by decide)) (fun ha x3 e3 => ?_)
    · rcases w with ⟨-, rfl | rfl, -⟩ | ⟨-, rfl | rfl, -⟩ | ⟨-, rfl, -⟩ | ⟨-, rfl, -⟩ | ⟨-, rfl, -⟩
      · exact i01
      · exact i11
      · exact i01
      · exact i11
      · exact i01
      · exact i01
      · exact i01
    · subst e3
      rcases hb with rfl | rfl <;> rcases inR_01 ha with rfl | rfl
      · exact g _ (Or.inl ⟨rfl, Or.inl rfl, rfl⟩)
      · exact g _ (Or.inl ⟨rfl, Or.inr rfl, rfl⟩)
      · exact g _ (Or.inr (Or.inl ⟨rfl, Or.inl rfl, rfl⟩))
      · exact g _ (Or.inr (Or.inl ⟨rfl, Or.inr rfl, rfl⟩))
  refine ⟨fun q => clk (Or.inl q), fun q0 => ⟨fun q1 => ⟨fun qa => f (fun p w => ?_) _ (by decide), fun qa => ⟨fun q2 => f (fun p w => ?_) _ (by decide), fun q2 x5 e5 => ?_⟩⟩, fun q => clk (Or.inr q)⟩⟩
  · rcases w with ⟨y, -⟩ | ⟨y, -⟩ | ⟨-, y, -⟩ | ⟨-, y, -⟩ | ⟨-, y, -⟩
    · exact q0 y
    · exact q1 y
    · exact qa y
    · exact qa y
    · exact qa y
  · rcases w with ⟨y, -⟩ | ⟨y, -⟩ | ⟨y, -⟩ | ⟨y, -⟩ | ⟨y, -⟩
    · exact q0 y
    · exact q1 y
    · subst y; exact absurd q2 (by decide)
    · subst y; exact absurd q2 (by decide)
    · subst y; exact absurd q2 (by decide)
  · subst qa
    subst e5
    have h2 : (2 : Int32).toInt = 2 := rfl
    have h4 : (4 : Int32).toInt = 4 := rfl
    by_cases q4 : 4 < b
    · rw [if_pos q4]
      refine f (fun p w => ?_) _ (by decide)
      rcases w with ⟨y, -⟩ | ⟨y, -⟩ | ⟨y, -⟩ | ⟨y, -⟩ | ⟨y, -⟩ <;> (subst y; exact absurd q4 (by decide))
    · rw [if_neg q4]
      rw [lt_i, h2] at q2
      rw [lt_i, h4] at q4
      rcases (show b.toInt = 2 ∨ b.toInt = 3 ∨ b.toInt = 4 by omega) with y | y | y
      · have : b = 2 := nI_of_i (j := 2) y
        subst this
        exact g _ (Or.inr (Or.inr (Or.inl ⟨rfl, rfl, rfl⟩)))
      · have : b = 3 := nI_of_i (j := 3) y
        subst this
        exact g _ (Or.inr (Or.inr (Or.inr (Or.inl ⟨rfl, rfl, rfl⟩))))
      · have : b = 4 := nI_of_i (j := 4) y
        subst this
        exact g _ (Or.inr (Or.inr (Or.inr (Or.inr ⟨rfl, rfl, rfl⟩))))
theorem in2 {x lo hi : Int32} {p : Prop} (hp : p ↔ inR x lo hi) {h : mH} {Q : Int32 → mH → Prop} (K : Q (bi p) h) : ((x < lo → Q 0 h) ∧ (¬ x < lo → ((hi < x → Q 0 h) ∧ (¬ hi < x → Q 1 h)))) := by
  rw [bi_i hp] at K
  refine ⟨fun q => ?_, fun q => ⟨fun q2 => ?_, fun q2 => ?_⟩⟩
  · rw [bi_0 (fun w => w.1 q)] at K
    exact K
  · rw [bi_0 (fun w => w.2 q2)] at K
    exact K
  · rw [bi_1 ⟨q, q2⟩] at K
    exact K
theorem alw_k {h : mH} {x : Int32} : (alw h 0 x ↔ inR x (-360) 359) ∧ (alw h 1 x ↔ inR x (-360) 359) ∧ (alw h 2 x ↔ inR x (-9) 9) ∧ (alw h 3 x ↔ inR x (-9) 9) ∧ (alw h 4 x ↔ inR x 0 9) ∧ (alw h 5 x ↔ inR x 0 (gi h 53 5)) ∧ (alw h 6 x ↔ inR x (gi h 53 4) 99) := by
  unfold alw
  simp
theorem e_allows {h : mH} (rA : RA h) {k : Nat} (hk : k < 7) {x : Int32} {Q : Int32 → mH → Prop} (K : Q (bi (alw h k x)) h) : w_X10_allows (nI k) x h Q := by
  unfold w_X10_allows
  have e5 := rA.1.2.2.2.2.2.1
  have e6 := rA.1.2.2.2.2.2.2
  rw [e5, e6]
  obtain ⟨a0, a1, a2, a3, a4, a5, a6⟩ := alw_k (h := h) (x := x)
  have n : ∀ j, j < 7 → (nI k = nI j ↔ k = j) := fun j hj => nn k j (by omega) (by omega)
  have n0 : nI k = 0 ↔ k = 0 := n 0 (by decide)
  have n1 : nI k = 1 ↔ k = 1 := n 1 (by decide)
  have n2 : nI k = 2 ↔ k = 2 := n 2 (by decide)
  have n3 : nI k = 3 ↔ k = 3 := n 3 (by decide)
  have n4 : nI k = 4 ↔ k = 4 := n 4 (by decide)
  have n5 : nI k = 5 ↔ k = 5 := n 5 (by decide)
  have n6 : nI k = 6 ↔ k = 6 := n 6 (by decide)
  refine ⟨fun q => ?_, fun q => ?_, fun q => ?_, fun q => ?_, fun q => ?_, fun q => ?_⟩
  · rw [n0, n1] at q
    rcases q with rfl | rfl
    · exact in2 a0 K
    · exact in2 a1 K
  · rw [n2, n3] at q
    rcases q with rfl | rfl
    · exact in2 a2 K
    · exact in2 a3 K
  · rw [n4] at q
    subst q
    exact in2 a4 K
  · rw [n5] at q
    subst q
    exact in2 a5 K
  · rw [n6] at q
    subst q
    exact in2 a6 K
  · exfalso
    rcases sev hk with rfl | rfl | rfl | rfl | rfl | rfl | rfl
    · exact q 0 (by simp) rfl
    · exact q 1 (by simp) rfl
    · exact q 2 (by simp) rfl
    · exact q 3 (by simp) rfl
    · exact q 4 (by simp) rfl
    · exact q 5 (by simp) rfl
    · exact q 6 (by simp) rfl
theorem p_mend12 {h : mH} {a b x : Int32} {Q : Int32 → mH → Prop} (g : ∀ k, k < 7 → okP (nI k) b a → alw h k x → w_X12_changes b a x h (fun v h => Q v h)) (f : (∀ k, k < 7 → okP (nI k) b a → ¬ alw h k x) → Q (-2000000000) h) : w_X12_mend a b x h Q := by
  obtain ⟨a0, a1, a2, a3, a4, a5, a6⟩ := alw_k (h := h) (x := x)
  have ff : ∀ j, j < 7 → okP (nI j) b a → ¬ alw h j x → Q (-2000000000) h := fun j hj oj nj => f (fun k hk ok => by
    have : nI k = nI j := by
      rcases ok with ⟨y, -, z⟩ | ⟨y, -, z⟩ | ⟨y, -, z⟩ | ⟨y, -, z⟩ | ⟨y, -, z⟩ <;> rcases oj with ⟨y2, -, z2⟩ | ⟨y2, -, z2⟩ | ⟨y2, -, z2⟩ | ⟨y2, -, z2⟩ | ⟨y2, -, z2⟩ <;> first | exact z.trans z2.symm | exact absurd (y.symm.trans y2) (by decide)
    have : k = j := (nn k j (by omega) (by omega)).mp this
    subst this
    exact nj)
  have none : (∀ k, k < 7 → ¬ okP (nI k) b a) → Q (-2000000000) h := fun q => f (fun k hk ok => absurd ok (q k hk))
  have nc : (b = 0 ∨ b = 1) → ¬ inR a 0 1 → Q (-2000000000) h := fun hb q => none (fun k _ ok => q (by
    rcases ok with ⟨-, rfl | rfl, -⟩ | ⟨-, rfl | rfl, -⟩ | ⟨-, rfl, -⟩ | ⟨-, rfl, -⟩ | ⟨-, rfl, -⟩
    · exact i01
    · exact i11
    · exact i01
    · exact i11
    · exact i01
    · exact i01
    · exact i01))
  have nz : ¬ b = 0 → ¬ b = 1 → ¬ a = 0 → Q (-2000000000) h := fun q0 q1 q => none (fun k _ ok => by
    rcases ok with ⟨y, -⟩ | ⟨y, -⟩ | ⟨-, y, -⟩ | ⟨-, y, -⟩ | ⟨-, y, -⟩
    · exact q0 y
    · exact q1 y
    · exact q y
    · exact q y
    · exact q y)
  unfold w_X12_mend
  refine ⟨fun hb => ?_, fun hb => ?_, fun hb => ⟨fun q => nz (by rw [hb]; decide) (by rw [hb]; decide) q, fun q => ?_⟩, fun hb => ⟨fun q => nz (by rw [hb]; decide) (by rw [hb]; decide) q, fun q => ?_⟩, fun hb => ⟨fun q => nz (by rw [hb]; decide) (by rw [hb]; decide) q, fun q => ?_⟩, fun hb => none (fun k _ ok => ?_)⟩
  · rw [e_12_clock]
    refine b0 (fun q => nc (Or.inl hb) q) (fun ha => ?_)
    rw [e_12_in]
    subst hb
    rcases inR_01 ha with rfl | rfl
    · exact b0 (fun q => ff 0 (by decide) (Or.inl ⟨rfl, Or.inl rfl, rfl⟩) (fun w => q (a0.mp w))) (fun q => g 0 (by decide) (Or.inl ⟨rfl, Or.inl rfl, rfl⟩) (a0.mpr q))
    · exact b0 (fun q => ff 1 (by decide) (Or.inl ⟨rfl, Or.inr rfl, rfl⟩) (fun w => q (a1.mp w))) (fun q => g 1 (by decide) (Or.inl ⟨rfl, Or.inr rfl, rfl⟩) (a1.mpr q))
  · rw [e_12_clock]
    refine b0 (fun q => nc (Or.inr hb) q) (fun ha => ?_)
    rw [e_12_in]
    subst hb
    rcases inR_01 ha with rfl | rfl
    · exact b0 (fun q => ff 2 (by decide) (Or.inr (Or.inl ⟨rfl, Or.inl rfl, rfl⟩)) (fun w => q (a2.mp w))) (fun q => g 2 (by decide) (Or.inr (Or.inl ⟨rfl, Or.inl rfl, rfl⟩)) (a2.mpr q))
    · exact b0 (fun q => ff 3 (by decide) (Or.inr (Or.inl ⟨rfl, Or.inr rfl, rfl⟩)) (fun w => q (a3.mp w))) (fun q => g 3 (by decide) (Or.inr (Or.inl ⟨rfl, Or.inr rfl, rfl⟩)) (a3.mpr q))
  · rw [e_12_in]
    subst hb
    subst q
    exact b0 (fun q => ff 4 (by decide) (Or.inr (Or.inr (Or.inl ⟨rfl, rfl, rfl⟩))) (fun w => q (a4.mp w))) (fun q => g 4 (by decide) (Or.inr (Or.inr (Or.inl ⟨rfl, rfl, rfl⟩))) (a4.mpr q))
  · rw [e_12_in]
    subst hb
    subst q
    exact b0 (fun q => ff 5 (by decide) (Or.inr (Or.inr (Or.inr (Or.inl ⟨rfl, rfl, rfl⟩)))) (fun w => q (a5.mp w))) (fun q => g 5 (by decide) (Or.inr (Or.inr (Or.inr (Or.inl ⟨rfl, rfl, rfl⟩)))) (a5.mpr q))
  · rw [e_12_in]
    subst hb
    subst q
    exact b0 (fun q => ff 6 (by decide) (Or.inr (Or.inr (Or.inr (Or.inr ⟨rfl, rfl, rfl⟩)))) (fun w => q (a6.mp w))) (fun q => g 6 (by decide) (Or.inr (Or.inr (Or.inr (Or.inr ⟨rfl, rfl, rfl⟩)))) (a6.mpr q))
  · rcases ok with ⟨y, -⟩ | ⟨y, -⟩ | ⟨y, -⟩ | ⟨y, -⟩ | ⟨y, -⟩
    · exact hb 0 (by simp) y
    · exact hb 1 (by simp) y
    · exact hb 2 (by simp) y
    · exact hb 3 (by simp) y
    · exact hb 4 (by simp) y
