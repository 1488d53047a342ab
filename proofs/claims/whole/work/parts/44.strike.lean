/-! PURE: strike -/
theorem cnU_up {p : Nat → Prop} {a : Nat} (d : Nat) : cnU p a ≤ cnU p (a + d) ∧ (cnU p (a + d) = cnU p a ↔ ∀ j, j < d → ¬ p (a + j)) := by
  induction d with
  | zero => exact ⟨Nat.le_refl _, fun _ j hj => absurd hj (Nat.not_lt_zero j), fun _ => rfl⟩
  | succ d ih =>
    by_cases q : p (a + d)
    · have e : cnU p (a + (d + 1)) = cnU p (a + d) + 1 := cnU_y q
      rw [e]
      refine ⟨by omega, fun w => by omega, fun w => absurd q (w d (by omega))⟩
    · have e : cnU p (a + (d + 1)) = cnU p (a + d) := cnU_n q
      rw [e]
      refine ⟨ih.1, fun w j hj => ?_, fun w => ih.2.mpr (fun j hj => w j (by omega))⟩
      by_cases y : j = d
      · subst y
        exact q
      · exact ih.2.mp w j (by omega)
def nv (h : mH) (c p : Int32) (j : Nat) : Prop := nr (gi h 53 3) (prt h c (nI j)) p
def sees (h : mH) (c p : Int32) (f t m : Nat) : Prop := ∃ x, f ≤ x ∧ x ≤ t ∧ nv h c p (m + x)
theorem prt_fr {P : Nat → Nat → Bool} {h s : mH} (f : Fr P h s) (d4 : ∀ k, P 54 k = false) (d5 : ∀ k, P 55 k = false) (c t : Int32) : prt s c t = prt h c t := by
  unfold prt tim
  rw [f.i 54 _ (d4 _), f.i 55 _ (d5 _)]
theorem sees_no {h : mH} {c p : Int32} {f t m : Nat} (hft : f ≤ t) : cnU (nv h c p) (m + t + 1) = cnU (nv h c p) (m + f) ↔ ¬ sees h c p f t m := by
  have e := (cnU_up (p := nv h c p) (a := m + f) (t + 1 - f)).2
  rw [show m + f + (t + 1 - f) = m + t + 1 by omega] at e
  rw [e]
  constructor
  · rintro w ⟨x, h1, h2, h3⟩
    refine w (x - f) (by omega) ?_
    rw [show m + f + (x - f) = m + x by omega]
    exact h3
  · intro w j hj y
    exact w ⟨f + j, by omega, by omega, by rw [← Nat.add_assoc]; exact y⟩
theorem p_strike {h : mH} {Q : mH → Prop} (rA : RA h) {c p : Int32} {f t : Nat} (hc : inR c 0 1) (hp : inR p 0 59) (hft : f ≤ t) (ht : t ≤ 99)
    (g : ∀ s, Fr (cl [20, 21] []) h s → (∀ m, m < 720 → (sees h c p f t m → gi s 20 m = gi h 20 m) ∧ (¬ sees h c p f t m → gi s 20 m = 0)) → Q s) : w_X3_strike c p (nI f) (nI t) h Q := by
  unfold w_X3_strike
  rw [e_11_sight]
  have hS : isS c p (nI f) (nI t) := by
    refine ⟨hc, hp, by exact nI_inR (N := 99) (by omega) (by decide), ?_⟩
    rw [inR_i, nI_toInt (by omega), nI_toInt (by omega)]
    have : (99 : Int32).toInt = 99 := rfl
    omega
  refine b1 (fun _ h3 e3 => ?_) (fun q => absurd hS q)
  subst e3
  refine loop_0 (σ := mH) (fun n i s => w_X3_strike_L23 _ _ c p (nI f) (nI t) n (nI i) s) (fun i s => Fr (cl [21] []) h s ∧ ∀ j, j ≤ i → gi s 21 j = nI (cnU (nv h c p) j)) 819 (si h 21 0 0) ⟨(Fr.rf _ h).si rfl, fun j hj => ?_⟩ (fun n s e => ?_) (fun n i s hi e nx => ?_)
  · have : j = 0 := by omega
    subst this
    rfl
  · unfold w_X3_strike_L23
    rw [show (nI 820 - 1 : Int32) = nI 819 from nI_pred 819]
    refine ⟨fun _ => ?_, fun q => absurd ((nl 819 819 (by decide) (by decide)).mpr (Nat.le_refl _)) q⟩
    refine loop_0 (σ := mH) (fun n i s => w_X3_strike_L85 _ _ (nI f) (nI t) n (nI i) s) (fun i s2 => Fr (cl [20] []) s s2 ∧ ∀ m, m < 720 → (sees h c p f t m → gi s2 20 m = gi h 20 m) ∧ (¬ sees h c p f t m → gi s2 20 m = if m < i then 0 else gi h 20 m)) 720 s ⟨Fr.rf _ s, fun m hm => ⟨fun _ => e.1.i 20 m rfl, fun _ => by rw [if_neg (Nat.not_lt_zero m)]; exact e.1.i 20 m rfl⟩⟩ (fun n s2 e2 => ?_) (fun n i s2 hi e2 nx => ?_)
    · unfold w_X3_strike_L85
      refine ⟨fun _ => g s2 ((e.1.up rfl).tr (e2.1.up rfl)) (fun m hm => ⟨(e2.2 m hm).1, fun q => by rw [(e2.2 m hm).2 q, if_pos hm]⟩), fun q => absurd ((nl 720 720 (by decide) (by decide)).mpr (Nat.le_refl _)) q⟩
    · have c21 : ∀ j, j ≤ 819 → gi s2 21 j = nI (cnU (nv h c p) j) := fun j hj => by rw [e2.1.i 21 j rfl]; exact e.2 j hj
      have cle := cnU_le (nv h c p)
      unfold w_X3_strike_L85
      rw [show (720 : Int32) = nI 720 from rfl, nl 720 i (by decide) (by omega), nI_add, nI_add, nI_1, nI_1, nI_clamp (by omega), nI_clamp (by omega), nI_clamp (by omega), c21 _ (by omega), c21 _ (by omega), nn _ _ (by have := cle (i + t + 1); omega) (by have := cle (i + f); omega), sees_no hft]
      refine ⟨fun q => absurd q (by omega), fun _ => ⟨vp_nI (by omega) (by decide), vp_nI (by omega) (by decide), fun q => ?_, fun q => ⟨vp_nI (by omega) (by decide), fun h12 e12 => ?_⟩⟩⟩
      · have q' := Classical.not_not.mp q
        refine nx _ ⟨e2.1, fun m hm => ⟨(e2.2 m hm).1, fun w => ?_⟩⟩
        rw [(e2.2 m hm).2 w]
        by_cases y : m = i
        · subst y
          exact absurd q' w
        · by_cases y2 : m < i
          · rw [if_pos y2, if_pos (by omega)]
          · rw [if_neg y2, if_neg (by omega)]
      · subst e12
        refine nx _ ⟨e2.1.si rfl, fun m hm => ⟨fun w => ?_, fun w => ?_⟩⟩
        · rw [gi_si, if_neg (fun z => by have := z.2; subst this; exact q w)]
          exact (e2.2 m hm).1 w
        · rw [gi_si]
          by_cases y : m = i
          · subst y
            rw [if_pos ⟨rfl, rfl⟩, if_pos (by omega)]
            rfl
          · rw [if_neg (fun z => y z.2), (e2.2 m hm).2 w]
            by_cases y2 : m < i
            · rw [if_pos y2, if_pos (by omega)]
            · rw [if_neg y2, if_neg (by omega)]
  · have rS : RA s := rA.ag (e.1.ag rfl)
    have cle := cnU_le (nv h c p)
    unfold w_X3_strike_L23
    rw [show (nI 820 - 1 : Int32) = nI 819 from nI_pred 819, nl 819 i (by decide) (by omega)]
    refine ⟨fun q => absurd q (by omega), fun _ => ?_⟩
    rw [e_10_part rS hc, e_10_nearR rS (prt_in _ _ _) hp, prt_fr e.1 (fun _ => rfl) (fun _ => rfl), e.1.i 53 3 rfl]
    intro x8 e8
    rw [nI_1, nI_clamp (by omega), nI_clamp (by omega), e.2 i (Nat.le_refl _)]
    refine ⟨vp_nI (by omega) (by decide), vp_nI (by omega) (by decide), fun h9 e9 => nx h9 ?_⟩
    subst e9
    refine ⟨e.1.si rfl, fun j hj => ?_⟩
    rw [gi_si]
    by_cases y : j = i + 1
    · subst y
      rw [if_pos ⟨rfl, rfl⟩, e8, show nr (gi h 53 3) (prt h c (nI i)) p = nv h c p i from rfl]
      by_cases w : nv h c p i
      · rw [cnU_y w, if_neg (by rw [bi_1 w]; decide), nI_1]
      · rw [cnU_n w, if_pos (bi_0 w)]
        rw [show (0 : Int32) = nI 0 from rfl, nI_add, Nat.add_zero]
    · rw [if_neg (fun z => y z.2)]
      exact e.2 j (by omega)
