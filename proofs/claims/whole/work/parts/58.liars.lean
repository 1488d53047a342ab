/-! PURE: which readings must be false -/
def kx (x : Nat) : Nat := pop x * 1024 + x
def stN (b v : Nat) : Nat := if kx v < kx b then v else b
noncomputable def bst (W : Nat → Nat) (s : Nat) : Nat → Nat
  | 0 => s
  | t + 1 => stN (bst W s t) (W t)
theorem bst_s {W : Nat → Nat} {s t : Nat} : bst W s (t + 1) = stN (bst W s t) (W t) := by rw [bst]
theorem bst_lt {W : Nat → Nat} {s N : Nat} (hs : s < N) (hW : ∀ t, W t < N) (t : Nat) : bst W s t < N := by
  induction t with
  | zero => exact hs
  | succ t ih =>
    rw [bst, stN]
    by_cases q : kx (W t) < kx (bst W s t)
    · rw [if_pos q]; exact hW t
    · rw [if_neg q]; exact ih
theorem bst_le {W : Nat → Nat} {s : Nat} (t : Nat) : kx (bst W s t) ≤ kx s ∧ ∀ u, u < t → kx (bst W s t) ≤ kx (W u) := by
  induction t with
  | zero => exact ⟨Nat.le_refl _, fun u hu => absurd hu (Nat.not_lt_zero u)⟩
  | succ t ih =>
    rw [bst, stN]
    by_cases q : kx (W t) < kx (bst W s t)
    · rw [if_pos q]
      refine ⟨by omega, fun u hu => ?_⟩
      by_cases z : u = t
      · subst z; exact Nat.le_refl _
      · have := ih.2 u (by omega)
        omega
    · rw [if_neg q]
      refine ⟨ih.1, fun u hu => ?_⟩
      by_cases z : u = t
      · subst z; omega
      · exact ih.2 u (by omega)
theorem bst_in {W : Nat → Nat} {s : Nat} (t : Nat) : bst W s t = s ∨ ∃ u, u < t ∧ bst W s t = W u := by
  induction t with
  | zero => exact Or.inl rfl
  | succ t ih =>
    rw [bst, stN]
    by_cases q : kx (W t) < kx (bst W s t)
    · rw [if_pos q]
      exact Or.inr ⟨t, Nat.lt_succ_self t, rfl⟩
    · rw [if_neg q]
      rcases ih with z | ⟨u, hu, z⟩
      · exact Or.inl z
      · exact Or.inr ⟨u, by omega, z⟩
theorem kx_inj {a b : Nat} (ha : a < 1024) (hb : b < 1024) (e : kx a = kx b) : a = b := by
  unfold kx at e
  omega
theorem bst_un {W : Nat → Nat} {s s' u T : Nat} (hs : s < 1024) (hs' : s' < 1024) (hW : ∀ t, W t < 1024) (hu : u < T) (e : s = W u) (le : ∀ t, kx (W t) ≤ kx s') : bst W s T = bst W s' T := by
  have a1 := bst_le (W := W) (s := s) T
  have a2 := bst_le (W := W) (s := s') T
  refine kx_inj (bst_lt hs hW T) (bst_lt hs' hW T) ?_
  have l1 : kx (bst W s T) ≤ kx (bst W s' T) := by
    rcases bst_in (W := W) (s := s') T with z | ⟨v, hv, z⟩
    · rw [z]
      have := a1.2 u hu
      have := le u
      omega
    · rw [z]
      exact a1.2 v hv
  have l2 : kx (bst W s' T) ≤ kx (bst W s T) := by
    rcases bst_in (W := W) (s := s) T with z | ⟨v, hv, z⟩
    · rw [z, e]
      exact a2.2 u hu
    · rw [z]
      exact a2.2 v hv
  omega
theorem kx_full : ∀ n, n < 11 → ∀ x, x < 2 ^ n → kx x ≤ kx (2 ^ n - 1) := by decide +kernel
theorem full_bits : ∀ n, n < 11 → ishl 1 (nI n) - 1 = nI (2 ^ n - 1) := by decide +kernel
def ofI (i : Nat) : Int32 := nI i - 30
def gaI (j : Nat) : Int32 := nI j - 9
theorem ofI_nx : ∀ i, i < 61 → ofI i + 1 = ofI (i + 1) ∧ ¬ 30 < ofI i := by decide +kernel
theorem gaI_nx : ∀ i, i < 19 → gaI i + 1 = gaI (i + 1) ∧ ¬ 9 < gaI i := by decide +kernel
noncomputable def wAt (h : mH) (c : Int32) (t : Nat) : Nat := wbm h c (ofI (t / 19)) (gaI (t % 19)) (gnum h)
theorem wAt_ij {h : mH} {c : Int32} {i j : Nat} (hj : j < 19) : wAt h c (19 * i + j) = wbm h c (ofI i) (gaI j) (gnum h) := by
  unfold wAt
  rw [show (19 * i + j) / 19 = i by omega, show (19 * i + j) % 19 = j by omega]
theorem wAt_lt {h : mH} (rG : RG h) {c : Int32} (t : Nat) : wAt h c t < 2 ^ gnum h := wbm_lt _
theorem p2_le {n : Nat} (h : n ≤ 10) : 2 ^ n ≤ 1024 := Nat.pow_le_pow_right (n := 2) (by decide) h
theorem kx_step {b v : Nat} (hb : b < 1024) (hv : v < 1024) : (pop v < pop b → stN b v = v) ∧ (pop b < pop v → stN b v = b) ∧ (pop v = pop b → b ≤ v → stN b v = b) ∧ (pop v = pop b → ¬ b ≤ v → stN b v = v) := by
  unfold stN kx
  refine ⟨fun q => if_pos (by omega), fun q => if_neg (by omega), fun q z => if_neg (by omega), fun q z => if_pos (by omega)⟩
theorem p_liars12 {h : mH} (rG : RG h) {c : Int32} (hc : inR c 0 1) {Q : Int32 → mH → Prop} {T : Nat} (hT : T = 1159) (K : Q (nI (bst (wAt h c) (2 ^ gnum h - 1) T)) h) : w_X12_liars c h Q := by
  unfold w_X12_liars
  obtain ⟨hn, c1, d1⟩ := rG.num
  have p2 := p2_le hn
  have wl : ∀ t, wAt h c t < 1024 := fun t => Nat.lt_of_lt_of_le (wAt_lt rG t) p2
  have sl : 2 ^ gnum h - 1 < 1024 := by have := Nat.two_pow_pos (gnum h); omega
  have bl : ∀ t, bst (wAt h c) (2 ^ gnum h - 1) t < 1024 := fun t => bst_lt sl wl t
  rw [e_12_clock, bi_1 hc]
  refine ⟨fun _ x3 e3 => ?_, fun q => absurd q (by decide)⟩
  rw [e3, d1, full_bits _ (by omega)]
  refine loop_0 (σ := Nat) (fun n i b => w_X12_liars_L21 (fun l2_17 h18 => Q l2_17 h18) Q c n (nI b) (ofI i) h) (fun i b => b = bst (wAt h c) (2 ^ gnum h - 1) (19 * i)) 61 _ rfl (fun n b e => ?_) (fun n i b hi e nx => ?_)
  · rw [show 19 * 61 = T by omega] at e
    subst e
    unfold w_X12_liars_L21
    exact ⟨fun _ => K, fun q => absurd (by decide) q⟩
  · subst e
    unfold w_X12_liars_L21
    refine ⟨fun q => absurd q (ofI_nx i hi).2, fun _ => ?_⟩
    rw [(ofI_nx i hi).1]
    refine loop_0 (σ := Nat) (fun n' j b => w_X12_liars_L31 (fun l2_14 h15 => w_X12_liars_L21 (fun l2_17 h18 => Q l2_17 h18) Q c n l2_14 (ofI (i + 1)) h15) Q c (ofI i) n' (nI b) (gaI j) h) (fun j b => b = bst (wAt h c) (2 ^ gnum h - 1) (19 * i + j)) 19 _ rfl (fun n' b e => ?_) (fun n' j b hj e nx' => ?_)
    · unfold w_X12_liars_L31
      exact ⟨fun _ => nx _ (by rw [e, show 19 * (i + 1) = 19 * i + 19 by omega]), fun q => absurd (by decide) q⟩
    · have b1024 : b < 1024 := by rw [e]; exact bl _
      have v1024 : wAt h c (19 * i + j) < 1024 := wl _
      have nb : bst (wAt h c) (2 ^ gnum h - 1) (19 * i + (j + 1)) = stN b (wAt h c (19 * i + j)) := by rw [e, show 19 * i + (j + 1) = (19 * i + j) + 1 from rfl, bst_s]
      obtain ⟨k1, k2, k3, k4⟩ := kx_step b1024 v1024
      have pv := pop_le v1024
      have pb := pop_le b1024
      unfold w_X12_liars_L31
      refine ⟨fun q => absurd q (gaI_nx j hj).2, fun _ => ?_⟩
      rw [(gaI_nx j hj).1]
      refine p_wrong12 rG ?_
      rw [← wAt_ij hj]
      refine p_bits v1024 (p_bits b1024 ⟨fun q => ?_, fun q => p_bits v1024 (p_bits b1024 ⟨fun q2 => ?_, fun q2 => ⟨fun q3 => ?_, fun q3 => ?_⟩⟩)⟩)
      · rw [nlt _ _ (by omega) (by omega)] at q
        exact nx' _ (by rw [nb, k1 q])
      · rw [nlt _ _ (by omega) (by omega)] at q
        rw [nn _ _ (by omega) (by omega)] at q2
        exact nx' _ (by rw [nb, k2 (by omega)])
      · rw [nn _ _ (by omega) (by omega)] at q2
        rw [nl _ _ (by omega) (by omega)] at q3
        exact nx' _ (by rw [nb, k3 q2 q3])
      · rw [nn _ _ (by omega) (by omega)] at q2
        rw [nl _ _ (by omega) (by omega)] at q3
        exact nx' _ (by rw [nb, k4 q2 q3])
theorem p_liars11 {h : mH} (rA : RA h) (rG : RG h) {c : Int32} {Q : Int32 → mH → Prop} {T : Nat} (hT : T = 1159) (K : Q (nI (bst (wAt h c) (wAt h c 579) T)) h) : w_X4_fewestWrong 7 c h Q := by
  unfold w_X4_fewestWrong
  obtain ⟨hn, c1, d1⟩ := rG.num
  have p2 := p2_le hn
  have wl : ∀ t, wAt h c t < 1024 := fun t => Nat.lt_of_lt_of_le (wAt_lt rG t) p2
  have bl : ∀ t, bst (wAt h c) (wAt h c 579) t < 1024 := fun t => bst_lt (wl _) wl t
  refine p_wrong11 rA rG ?_
  rw [show wbm h c 0 0 (gnum h) = wAt h c 579 from (wAt_ij (i := 30) (j := 9) (by decide)).symm]
  refine loop_0 (σ := Nat) (fun n i b => w_X4_fewestWrong_L13 (fun l3_13 h14 => Q l3_13 h14) Q 7 c n (nI b) (ofI i) h) (fun i b => b = bst (wAt h c) (wAt h c 579) (19 * i)) 61 _ rfl (fun n b e => ?_) (fun n i b hi e nx => ?_)
  · rw [show 19 * 61 = T by omega] at e
    subst e
    unfold w_X4_fewestWrong_L13
    exact ⟨fun _ => K, fun q => absurd (by decide) q⟩
  · subst e
    unfold w_X4_fewestWrong_L13
    refine ⟨fun q => absurd q (ofI_nx i hi).2, fun _ => ?_⟩
    rw [(ofI_nx i hi).1]
    refine loop_0 (σ := Nat) (fun n' j b => w_X4_fewestWrong_L24 (fun l3_10 h11 => w_X4_fewestWrong_L13 (fun l3_13 h14 => Q l3_13 h14) Q 7 c n l3_10 (ofI (i + 1)) h11) Q 7 c (ofI i) n' (nI b) (gaI j) h) (fun j b => b = bst (wAt h c) (wAt h c 579) (19 * i + j)) 19 _ rfl (fun n' b e => ?_) (fun n' j b hj e nx' => ?_)
    · unfold w_X4_fewestWrong_L24
      exact ⟨fun _ => nx _ (by rw [e, show 19 * (i + 1) = 19 * i + 19 by omega]), fun q => absurd (by decide) q⟩
    · have b1024 : b < 1024 := by rw [e]; exact bl _
      have v1024 : wAt h c (19 * i + j) < 1024 := wl _
      have nb : bst (wAt h c) (wAt h c 579) (19 * i + (j + 1)) = stN b (wAt h c (19 * i + j)) := by rw [e, show 19 * i + (j + 1) = (19 * i + j) + 1 from rfl, bst_s]
      obtain ⟨k1, k2, k3, k4⟩ := kx_step b1024 v1024
      have pv := pop_le v1024
      have pb := pop_le b1024
      unfold w_X4_fewestWrong_L24
      refine ⟨fun q => absurd q (gaI_nx j hj).2, fun _ => ?_⟩
      rw [(gaI_nx j hj).1]
      refine p_wrong11 rA rG ?_
      rw [← wAt_ij hj]
      refine p_count v1024 (p_count b1024 (fun x9 e9 => ?_))
      have e9' : x9.toInt = (pop (wAt h c (19 * i + j)) : Int) - (pop b : Int) := by rw [e9, sub_i (by rw [nI_toInt (by omega), nI_toInt (by omega)]; omega) (by rw [nI_toInt (by omega), nI_toInt (by omega)]; omega), nI_toInt (by omega), nI_toInt (by omega)]
      clear e9
      have z0 : (0 : Int32).toInt = 0 := rfl
      refine ⟨fun q => ?_, fun q => ⟨fun q2 => ?_, fun q2 => ⟨fun q3 => ?_, fun q3 => ?_⟩⟩⟩
      · rw [lt_i, z0] at q
        exact nx' _ (by rw [nb, k1 (by omega)])
      · rw [lt_i, z0] at q
        rw [eq_i, z0] at q2
        exact nx' _ (by rw [nb, k2 (by omega)])
      · rw [eq_i, z0] at q2
        rw [nl _ _ (by omega) (by omega)] at q3
        exact nx' _ (by rw [nb, k3 (by omega) q3])
      · rw [eq_i, z0] at q2
        rw [nl _ _ (by omega) (by omega)] at q3
        exact nx' _ (by rw [nb, k4 (by omega) q3])
theorem J_liars {i : Nat} {h : mH} (r : Inv i h) (a : Int32) : w_X11_liars a h (fun v h1 => w_X12_liars a h1 (fun w h2 => v = w ∧ Inv (i + 1) h2)) := by
  have u := r.up
  have rG := r.2.2.2.1
  unfold w_X11_liars
  rw [e_11_clock]
  refine b0 (fun q => ?_) (fun q => ?_)
  · show w_X12_liars a h _
    unfold w_X12_liars
    rw [e_12_clock, bi_0 q]
    exact ⟨fun z => absurd rfl z, fun _ => ⟨rfl, u⟩⟩
  · have eT : ∃ T, T = 1159 := ⟨_, rfl⟩
    obtain ⟨T, hT⟩ := eT
    refine p_liars11 r.1 rG hT (p_liars12 rG q hT ⟨?_, u⟩)
    obtain ⟨hn, c1, d1⟩ := rG.num
    have p2 := p2_le hn
    have wl : ∀ t, wAt h a t < 1024 := fun t => Nat.lt_of_lt_of_le (wAt_lt rG t) p2
    have sl : 2 ^ gnum h - 1 < 1024 := by have := Nat.two_pow_pos (gnum h); omega
    rw [bst_un (wl 579) sl wl (show 579 < T by omega) rfl (fun t => kx_full _ (by omega) _ (wAt_lt rG t))]
