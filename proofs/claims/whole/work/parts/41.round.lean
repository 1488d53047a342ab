/-! PURE: round -/
theorem abs_le {x b : Int32} (h1 : -2147483647 ≤ x.toInt) (hb : ¬ b < 0) : iab x ≤ b ↔ ¬ b < x ∧ -b ≤ x := by
  have h0 : (0 : Int32).toInt = 0 := rfl
  have h2 := Int32.toInt_lt x
  have h3 := Int32.toInt_lt b
  rw [lt_i, h0] at hb
  have nb : (-b).toInt = -b.toInt := by
    rw [Int32.toInt_neg]
    exact Int.bmod_eq_of_le (by omega) (by omega)
  unfold iab
  by_cases q : 0 ≤ x
  · rw [if_pos q, lt_i, le_i, le_i, nb]
    rw [le_i, h0] at q
    omega
  · rw [if_neg q, lt_i, le_i, le_i, nb, sub_i (by rw [h0]; omega) (by rw [h0]; omega), h0]
    rw [le_i, h0] at q
    omega
theorem div100 (y : Int32) : -2147483647 ≤ (y / 100).toInt := by
  have h100 : (100 : Int32).toInt = 100 := rfl
  have h2 := Int32.toInt_lt y
  have h3 := Int32.le_toInt y
  rw [div_i (by decide), h100]
  have : (y.toInt.tdiv 100).natAbs = y.toInt.natAbs / 100 := Int.natAbs_tdiv y.toInt 100
  omega
def rdo (b g : Int32) (j : Nat) : Prop := iab ((nI (1 + j) * g) / 100) ≤ b
theorem p_rd11 {h : mH} {J : Nat} {K Q : _} {b g : Int32} (hJ : J ≤ 720) (st : J = 720 ∨ ¬ rdo b g J) (go : ∀ j, j < J → ¬ (j = 720 ∨ ¬ rdo b g j)) (f : J = 720 → K h) (f2 : ¬ J = 720 → Q (nI J) h) : ∃ n, w_X11_round_L31 K Q b g n 1 h := by
  have := loop_0 (σ := mH) (fun n i s => w_X11_round_L31 K Q b g n (nI (1 + i)) s) (fun i s => s = h) J h rfl (fun n s e => ?_) (fun n i s hi e nx => ?_)
  · exact this
  · subst e
    unfold w_X11_round_L31
    rw [show (720 : Int32) = nI 720 from rfl, nlt _ _ (by omega) (by omega)]
    refine ⟨fun q => f (by omega), fun q => ⟨fun q2 => ?_, fun _ => ?_⟩⟩
    · exact absurd q2 (st.elim (fun w => by omega) id)
    · rw [Nat.add_comm 1 J, nI_pred]
      exact f2 (by omega)
  · subst e
    unfold w_X11_round_L31
    rw [show (720 : Int32) = nI 720 from rfl, nlt _ _ (by omega) (by omega)]
    refine ⟨fun q => absurd q (by omega), fun q => ⟨fun q2 => ?_, fun q2 => absurd (Or.inr q2) (go i hi)⟩⟩
    rw [nI_1]
    exact nx _ rfl
theorem p_rd12 {h : mH} {J : Nat} {K Q : _} {a b g : Int32} (ha : inR a 0 1) (hb : ¬ b < 0) (eg : gi h 55 a.toNatClampNeg = g) (hJ : J ≤ 720) (st : J = 720 ∨ ¬ rdo b g J) (go : ∀ j, j < J → ¬ (j = 720 ∨ ¬ rdo b g j)) (f : J = 720 → K (nI J) h) (f2 : ¬ J = 720 → Q (nI J) h) : ∃ n, w_X12_round_L24 K Q a b n 0 1 h := by
  have := loop_0 (σ := mH) (fun n i s => w_X12_round_L24 K Q a b n (nI i) (nI (1 + i)) s) (fun i s => s = h) J h rfl (fun n s e => ?_) (fun n i s hi e nx => ?_)
  · exact this
  · subst e
    unfold w_X12_round_L24
    rw [show (720 : Int32) = nI 720 from rfl, nlt _ _ (by omega) (by omega), eg]
    refine ⟨fun q => f (by omega), fun q => ⟨vp_01 ha, fun x5 e5 => ⟨fun _ => f2 (by omega), fun q2 => ⟨fun q3 => ?_, fun _ => f2 (by omega)⟩⟩⟩⟩
    subst e5
    exact absurd ((abs_le (div100 _) hb).mpr ⟨q2, q3⟩) (st.elim (fun w => by omega) id)
  · subst e
    have y : rdo b g i := Classical.byContradiction fun w => go i hi (Or.inr w)
    have y2 := (abs_le (div100 _) hb).mp y
    unfold w_X12_round_L24
    rw [show (720 : Int32) = nI 720 from rfl, nlt _ _ (by omega) (by omega), eg]
    refine ⟨fun q => absurd q (by omega), fun q => ⟨vp_01 ha, fun x5 e5 => ⟨fun q2 => ?_, fun q2 => ⟨fun q3 => ?_, fun q3 => ?_⟩⟩⟩⟩
    · subst e5
      exact absurd q2 y2.1
    · have := nx _ rfl
      rw [nI_1, Nat.add_assoc 1 i 1, Nat.add_comm 1 i]
      exact this
    · subst e5
      exact absurd y2.2 q3
theorem J_round {i : Nat} {h : mH} (r : Inv i h) (a b : Int32) : w_X11_round a b h (fun v h1 => w_X12_round a b h1 (fun w h2 => v = w ∧ Inv (i + 1) h2)) := by
  have u := r.up
  have rA := r.1
  have p2 : ∀ {Q : Int32 → mH → Prop}, (¬ (inR a 0 1 ∧ inR b 0 60) → Q (-1) h) → (inR a 0 1 → inR b 0 60 → ∃ n, w_X12_round_L24 (fun l3_6 h7 => Q l3_6 h7) Q a b n 0 1 h) → w_X12_round a b h Q := by
    intro Q f g
    unfold w_X12_round
    rw [e_12_clock]
    refine b0 (fun q => f (fun z => q z.1)) (fun ha => ?_)
    rw [e_12_in]
    exact b1 (fun hb => g ha hb) (fun q => f (fun z => q z.2))
  have n1 : ¬ (inR a 0 1 ∧ inR b 0 60) → w_X12_round a b h (fun w h2 => -1 = w ∧ Inv (i + 1) h2) := fun q => p2 (fun _ => ⟨rfl, u⟩) (fun y1 y2 => absurd ⟨y1, y2⟩ q)
  unfold w_X11_round
  rw [e_11_clock]
  refine b0 (fun q => n1 (fun z => q z.1)) (fun ha => ⟨fun q => n1 (fun z => z.2.1 q), fun q1 => ⟨fun q2 => ?_, fun q => n1 (fun z => z.2.2 ?_)⟩⟩)
  · have hb : inR b 0 60 := ⟨q1, fun z => by rw [le_i] at q2; rw [lt_i] at z; omega⟩
    rw [e_10_gain ha, rA.gain ha]
    obtain ⟨J, hJ, st, go⟩ := least (p := fun j => j = 720 ∨ ¬ rdo b (gi h 55 a.toNatClampNeg) j) 720 (Or.inl rfl)
    have fin : ∀ v, v = nI J → w_X12_round a b h (fun w h2 => v = w ∧ Inv (i + 1) h2) := fun v ev => 
      p2 (fun q => absurd ⟨ha, hb⟩ q) (fun _ _ => p_rd12 ha q1 rfl hJ st go (fun _ => ⟨ev, u⟩) (fun _ => ⟨ev, u⟩))
    exact p_rd11 hJ st go (fun q => fin _ (by rw [q]; rfl)) (fun _ => fin _ rfl)
  · rw [lt_i]
    rw [le_i] at q
    omega
