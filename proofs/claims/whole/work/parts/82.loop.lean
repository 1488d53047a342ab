/-! PURE: the law's loop; printed by wip/gen/loop.py -/
theorem cmp_rf (v : Int64) : lg_cmp v v = 0 := by
  unfold lg_cmp
  rw [if_neg (by rw [gt_iff_lt, Int64.lt_iff_toInt_lt]; omega), if_pos rfl]
theorem law_loop {L : Nat} {xs : Nat → Int32} {K : mH → Prop} {Q : Int32 → mH → Prop} (hL : L ≤ 3072) (hK : ∀ h, K h) : ∀ (n i : Nat) (h : mH), i ≤ 520 → L < 6 * (i + n) + 6 → Inv i h → w_L_law_L18 L xs K Q (n + 1) (nI (6 * i)) h := by
  have sub : ∀ i : Nat, i ≤ 520 → (nI L - 6 < nI (6 * i) ↔ L < 6 * i + 6) := fun i hi => by
    rw [lt_i, Int32.toInt_sub, nI_toInt (by omega), nI_toInt (by omega), show ((6 : Int32)).toInt = 6 from rfl, Int.bmod_eq_of_le (by omega) (by omega)]
    omega
  intro n
  induction n with
  | zero =>
    intro i h hi hn r
    unfold w_L_law_L18
    exact ⟨fun _ => hK h, fun q => absurd ((sub i hi).mpr (by omega)) q⟩
  | succ n ih =>
    intro i h hi hn r
    have vv : ∀ c, c ≤ 5 → L ≥ 6 * i + 6 → vp_in (nI (6 * i) + nI c) L := fun c hc q => by
      rw [nI_add]
      exact vp_nI (by omega) (by omega)
    have nx : nI (6 * i) + 6 = nI (6 * (i + 1)) := by
      rw [show (6 : Int32) = nI 6 from rfl, nI_add]
      rfl
    unfold w_L_law_L18
    refine ⟨fun _ => hK h, fun q => ?_⟩
    have hq : 6 * i + 6 ≤ L := Nat.not_lt.mp (fun z => q ((sub i hi).mpr z))
    have v1 : vp_in (nI (6 * i) + 1) L := vv 1 (by decide) hq
    have v2 : vp_in (nI (6 * i) + 2) L := vv 2 (by decide) hq
    have v3 : vp_in (nI (6 * i) + 3) L := vv 3 (by decide) hq
    have v4 : vp_in (nI (6 * i) + 4) L := vv 4 (by decide) hq
    have v5 : vp_in (nI (6 * i) + 5) L := vv 5 (by decide) hq
    have go : ∀ h1 : mH, Inv (i + 1) h1 → w_L_law_L18 L xs K Q (n + 1) (nI (6 * i) + 6) h1 := fun h1 r1 => by
      rw [nx]
      exact ih (i + 1) h1 (by omega) (by omega) r1
    have fi : ∀ {v w : Int32} {h1 : mH}, v = w ∧ Inv (i + 1) h1 → (v = w → w_L_law_L18 L xs K Q (n + 1) (nI (6 * i) + 6) h1) ∧ (¬ v = w → Q 0 h1) := fun z => ⟨fun _ => go _ z.2, fun y => absurd z.1 y⟩
    have fl : ∀ {v w : Int64} {h1 : mH}, v = w ∧ Inv (i + 1) h1 → (lg_cmp v w = 0 → w_L_law_L18 L xs K Q (n + 1) (nI (6 * i) + 6) h1) ∧ (¬ lg_cmp v w = 0 → Q 0 h1) := fun z => ⟨fun _ => go _ z.2, fun y => absurd (by rw [z.1]; exact cmp_rf _) y⟩
    refine ⟨vp_nI (by omega) (by omega), fun x1 e1 => ?_⟩
    generalize w_L_law_L18 L xs K Q (n + 1) = W at *
    refine ⟨?_, ?_, ?_, ?_, ?_, ?_, ?_, ?_, ?_, ?_, ?_, ?_, ?_, ?_, ?_, ?_, ?_, ?_, ?_, ?_, ?_, ?_, ?_, ?_, ?_, ?_, ?_, ?_, ?_, ?_, ?_, ?_, ?_, ?_, ?_, ?_, ?_, ?_, fun _ => go h r.up⟩
    · exact fun _ => ⟨v1, v2, v3, mo_X11_mend (fun _ _ z => ⟨v1, v2, v3, (by refine mo_X12_mend (fun _ _ => ?_) z; exact fi)⟩) (J_mend r _ _ _)⟩
    · exact fun _ => ⟨v1, v2, mo_X11_of (fun _ _ z => ⟨v1, v2, (by refine mo_X12_of (fun _ _ => ?_) z; exact fi)⟩) (J_of r _ _)⟩
    · exact fun _ => ⟨v1, v2, v3, mo_X11_shown (fun _ _ z => ⟨v1, v2, v3, (by refine mo_X12_shown (fun _ _ => ?_) z; exact fi)⟩) (J_shown r _ _ _)⟩
    · exact fun _ => ⟨v1, mo_X11_feed (fun _ _ z => ⟨v1, (by refine mo_X12_feed (fun _ _ => ?_) z; exact fi)⟩) (J_feed r _)⟩
    · exact fun _ => mo_X11_law (fun _ _ z => (by refine mo_X12_law (fun _ _ => ?_) z; exact fi)) (J_law r)
    · exact fun _ => ⟨v1, mo_X11_weight (fun _ _ z => ⟨v1, (by refine mo_X12_weight (fun _ _ => ?_) z; exact fi)⟩) (J_weight r _)⟩
    · exact fun _ => ⟨v1, v2, mo_X11_sight (fun _ _ z => ⟨v1, v2, (by refine mo_X12_sight (fun _ _ => ?_) z; exact fi)⟩) (J_sight r _ _)⟩
    · exact fun _ => ⟨v1, v2, v3, mo_X11_sights (fun _ _ z => ⟨v1, v2, v3, (by refine mo_X12_sights (fun _ _ => ?_) z; exact fi)⟩) (J_sights r _ _ _)⟩
    · exact fun _ => mo_X11_forget (fun _ _ z => (by refine mo_X12_forget (fun _ _ => ?_) z; exact fi)) (J_forget r)
    · exact fun _ => ⟨v1, mo_X11_fits (fun _ _ z => ⟨v1, (by refine mo_X12_fits (fun _ _ => ?_) z; exact fi)⟩) (J_fits r _)⟩
    · exact fun _ => ⟨v1, v2, mo_X11_chance (fun _ _ z => ⟨v1, v2, (by refine mo_X12_chance (fun _ _ => ?_) z; exact fi)⟩) (J_chance r _ _)⟩
    · exact fun _ => mo_X11_likely (fun _ _ z => (by refine mo_X12_likely (fun _ _ => ?_) z; exact fi)) (J_likely r)
    · exact fun _ => ⟨v1, mo_X11_tells (fun _ _ z => ⟨v1, (by refine mo_X12_tells (fun _ _ => ?_) z; exact fi)⟩) (J_tells r _)⟩
    · exact fun _ => ⟨v1, v2, mo_X11_next (fun _ _ z => ⟨v1, v2, (by refine mo_X12_next (fun _ _ => ?_) z; exact fi)⟩) (J_next r _ _)⟩
    · exact fun _ => ⟨v1, v2, v3, mo_X11_lot (fun _ _ z => ⟨v1, v2, v3, (by refine mo_X12_lot (fun _ _ => ?_) z; exact fi)⟩) (J_lot r _ _ _)⟩
    · exact fun _ => ⟨v1, v2, mo_X11_gun (fun _ _ z => ⟨v1, v2, (by refine mo_X12_gun (fun _ _ => ?_) z; exact fi)⟩) (J_gun r _ _)⟩
    · exact fun _ => ⟨v1, v2, mo_X11_guess (fun _ _ z => ⟨v1, v2, (by refine mo_X12_guess (fun _ _ => ?_) z; exact fi)⟩) (J_guess r _ _)⟩
    · exact fun _ => ⟨v1, mo_X11_liars (fun _ _ z => ⟨v1, (by refine mo_X12_liars (fun _ _ => ?_) z; exact fi)⟩) (J_liars r _)⟩
    · exact fun _ => ⟨v1, v2, v3, mo_X11_agree (fun _ _ z => ⟨v1, v2, v3, (by refine mo_X12_agree (fun _ _ => ?_) z; exact fi)⟩) (J_agree r _ _ _)⟩
    · exact fun _ => ⟨v1, v2, v3, mo_X11_meet (fun _ _ z => ⟨v1, v2, v3, (by refine mo_X12_meet (fun _ _ => ?_) z; exact fi)⟩) (J_meet r _ _ _)⟩
    · exact fun _ => ⟨v1, v2, mo_X11_round (fun _ _ z => ⟨v1, v2, (by refine mo_X12_round (fun _ _ => ?_) z; exact fi)⟩) (J_round r _ _)⟩
    · exact fun _ => ⟨v1, v2, mo_X11_set (fun _ _ z => ⟨v1, v2, (by refine mo_X12_set (fun _ _ => ?_) z; exact fi)⟩) (J_set r (by omega) _ _)⟩
    · exact fun _ => ⟨v1, v2, mo_X11_led (fun _ _ z => ⟨v1, v2, (by refine mo_X12_led (fun _ _ => ?_) z; exact fi)⟩) (J_led r _ _)⟩
    · exact fun _ => ⟨v1, mo_X11_judge (fun _ _ z => ⟨v1, (by refine mo_X12_judge (fun _ _ => ?_) z; exact fi)⟩) (J_judge r _)⟩
    · exact fun _ => mo_X11_image (fun _ _ z => (by refine mo_X12_image (fun _ _ => ?_) z; exact fi)) (J_image r)
    · exact fun _ => mo_X11_back (fun _ _ z => (by refine mo_X12_back (fun _ _ => ?_) z; exact fi)) (J_back r)
    · exact fun _ => mo_X11_undo (fun _ _ z => (by refine mo_X12_undo (fun _ _ => ?_) z; exact fi)) (J_undo r)
    · exact fun _ => mo_X11_redo (fun _ _ z => (by refine mo_X12_redo (fun _ _ => ?_) z; exact fi)) (J_redo r)
    · exact fun _ => ⟨v1, mo_X11_body (fun _ _ z => ⟨v1, (by refine mo_X12_body (fun _ _ => ?_) z; exact fi)⟩) (J_body r _)⟩
    · exact fun _ => ⟨v1, v2, v3, mo_X11_act (fun _ _ z => ⟨v1, v2, v3, (by refine mo_X12_act (fun _ _ => ?_) z; exact fi)⟩) (J_act r _ _ _)⟩
    · exact fun _ => ⟨v1, mo_X11_trace (fun _ _ z => ⟨v1, (by refine mo_X12_trace (fun _ _ => ?_) z; exact fi)⟩) (J_trace r _)⟩
    · exact fun _ => ⟨v1, v2, mo_X11_keep (fun _ _ z => ⟨v1, v2, (by refine mo_X12_keep (fun _ _ => ?_) z; exact fi)⟩) (J_keep r _ _)⟩
    · exact fun _ => ⟨v1, v2, v3, mo_X11_row (fun _ _ z => ⟨v1, v2, v3, (by refine mo_X12_row (fun _ _ => ?_) z; exact fi)⟩) (J_row r _ _ _)⟩
    · exact fun _ => ⟨v1, v2, v3, v4, mo_X11_put (fun _ _ z => ⟨v1, v2, v3, v4, (by refine mo_X12_put (fun _ _ => ?_) z; exact fi)⟩) (J_put r _ _ _)⟩
    · exact fun _ => ⟨v1, v2, mo_X11_element (fun _ _ z => ⟨v1, v2, (by refine mo_X12_element (fun _ _ => ?_) z; exact fl)⟩) (J_element r _ _)⟩
    · exact fun _ => ⟨v1, v2, v3, v4, v5, mo_X11_shift (fun _ _ z => ⟨v1, v2, v3, v4, v5, (by refine mo_X12_shift (fun _ _ => ?_) z; exact fi)⟩) (J_shift r _ _ _ _ _)⟩
    · exact fun _ => ⟨v1, v2, mo_X11_taken (fun _ _ z => ⟨v1, v2, (by refine mo_X12_taken (fun _ _ => ?_) z; exact fi)⟩) (J_taken r _ _)⟩
    · exact fun _ => ⟨v1, mo_X11_count (fun _ _ z => ⟨v1, (by refine mo_X12_count (fun _ _ => ?_) z; exact fi)⟩) (J_count r _)⟩
