/-! PURE: the reference reads an operand, the five kinds of joining, a whole expression -/
theorem rk_inv {c : Int32} : (rk c = 0 → c = 124) ∧ (rk c = 1 → c = 38) ∧ (rk c = 2 → c = 60 ∨ c = 61 ∨ c = 62) ∧ (rk c = 3 → c = 43 ∨ c = 45) ∧ (rk c = 4 → c = 37 ∨ c = 42 ∨ c = 47) := by
  unfold rk
  by_cases h1 : c = 124
  · rw [if_pos h1]; exact ⟨fun _ => h1, fun q => by omega, fun q => by omega, fun q => by omega, fun q => by omega⟩
  · rw [if_neg h1]
    by_cases h2 : c = 38
    · rw [if_pos h2]; exact ⟨fun q => by omega, fun _ => h2, fun q => by omega, fun q => by omega, fun q => by omega⟩
    · rw [if_neg h2]
      by_cases h3 : c = 60 ∨ c = 61 ∨ c = 62
      · rw [if_pos h3]; exact ⟨fun q => by omega, fun q => by omega, fun _ => h3, fun q => by omega, fun q => by omega⟩
      · rw [if_neg h3]
        by_cases h4 : c = 43 ∨ c = 45
        · rw [if_pos h4]; exact ⟨fun q => by omega, fun q => by omega, fun q => by omega, fun _ => h4, fun q => by omega⟩
        · rw [if_neg h4]
          by_cases h5 : c = 37 ∨ c = 42 ∨ c = 47
          · rw [if_pos h5]; exact ⟨fun q => by omega, fun q => by omega, fun q => by omega, fun q => by omega, fun _ => h5⟩
          · rw [if_neg h5]; exact ⟨fun q => by omega, fun q => by omega, fun q => by omega, fun q => by omega, fun q => by omega⟩
section READ
variable {hA : mH} {n : Nat} {ch : Nat → Int32}
theorem DR.pos (H : HR hA n ch) {h : mH} {f p0 L0 : Nat} (D : DR hA n h f p0 L0) : 0 ≤ gi h 53 26 := by
  have hn := H.1
  have hf := D.2.1
  rw [D.2.2.1]
  exact nI_pos' (by omega)
theorem SR.neg {h : mH} {p o : Nat} {l : List qS} (S : SR hA n h p o l) : ¬ 0 ≤ gi h 53 26 := by
  rw [S.2.1]
  decide
theorem rk_lt (H : HR hA n ch) {p r : Nat} (hr : r ≤ 4) (z : rk (ch p) = r) : p < n := ch_lt H.2.2.2 (fun q => by
  rw [q] at z
  have : rk (-1) = 9 := by decide
  omega)
theorem r_product (H : HR hA n ch) {N o : Nat} {X : Nat → qR} (gX : gd n X) (hX : rdR hA n o (wr_2 N).1 X) : rdR hA n o (wr_2 (N + 1)).2.1 (pj ch n X 4) := by
  refine r_pj (W := fun Q m h => w_X12_product_L4 (wr_2 N).1 (wr_2 N).2.1 (wr_2 N).2.2.1 (wr_2 N).2.2.2.1 (wr_2 N).2.2.2.2.1 (wr_2 N).2.2.2.2.2 (fun h13 => Q h13) Q m h) (Z := fun Q m h => w_X12_product_L4 (wr_2 N).1 (wr_2 N).2.1 (wr_2 N).2.2.1 (wr_2 N).2.2.2.1 (wr_2 N).2.2.2.2.1 (wr_2 N).2.2.2.2.2 (fun h13 => Q h13) Q m h) H (by decide) gX hX (fun Q m h f p0 L0 D K => ?_) (fun Q m h p l S z K => ?_) (fun Q m h p l S z K => ?_) (fun q => by omega) (fun _ Q m h q => q)
  · unfold w_X12_product_L4
    exact ⟨fun _ => K, fun q => absurd (D.pos H) q⟩
  · unfold w_X12_product_L4
    refine ⟨fun q => absurd q S.neg, fun _ => r_look H S ⟨fun e => absurd (by rw [e]; decide) z, fun _ => r_look H S ⟨fun e => absurd (by rw [e]; decide) z, fun _ => r_look H S ⟨fun _ => K, fun e => absurd (by rw [e]; decide) z⟩⟩⟩⟩
  · have J : w_X12_product_J38 (wr_2 N).1 (wr_2 N).2.1 (wr_2 N).2.2.1 (wr_2 N).2.2.2.1 (wr_2 N).2.2.2.2.1 (wr_2 N).2.2.2.2.2 (w_X12_product_L4 (wr_2 N).1 (wr_2 N).2.1 (wr_2 N).2.2.1 (wr_2 N).2.2.2.1 (wr_2 N).2.2.2.2.1 (wr_2 N).2.2.2.2.2 (fun h13 => Q h13) Q m) Q h := by
      unfold w_X12_product_J38
      exact r_look H S (fun h6 e6 => K h6 (r_stp S (rk_lt H (by decide) z) e6))
    unfold w_X12_product_L4
    refine ⟨fun q => absurd q S.neg, fun _ => r_look H S ⟨fun _ => J, fun n1 => r_look H S ⟨fun _ => J, fun n2 => r_look H S ⟨fun n3 => ?_, fun _ => J⟩⟩⟩⟩
    rcases rk_inv.2.2.2.2 z with q | q | q
    · exact absurd q n3
    · exact absurd q n1
    · exact absurd q n2
theorem r_sum (H : HR hA n ch) {N o : Nat} {X : Nat → qR} (gX : gd n X) (hX : rdR hA n o (wr_2 N).2.1 X) : rdR hA n o (wr_2 (N + 1)).2.2.1 (pj ch n X 3) := by
  refine r_pj (W := fun Q m h => w_X12_sum_L4 (wr_2 N).1 (wr_2 N).2.1 (wr_2 N).2.2.1 (wr_2 N).2.2.2.1 (wr_2 N).2.2.2.2.1 (wr_2 N).2.2.2.2.2 (fun h13 => Q h13) Q m h) (Z := fun Q m h => w_X12_sum_L4 (wr_2 N).1 (wr_2 N).2.1 (wr_2 N).2.2.1 (wr_2 N).2.2.2.1 (wr_2 N).2.2.2.2.1 (wr_2 N).2.2.2.2.2 (fun h13 => Q h13) Q m h) H (by decide) gX hX (fun Q m h f p0 L0 D K => ?_) (fun Q m h p l S z K => ?_) (fun Q m h p l S z K => ?_) (fun q => by omega) (fun _ Q m h q => q)
  · unfold w_X12_sum_L4
    exact ⟨fun _ => K, fun q => absurd (D.pos H) q⟩
  · unfold w_X12_sum_L4
    refine ⟨fun q => absurd q S.neg, fun _ => r_look H S ⟨fun e => absurd (by rw [e]; decide) z, fun _ => r_look H S ⟨fun _ => K, fun e => absurd (by rw [e]; decide) z⟩⟩⟩
  · have J : w_X12_sum_J29 (wr_2 N).1 (wr_2 N).2.1 (wr_2 N).2.2.1 (wr_2 N).2.2.2.1 (wr_2 N).2.2.2.2.1 (wr_2 N).2.2.2.2.2 (w_X12_sum_L4 (wr_2 N).1 (wr_2 N).2.1 (wr_2 N).2.2.1 (wr_2 N).2.2.2.1 (wr_2 N).2.2.2.2.1 (wr_2 N).2.2.2.2.2 (fun h13 => Q h13) Q m) Q h := by
      unfold w_X12_sum_J29
      exact r_look H S (fun h6 e6 => K h6 (r_stp S (rk_lt H (by decide) z) e6))
    unfold w_X12_sum_L4
    refine ⟨fun q => absurd q S.neg, fun _ => r_look H S ⟨fun _ => J, fun n1 => r_look H S ⟨fun n3 => ?_, fun _ => J⟩⟩⟩
    rcases rk_inv.2.2.2.1 z with q | q
    · exact absurd q n1
    · exact absurd q n3
theorem r_both (H : HR hA n ch) {N o : Nat} {X : Nat → qR} (gX : gd n X) (hX : rdR hA n o (wr_2 N).2.2.2.1 X) : rdR hA n o (wr_2 (N + 1)).2.2.2.2.1 (pj ch n X 1) := by
  refine r_pj (W := fun Q m h => w_X12_both_L4 (wr_2 N).1 (wr_2 N).2.1 (wr_2 N).2.2.1 (wr_2 N).2.2.2.1 (wr_2 N).2.2.2.2.1 (wr_2 N).2.2.2.2.2 (fun h13 => Q h13) Q m h) (Z := fun Q m h => w_X12_both_L4 (wr_2 N).1 (wr_2 N).2.1 (wr_2 N).2.2.1 (wr_2 N).2.2.2.1 (wr_2 N).2.2.2.2.1 (wr_2 N).2.2.2.2.2 (fun h13 => Q h13) Q m h) H (by decide) gX hX (fun Q m h f p0 L0 D K => ?_) (fun Q m h p l S z K => ?_) (fun Q m h p l S z K => ?_) (fun q => by omega) (fun _ Q m h q => q)
  · unfold w_X12_both_L4
    exact ⟨fun _ => K, fun q => absurd (D.pos H) q⟩
  · unfold w_X12_both_L4
    exact ⟨fun q => absurd q S.neg, fun _ => r_look H S ⟨fun _ => K, fun e => absurd (by rw [e]; decide) z⟩⟩
  · unfold w_X12_both_L4
    have e := rk_inv.2.1 z
    refine ⟨fun q => absurd q S.neg, fun _ => r_look H S ⟨fun q => absurd e q, fun _ h6 e6 => ?_⟩⟩
    have := K h6 (r_stp S (rk_lt H (by decide) z) e6)
    rw [e] at this
    exact this
theorem r_either (H : HR hA n ch) {N o : Nat} {X : Nat → qR} (gX : gd n X) (hX : rdR hA n o (wr_2 N).2.2.2.2.1 X) : rdR hA n o (wr_2 (N + 1)).2.2.2.2.2 (pj ch n X 0) := by
  refine r_pj (W := fun Q m h => w_X12_either_L4 (wr_2 N).1 (wr_2 N).2.1 (wr_2 N).2.2.1 (wr_2 N).2.2.2.1 (wr_2 N).2.2.2.2.1 (wr_2 N).2.2.2.2.2 (fun h13 => Q h13) Q m h) (Z := fun Q m h => w_X12_either_L4 (wr_2 N).1 (wr_2 N).2.1 (wr_2 N).2.2.1 (wr_2 N).2.2.2.1 (wr_2 N).2.2.2.2.1 (wr_2 N).2.2.2.2.2 (fun h13 => Q h13) Q m h) H (by decide) gX hX (fun Q m h f p0 L0 D K => ?_) (fun Q m h p l S z K => ?_) (fun Q m h p l S z K => ?_) (fun q => by omega) (fun _ Q m h q => q)
  · unfold w_X12_either_L4
    exact ⟨fun _ => K, fun q => absurd (D.pos H) q⟩
  · unfold w_X12_either_L4
    exact ⟨fun q => absurd q S.neg, fun _ => r_look H S ⟨fun _ => K, fun e => absurd (by rw [e]; decide) z⟩⟩
  · unfold w_X12_either_L4
    have e := rk_inv.1 z
    refine ⟨fun q => absurd q S.neg, fun _ => r_look H S ⟨fun q => absurd e q, fun _ h6 e6 => ?_⟩⟩
    have := K h6 (r_stp S (rk_lt H (by decide) z) e6)
    rw [e] at this
    exact this
theorem r_compared (H : HR hA n ch) {N o : Nat} {X : Nat → qR} (gX : gd n X) (hX : rdR hA n o (wr_2 N).2.2.1 X) : rdR hA n o (wr_2 (N + 1)).2.2.2.1 (pj ch n X 2) := by
  intro p l h Q S hl fa su
  have hp := S.2.2.2.1
  show wb_X12_compared (wr_2 N).1 (wr_2 N).2.1 (wr_2 N).2.2.1 (wr_2 N).2.2.2.1 (wr_2 N).2.2.2.2.1 (wr_2 N).2.2.2.2.2 h Q
  unfold wb_X12_compared
  refine hX p l h _ S hl (fun f ef h1 D1 => ?_) (fun p' l' ef h1 S1 => ?_)
  · exact r_lookD H D1 (fun c => ⟨fun _ => fa f (by unfold pj; rw [ef, rb_l]) h1 D1, fun q => absurd (D1.pos H) q⟩)
  · obtain ⟨a1, a2, a3, a4⟩ := (gX p hp).2 p' l' ef
    refine r_loop (W := fun _ h1 => w_X12_look h1 (fun v3 h2 => ((0 ≤ gi h2 53 26 → Q h2) ∧ (¬ 0 ≤ gi h2 53 26 → ((v3 = 60 → w_X12_compared_J35 (wr_2 N).1 (wr_2 N).2.1 (wr_2 N).2.2.1 (wr_2 N).2.2.2.1 (wr_2 N).2.2.2.2.1 (wr_2 N).2.2.2.2.2 Q v3 h2) ∧ (¬ v3 = 60 → ((v3 = 61 → w_X12_compared_J35 (wr_2 N).1 (wr_2 N).2.1 (wr_2 N).2.2.1 (wr_2 N).2.2.2.1 (wr_2 N).2.2.2.2.1 (wr_2 N).2.2.2.2.2 Q v3 h2) ∧ (¬ v3 = 61 → ((v3 = 62 → w_X12_compared_J35 (wr_2 N).1 (wr_2 N).2.1 (wr_2 N).2.2.1 (wr_2 N).2.2.2.1 (wr_2 N).2.2.2.2.1 (wr_2 N).2.2.2.2.2 Q v3 h2) ∧ (¬ v3 = 62 → Q h2))))))))))
      (Z := fun _ h1 => Q h1) H Q (r := 2) (by decide) gX hX (fun m h2 f p0 L0 D K => ?_) (fun m h2 p2 l2 S2 z K => ?_) (fun m h2 p2 l2 S2 z K => ?_) (fun _ _ _ q => q) (fun q => absurd rfl q) l p hl (n - p') p' l' h1 (Nat.le_refl _) (by omega) a3 S1 (fun f e => fa f ?_) (fun p2 l2 e => su p2 l2 ?_)
    · exact r_lookD H D (fun c => ⟨fun _ => K, fun q => absurd (D.pos H) q⟩)
    · exact r_look H S2 ⟨fun q => absurd q S2.neg, fun _ => ⟨fun e => absurd (by rw [e]; decide) z, fun _ => ⟨fun e => absurd (by rw [e]; decide) z, fun _ => ⟨fun e => absurd (by rw [e]; decide) z, fun _ => K⟩⟩⟩⟩
    · have J : w_X12_compared_J35 (wr_2 N).1 (wr_2 N).2.1 (wr_2 N).2.2.1 (wr_2 N).2.2.2.1 (wr_2 N).2.2.2.2.1 (wr_2 N).2.2.2.2.2 Q (ch p2) h2 := by
        unfold w_X12_compared_J35
        exact fun h6 e6 => K h6 (r_stp S2 (rk_lt H (by decide) z) e6)
      refine r_look H S2 ⟨fun q => absurd q S2.neg, fun _ => ⟨fun _ => J, fun n1 => ⟨fun _ => J, fun n2 => ⟨fun _ => J, fun n3 => ?_⟩⟩⟩⟩
      rcases rk_inv.2.2.1 z with q | q | q
      · exact absurd q n1
      · exact absurd q n2
      · exact absurd q n3
    · unfold pj
      rw [ef, rb_r]
      exact e
    · unfold pj
      rw [ef, rb_r]
      exact e
theorem r_five (H : HR hA n ch) {F o : Nat} {X : Nat → qR} (gX : gd n X) (hX : ∀ N, F ≤ N → rdR hA n o (wr_2 N).1 X) {N : Nat} (hN : F + 5 ≤ N) : rdR hA n o (wr_2 N).2.2.2.2.2 (pk ch n X 5) := by
  obtain ⟨M, rfl⟩ : ∃ M, N = M + 1 + 1 + 1 + 1 + 1 := ⟨N - 5, by omega⟩
  have he := H.2.2.2
  exact r_either H (gd_pk he gX 4) (r_both H (gd_pk he gX 3) (r_compared H (gd_pk he gX 2) (r_sum H (gd_pk he gX 1) (r_product H gX (hX M (by omega))))))
theorem r_operand (H : HR hA n ch) {N o : Nat} {b : Bool} {E O : Nat → qR} (ho : o ≤ 6) (hb : b = true ↔ o < 6) (gE : b = true → gd n E) (gO : b = true → gd n O) (hE : b = true → rdR hA n (o + 1) (wr_2 N).2.2.2.2.2 E) (hO : b = true → rdR hA n (o + 1) (wr_2 N).1 O) : rdR hA n o (wr_2 (N + 1)).1 (po ch b E O) := by
  intro p l h Q S hl fa su
  show wb_X12_operand (wr_2 N).1 (wr_2 N).2.1 (wr_2 N).2.2.1 (wr_2 N).2.2.2.1 (wr_2 N).2.2.2.2.1 (wr_2 N).2.2.2.2.2 h Q
  have hp := S.2.2.2.1
  have hn := H.1
  have he := H.2.2.2
  have hlen : l.length ≤ 120 := by omega
  have dn : ∀ {f p0 L0 : Nat} {h7 h8 : mH}, DR hA n h7 f p0 L0 → h8 = si h7 53 27 (gi h7 53 27 - 1) → DR hA n h8 f p0 L0 := fun {f p0 L0 h7 h8} D e => by
    obtain ⟨fr, hf, e0, p1, m, e1, a1, a2, a3, a4⟩ := D
    subst e
    exact ⟨fr.si rfl, hf, e0, p1, m, e1, a1, a2, a3, a4⟩
  have sn : ∀ {p0 : Nat} {l0 : List qS} {h7 h8 : mH}, SR hA n h7 p0 (o + 1) l0 → h8 = si h7 53 27 (gi h7 53 27 - 1) → SR hA n h8 p0 o l0 := fun {p0 l0 h7 h8} T e => by
    obtain ⟨f, e3, e5, hp, eo, el, hy⟩ := T
    rw [eo, nI_pred] at e
    subst e
    exact ⟨f.si rfl, e3, e5, hp, by rw [gi_si, if_pos ⟨rfl, rfl⟩], el, hy⟩
  have J46 : ¬ isD (ch p) → ¬ nm (ch p) → ¬ (ch p = 40 ∧ b = true) → (ch p = 33 ∨ ch p = 45) → w_X12_operand_J46 (wr_2 N).1 (wr_2 N).2.1 (wr_2 N).2.2.1 (wr_2 N).2.2.2.1 (wr_2 N).2.2.2.2.1 (wr_2 N).2.2.2.2.2 Q (ch p) h := fun c1 c2 c3 c4 => by
    unfold w_X12_operand_J46
    have hpn : p < n := ch_lt he (fun q => by rw [q] at c4; revert c4; decide)
    refine r_opens S ho hpn (fun y h5 S5 => ⟨fun _ => ?_, fun q => absurd q (by decide)⟩) (fun y h5 D5 => ⟨fun q => absurd rfl q, fun _ => fa p ?_ h5 D5⟩)
    · have hbt : b = true := hb.mpr y
      have ep : po ch b E O p = rb (O (p + 1)) (fun p' l => .inr (p', l ++ [(if ch p = 33 then 33 else 126, 0)])) := by
        unfold po
        rw [if_neg c1, if_neg c2, if_neg c3, if_pos ⟨c4, hbt⟩]
      refine hO hbt (p + 1) l h5 _ S5 (by omega) (fun f ef h7 D7 h8 e8 x9 e9 => ?_) (fun p' l' ef h7 S7 h8 e8 x9 e9 => ?_)
      · exact r_addD H (dn D7 e8) (p00 := p) (L00 := l.length) (by omega) (by omega) hl _ _ (fun h9 D9 => fa f (by rw [ep, ef, rb_l]) h9 D9)
      · obtain ⟨a1, a2, a3, a4⟩ := (gO hbt (p + 1) hpn).2 p' l' ef
        refine r_add H (sn S7 e8) (by rw [List.length_append]; omega) (if ch p = 33 then 33 else 126, 0) ?_ ?_ (fun h9 S9 => ?_)
        · rw [e9]
          by_cases q : ch p = 33
          · rw [if_pos q, if_pos q]; rfl
          · rw [if_neg q, if_neg q]; rfl
        · rw [e9]
          by_cases q : ch p = 33
          · rw [if_pos q]; rfl
          · rw [if_neg q]; rfl
        · rw [List.append_assoc] at S9
          exact su p' _ (by rw [ep, ef, rb_r]) h9 S9
    · unfold po
      rw [if_neg c1, if_neg c2, if_neg c3, if_neg (fun w => y (hb.mp w.2))]
  unfold wb_X12_operand
  refine r_look H S (r_nameOf ⟨fun q => ?_, fun q => r_nameOf ?_⟩)
  · have c2 : ¬ nm (ch p) := fun w => by
      unfold nmI at q
      rw [if_pos w] at q
      exact nI_pos (by unfold nix; split <;> (try split) <;> (try split) <;> (try split) <;> omega) q
    refine ⟨fun e => J46 (by rw [e]; decide) c2 (by rw [e]; exact fun w => absurd w.1 (by decide)) (Or.inl e), fun n33 => ⟨fun n45 => ⟨fun n40 => ?_, fun e => ?_⟩, fun e => J46 (by rw [e]; decide) c2 (by rw [e]; exact fun w => absurd w.1 (by decide)) (Or.inr e)⟩⟩
    · refine r_fig H S hlen (fun c h1 D1 => fa p ?_ h1 D1) (fun c f ef h1 D1 => fa f ?_ h1 D1) (fun c p' l' ef h1 S1 => su p' l' ?_ h1 S1)
      · unfold po
        rw [if_neg c, if_neg c2, if_neg (fun w => n40 w.1), if_neg (fun w => w.1.elim n33 n45)]
      · unfold po
        rw [if_pos c]
        exact ef
      · unfold po
        rw [if_pos c]
        exact ef
    · have c1 : ¬ isD (ch p) := by rw [e]; decide
      have hpn : p < n := ch_lt he (fun y => by rw [y] at e; exact absurd e (by decide))
      refine r_opens S ho hpn (fun y h13 S13 => ⟨fun _ => ?_, fun q => absurd q (by decide)⟩) (fun y h13 D13 => ⟨fun q => absurd rfl q, fun _ => fa p ?_ h13 D13⟩)
      · have hbt : b = true := hb.mpr y
        have ep : po ch b E O p = rb (E (p + 1)) (fun p' l => if ch p' = 41 then .inr (p' + 1, l) else .inl p') := by
          unfold po
          rw [if_neg c1, if_neg c2, if_pos ⟨e, hbt⟩]
        refine hE hbt (p + 1) l h13 _ S13 (by omega) (fun f ef h15 D15 => ?_) (fun p' l' ef h15 S15 => ?_)
        · refine ⟨fun w => ?_, fun _ => fa f (by rw [ep, ef, rb_l]) h15 (D15.wk (by omega) (by omega))⟩
          have k := D15.pos H
          rw [le_i] at k
          rw [lt_i] at w
          have h0 : (0 : Int32).toInt = 0 := rfl
          omega
        · obtain ⟨a1, a2, a3, a4⟩ := (gE hbt (p + 1) hpn).2 p' l' ef
          refine ⟨fun _ => r_look H S15 ⟨fun c h18 e18 h19 e19 => ?_, fun c => r_faulty S15 (fun h20 D20 => fa p' ?_ h20 (D20.wk (by omega) (by rw [List.length_append]; omega)))⟩, fun w => absurd (by rw [S15.2.1]; decide) w⟩
          · have S18 := r_stp S15 (ch_lt he (fun y => by rw [y] at c; exact absurd c (by decide))) e18
            exact su (p' + 1) l' (by rw [ep, ef, rb_r, if_pos c]) h19 (sn S18 e19)
          · rw [ep, ef, rb_r, if_neg c]
      · unfold po
        rw [if_neg c1, if_neg c2, if_neg (fun w => y (hb.mp w.2)), if_neg (fun w => w.1.elim (fun q => by rw [e] at q; exact absurd q (by decide)) (fun q => by rw [e] at q; exact absurd q (by decide)))]
  · have c2 : nm (ch p) := Classical.byContradiction fun w => by
      unfold nmI at q
      rw [if_neg w] at q
      exact q (by decide)
    have c1 : ¬ isD (ch p) := by rcases c2 with e | e | e | e | e <;> rw [e] <;> decide
    refine r_add H S hlen (ch p, 0) (a := 2) (b := nmI (ch p)) ?_ (by decide) (fun h23 S23 h24 e24 => su (p + 1) [(ch p, 0)] ?_ h24 (r_stp S23 (ch_lt he (fun w => by rw [w] at c2; revert c2; decide)) e24))
    · unfold rcq nmI
      rw [if_pos c2, if_pos c2]
    · unfold po
      rw [if_neg c1, if_pos c2]
theorem r_pv (H : HR hA n ch) : ∀ b, b ≤ 6 → ∀ N, 6 * b + 1 ≤ N → rdR hA n (6 - b) (wr_2 N).1 (pv ch n b) := by
  intro b
  induction b with
  | zero =>
    intro _ N hN
    obtain ⟨M, rfl⟩ : ∃ M, N = M + 1 := ⟨N - 1, by omega⟩
    exact r_operand H (Nat.le_refl _) (by decide) (fun q => by cases q) (fun q => by cases q) (fun q => by cases q) (fun q => by cases q)
  | succ b ih =>
    intro hb N hN
    obtain ⟨M, rfl⟩ : ∃ M, N = M + 1 := ⟨N - 1, by omega⟩
    have e : 6 - (b + 1) + 1 = 6 - b := by omega
    refine r_operand H (by omega) ⟨fun _ => by omega, fun _ => rfl⟩ (fun _ => gd_pk H.2.2.2 (gd_pv H.2.2.2 b) 5) (fun _ => gd_pv H.2.2.2 b) (fun _ => ?_) (fun _ => ?_)
    · rw [e]
      exact r_five H (gd_pv H.2.2.2 b) (fun N hN => ih (by omega) N hN) (by omega)
    · rw [e]
      exact ih (by omega) M (by omega)
theorem r_pe (H : HR hA n ch) : rdR hA n 0 (wr_2 64).2.2.2.2.2 (pe ch n) := r_five H (gd_pv H.2.2.2 6) (fun N hN => r_pv H 6 (Nat.le_refl _) N hN) (by decide)
end READ
