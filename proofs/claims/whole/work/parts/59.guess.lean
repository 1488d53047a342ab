/-! PURE: guess -/
abbrev T7 : Type := Nat × Int32 × Int32 × Int32 × Int32 × Int32 × Int32
def gnx (s : T7) (o g : Int32) : T7 := if s.1 = 0 then (1, o, g, o, o, g, g) else (s.1 + 1, s.2.1, s.2.2.1, s.2.2.2.1, o, (if s.2.2.2.2.2.1 ≤ g then s.2.2.2.2.2.1 else g), (if g ≤ s.2.2.2.2.2.2 then s.2.2.2.2.2.2 else g))
def gst (W : Nat → Nat) : Nat → T7
  | 0 => (0, 0, 0, 0, 0, 0, 0)
  | t + 1 => if W t = 0 then gnx (gst W t) (ofI (t / 19)) (gaI (t % 19)) else gst W t
theorem gst_y {W : Nat → Nat} {i j : Nat} (hj : j < 19) (q : W (19 * i + j) = 0) : gst W (19 * i + (j + 1)) = gnx (gst W (19 * i + j)) (ofI i) (gaI j) := by
  rw [show 19 * i + (j + 1) = (19 * i + j) + 1 from rfl, gst, if_pos q, show (19 * i + j) / 19 = i by omega, show (19 * i + j) % 19 = j by omega]
theorem gst_n {W : Nat → Nat} {i j : Nat} (q : ¬ W (19 * i + j) = 0) : gst W (19 * i + (j + 1)) = gst W (19 * i + j) := by
  rw [show 19 * i + (j + 1) = (19 * i + j) + 1 from rfl, gst, if_neg q]
theorem ofI_i {i : Nat} (hi : i < 62) : (ofI i).toInt = (i : Int) - 30 := by
  unfold ofI
  rw [sub_i (by rw [nI_toInt (by omega), show (30 : Int32).toInt = 30 from rfl]; omega) (by rw [nI_toInt (by omega), show (30 : Int32).toInt = 30 from rfl]; omega), nI_toInt (by omega), show (30 : Int32).toInt = 30 from rfl]
theorem gst_in {W : Nat → Nat} (t : Nat) (ht : t ≤ 1159) : (gst W t).1 ≤ t ∧ (¬ (gst W t).1 = 0 → (gst W t).2.2.2.1.toInt + 30 ≤ (t / 19 : Nat) ∧ (gst W t).2.2.2.2.1.toInt + 30 ≤ (t / 19 : Nat)) := by
  induction t with
  | zero => exact ⟨Nat.le_refl _, fun q => absurd rfl q⟩
  | succ t ih =>
    obtain ⟨a, b⟩ := ih (by omega)
    have eo := ofI_i (i := t / 19) (by omega)
    rw [gst]
    by_cases q : W t = 0
    · rw [if_pos q, gnx]
      by_cases z : (gst W t).1 = 0
      · rw [if_pos z]
        refine ⟨by omega, fun _ => ⟨?_, ?_⟩⟩
        · show (ofI (t / 19)).toInt + 30 ≤ _
          omega
        · show (ofI (t / 19)).toInt + 30 ≤ _
          omega
      · rw [if_neg z]
        obtain ⟨b1, b2⟩ := b z
        refine ⟨Nat.succ_le_succ a, fun _ => ⟨?_, ?_⟩⟩
        · show (gst W t).2.2.2.1.toInt + 30 ≤ _
          omega
        · show (ofI (t / 19)).toInt + 30 ≤ _
          omega
    · rw [if_neg q]
      exact ⟨by omega, fun z => by
        obtain ⟨b1, b2⟩ := b z
        omega⟩
theorem p_guess12 {h : mH} (rG : RG h) {c : Int32} {k : Nat} (hk : k < 7) (hc : inR c 0 1) {Q : Int32 → mH → Prop} {T : Nat} (hT : T = 1159) (K : Q (if k = 0 then nI (gst (wAt h c) T).1 else if (gst (wAt h c) T).1 = 0 then -2 else if k = 1 then (gst (wAt h c) T).2.1 else if k = 2 then (gst (wAt h c) T).2.2.1 else if k = 3 then (gst (wAt h c) T).2.2.2.1 else if k = 4 then (gst (wAt h c) T).2.2.2.2.1 else if k = 5 then (gst (wAt h c) T).2.2.2.2.2.1 else (gst (wAt h c) T).2.2.2.2.2.2) h) : w_X12_guess c (nI k) h Q := by
  unfold w_X12_guess
  obtain ⟨hn, c1, d1⟩ := rG.num
  have p2 := p2_le hn
  have wl : ∀ t, wAt h c t < 1024 := fun t => Nat.lt_of_lt_of_le (wAt_lt rG t) p2
  rw [e_12_clock, bi_1 hc]
  refine ⟨fun q => absurd q (by decide), fun _ => ?_⟩
  rw [e_12_in, bi_1 (show inR (nI k) 0 6 from nI_inR (N := 6) (by omega) (by decide))]
  refine ⟨fun _ => ?_, fun q => absurd q (by decide)⟩
  have L := loop_0 (σ := T7) (fun n i s => w_X12_guess_L44 (fun l3_16 l4_17 l5_18 l6_19 l7_20 l8_21 l9_22 h23 => ((¬ nI k = 0 → ((¬ l3_16 = 0 → ((nI k = 1 → Q l4_17 h23) ∧ (nI k = 2 → Q l5_18 h23) ∧ (nI k = 3 → Q l6_19 h23) ∧ (nI k = 4 → Q l7_20 h23) ∧ (nI k = 5 → Q l8_21 h23) ∧ ((∀ k' ∈ ([1, 2, 3, 4, 5] : List Int32), ¬ nI k = k') → Q l9_22 h23))) ∧ (l3_16 = 0 → Q (-2) h23))) ∧ (nI k = 0 → Q l3_16 h23))) Q c (nI k) n (nI s.1) s.2.1 s.2.2.1 s.2.2.2.1 s.2.2.2.2.1 s.2.2.2.2.2.1 s.2.2.2.2.2.2 (ofI i) h) (fun i s => s = gst (wAt h c) (19 * i)) 61 (0, 0, 0, 0, 0, 0, 0) rfl (fun n s e => ?_) (fun n i s hi e nx => ?_)
  · exact L
  · rw [show 19 * 61 = T by omega] at e
    subst e
    unfold w_X12_guess_L44
    refine ⟨fun _ => ?_, fun q => absurd (by decide) q⟩
    have cl := (gst_in (W := wAt h c) T (by omega)).1
    have n : ∀ j, j < 7 → (nI k = nI j ↔ k = j) := fun j hj => nn k j (by omega) (by omega)
    have n0 : nI k = 0 ↔ k = 0 := n 0 (by decide)
    have n1 : nI k = 1 ↔ k = 1 := n 1 (by decide)
    have n2 : nI k = 2 ↔ k = 2 := n 2 (by decide)
    have n3 : nI k = 3 ↔ k = 3 := n 3 (by decide)
    have n4 : nI k = 4 ↔ k = 4 := n 4 (by decide)
    have n5 : nI k = 5 ↔ k = 5 := n 5 (by decide)
    have nc : nI (gst (wAt h c) T).1 = 0 ↔ (gst (wAt h c) T).1 = 0 := nn _ 0 (by omega) (by decide)
    rw [n0, n1, n2, n3, n4, n5, nc]
    generalize gst (wAt h c) T = s at K
    refine ⟨fun q => ⟨fun z => ⟨fun y => ?_, fun y => ?_, fun y => ?_, fun y => ?_, fun y => ?_, fun y => ?_⟩, fun z => ?_⟩, fun q => ?_⟩
    · rw [if_neg q, if_neg z, if_pos y] at K
      exact K
    · rw [if_neg q, if_neg z, if_neg (by omega), if_pos y] at K
      exact K
    · rw [if_neg q, if_neg z, if_neg (by omega), if_neg (by omega), if_pos y] at K
      exact K
    · rw [if_neg q, if_neg z, if_neg (by omega), if_neg (by omega), if_neg (by omega), if_pos y] at K
      exact K
    · rw [if_neg q, if_neg z, if_neg (by omega), if_neg (by omega), if_neg (by omega), if_neg (by omega), if_pos y] at K
      exact K
    · have y1 : ¬ k = 1 := fun w => y 1 (by simp) (n1.mpr w)
      have y2 : ¬ k = 2 := fun w => y 2 (by simp) (n2.mpr w)
      have y3 : ¬ k = 3 := fun w => y 3 (by simp) (n3.mpr w)
      have y4 : ¬ k = 4 := fun w => y 4 (by simp) (n4.mpr w)
      have y5 : ¬ k = 5 := fun w => y 5 (by simp) (n5.mpr w)
      rw [if_neg q, if_neg z, if_neg y1, if_neg y2, if_neg y3, if_neg y4, if_neg y5] at K
      exact K
    · rw [if_neg q, if_pos z] at K
      exact K
    · rw [if_pos q] at K
      exact K
  · subst e
    unfold w_X12_guess_L44
    refine ⟨fun q => absurd q (ofI_nx i hi).2, fun _ => ?_⟩
    rw [(ofI_nx i hi).1]
    have L := loop_0 (σ := T7) (fun n' j s => w_X12_guess_L55 (fun l3_7 l4_8 l5_9 l6_10 l7_11 l8_12 l9_13 h14 => (w_X12_guess_L44 (fun l3_16 l4_17 l5_18 l6_19 l7_20 l8_21 l9_22 h23 => ((¬ nI k = 0 → ((¬ l3_16 = 0 → ((nI k = 1 → Q l4_17 h23) ∧ (nI k = 2 → Q l5_18 h23) ∧ (nI k = 3 → Q l6_19 h23) ∧ (nI k = 4 → Q l7_20 h23) ∧ (nI k = 5 → Q l8_21 h23) ∧ ((∀ k' ∈ ([1, 2, 3, 4, 5] : List Int32), ¬ nI k = k') → Q l9_22 h23))) ∧ (l3_16 = 0 → Q (-2) h23))) ∧ (nI k = 0 → Q l3_16 h23))) Q c (nI k) n) l3_7 l4_8 l5_9 l6_10 l7_11 l8_12 l9_13 (ofI (i + 1)) h14) Q c (nI k) (ofI i) n' (nI s.1) s.2.1 s.2.2.1 s.2.2.2.1 s.2.2.2.2.1 s.2.2.2.2.2.1 s.2.2.2.2.2.2 (gaI j) h) (fun j s => s = gst (wAt h c) (19 * i + j)) 19 (gst (wAt h c) (19 * i)) rfl (fun n' s e => ?_) (fun n' j s hj e nx' => ?_)
    · exact L
    · unfold w_X12_guess_L55
      refine ⟨fun _ => nx s ?_, fun q => absurd (by decide) q⟩
      rw [e, show 19 * (i + 1) = 19 * i + 19 by omega]
    · have cl := (gst_in (W := wAt h c) (19 * i + j) (by omega)).1
      rw [← e] at cl
      unfold w_X12_guess_L55
      refine ⟨fun q => absurd q (gaI_nx j hj).2, fun _ => ?_⟩
      rw [(gaI_nx j hj).1]
      refine p_wrong12 rG ?_
      rw [← wAt_ij hj, show nI (wAt h c (19 * i + j)) = 0 ↔ wAt h c (19 * i + j) = 0 from nn _ 0 (by have := wl (19 * i + j); omega) (by decide)]
      refine ⟨fun q => ?_, fun q => nx' s (by rw [e, gst_n q])⟩
      have gy := gst_y hj q
      rw [← e, gnx] at gy
      rw [show nI s.1 = 0 ↔ s.1 = 0 from nn _ 0 (by omega) (by decide)]
      refine ⟨fun z => ?_, fun z => ?_⟩
      · rw [if_neg z] at gy
        refine ⟨fun y => ?_, fun y => ?_⟩
        · rw [if_pos y] at gy
          unfold w_X12_guess_J116
          rw [nI_1, (gaI_nx j hj).1]
          refine ⟨fun x => ?_, fun x => ?_⟩
          · rw [if_pos x] at gy
            exact nx' _ gy.symm
          · rw [if_neg x] at gy
            exact nx' _ gy.symm
        · rw [if_neg y] at gy
          unfold w_X12_guess_J116
          rw [nI_1, (gaI_nx j hj).1]
          refine ⟨fun x => ?_, fun x => ?_⟩
          · rw [if_pos x] at gy
            exact nx' _ gy.symm
          · rw [if_neg x] at gy
            exact nx' _ gy.symm
      · rw [if_pos z] at gy
        have e1 : nI s.1 + 1 = nI 1 := by rw [z]; rfl
        have rf1 : gaI j ≤ gaI j := by rw [le_i]; omega
        refine ⟨fun y => ?_, fun y => absurd rf1 y⟩
        unfold w_X12_guess_J116
        rw [e1, (gaI_nx j hj).1]
        exact ⟨fun x => nx' _ gy.symm, fun x => absurd rf1 x⟩
theorem p_note {h : mH} {n : Nat} {o g : Int32} {Q : mH → Prop} (e0 : gi h 24 0 = nI n) (hn : n < 2000) (K : ∀ s, Fr (cl [24] []) h s → gi s 24 0 = nI (n + 1) → (n = 0 → gi s 24 1 = o ∧ gi s 24 2 = g ∧ gi s 24 3 = o ∧ gi s 24 4 = o ∧ gi s 24 5 = g ∧ gi s 24 6 = g) → (¬ n = 0 → gi s 24 1 = gi h 24 1 ∧ gi s 24 2 = gi h 24 2 ∧ gi s 24 3 = imin (gi h 24 3) o ∧ gi s 24 4 = imax (gi h 24 4) o ∧ gi s 24 5 = imin (gi h 24 5) g ∧ gi s 24 6 = imax (gi h 24 6) g) → Q s) : w_X4_note o g h Q := by
  unfold w_X4_note
  rw [e0, nI_1]
  intro x1 e1 h2 e2
  by_cases z : n = 0
  · rw [if_pos (by rw [z]; rfl)] at e1
    subst e1
    refine ⟨fun q => absurd q (by decide), fun _ h8 e8 h9 e9 => ?_⟩
    unfold w_X4_note_J43
    refine ⟨fun q => absurd q (by decide), fun _ => ?_⟩
    unfold w_X4_note_J66
    refine ⟨vpd (by decide), fun h3 e3 => ⟨fun q => absurd q (by decide), fun _ => ?_⟩⟩
    unfold w_X4_note_J90
    refine ⟨vpd (by decide), fun h4 e4 => ⟨fun q => absurd q (by decide), fun _ => ?_⟩⟩
    unfold w_X4_note_J114
    refine ⟨vpd (by decide), fun h5 e5 => ⟨fun q => absurd q (by decide), fun _ h7 e7 => ?_⟩⟩
    subst e2
    subst e8
    subst e9
    subst e3
    subst e4
    subst e5
    subst e7
    exact K _ ((((((((Fr.rf _ h).si rfl).si rfl).si rfl).si rfl).si rfl).si rfl).si rfl) rfl (fun _ => ⟨rfl, rfl, rfl, rfl, rfl, rfl⟩) (fun q => absurd z q)
  · rw [if_neg (show ¬ nI n = 0 from fun q => z ((nn n 0 (by omega) (by decide)).mp q))] at e1
    subst e1
    refine ⟨fun _ => ?_, fun q => absurd rfl q⟩
    unfold w_X4_note_J43
    refine ⟨fun _ => ?_, fun q => absurd rfl q⟩
    unfold w_X4_note_J66
    refine ⟨vpd (by decide), fun h3 e3 => ⟨fun _ => ?_, fun q => absurd rfl q⟩⟩
    unfold w_X4_note_J90
    refine ⟨vpd (by decide), fun h4 e4 => ⟨fun _ => ?_, fun q => absurd rfl q⟩⟩
    unfold w_X4_note_J114
    refine ⟨vpd (by decide), fun h5 e5 => ⟨fun _ h7 e7 => ?_, fun q => absurd rfl q⟩⟩
    subst e2
    subst e3
    subst e4
    subst e5
    subst e7
    exact K _ ((((((Fr.rf _ h).si rfl).si rfl).si rfl).si rfl).si rfl) rfl (fun q => absurd q z) (fun _ => ⟨rfl, rfl, rfl, rfl, rfl, rfl⟩)
def g24 (s : mH) (t : T7) : Prop := gi s 24 0 = nI t.1 ∧ (¬ t.1 = 0 → gi s 24 1 = t.2.1 ∧ gi s 24 2 = t.2.2.1 ∧ gi s 24 3 = t.2.2.2.1 ∧ gi s 24 4 = t.2.2.2.2.1 ∧ gi s 24 5 = t.2.2.2.2.2.1 ∧ gi s 24 6 = t.2.2.2.2.2.2)
theorem wbm_fr {h s : mH} (f : Fr (cl [24] []) h s) (c o g : Int32) (n : Nat) : wbm s c o g n = wbm h c o g n := by
  induction n with
  | zero => rfl
  | succ n ih =>
    have : wrg s c o g n = wrg h c o g n := by
      unfold wrg
      rw [f.i 66 n rfl, f.i 67 n rfl, f.i 68 n rfl, f.i 53 3 rfl]
    rw [wbm, wbm, ih, this]
theorem gnum_fr {h s : mH} (f : Fr (cl [24] []) h s) : gnum s = gnum h := by
  unfold gnum
  rw [f.i 53 19 rfl]
theorem p_find {h : mH} (rA : RA h) (rG : RG h) {c : Int32} {Q : mH → Prop} {T : Nat} (hT : T = 1159) (K : ∀ s, Fr (cl [24] []) h s → g24 s (gst (wAt h c) T) → Q s) : w_X4_find 7 c h Q := by
  unfold w_X4_find
  intro h1 y1
  obtain ⟨hn, -, -⟩ := rG.num
  have p2 := p2_le hn
  have wl : ∀ t, wAt h c t < 1024 := fun t => Nat.lt_of_lt_of_le (wAt_lt rG t) p2
  have f1 : Fr (cl [24] []) h h1 := by rw [y1]; exact (Fr.rf _ h).si rfl
  have z1 : gi h1 24 0 = 0 := by rw [y1, gi_si, if_pos ⟨rfl, rfl⟩]
  clear y1
  refine loop_0 (σ := mH) (fun n i s => w_X4_find_L11 (fun h7 => Q h7) Q 7 c n (ofI i) s) (fun i s => Fr (cl [24] []) h s ∧ g24 s (gst (wAt h c) (19 * i))) 61 h1 ⟨f1, z1, fun q => absurd rfl q⟩ (fun n s e => ?_) (fun n i s hi e nx => ?_)
  · obtain ⟨f, e⟩ := e
    rw [show 19 * 61 = T by omega] at e
    unfold w_X4_find_L11
    exact ⟨fun _ => K s f e, fun q => absurd (by decide) q⟩
  · obtain ⟨f, e⟩ := e
    unfold w_X4_find_L11
    refine ⟨fun q => absurd q (ofI_nx i hi).2, fun _ => ?_⟩
    rw [(ofI_nx i hi).1]
    refine loop_0 (σ := mH) (fun n' j s => w_X4_find_L22 (fun h5 => w_X4_find_L11 (fun h7 => Q h7) Q 7 c n (ofI (i + 1)) h5) Q 7 c (ofI i) n' (gaI j) s) (fun j s => Fr (cl [24] []) h s ∧ g24 s (gst (wAt h c) (19 * i + j))) 19 s ⟨f, e⟩ (fun n' s e => ?_) (fun n' j s hj e nx' => ?_)
    · unfold w_X4_find_L22
      refine ⟨fun _ => nx s ⟨e.1, ?_⟩, fun q => absurd (by decide) q⟩
      rw [show 19 * (i + 1) = 19 * i + 19 by omega]
      exact e.2
    · obtain ⟨f, e⟩ := e
      have rAs : RA s := rA.ag (f.ag rfl)
      have rGs : RG s := rG.ag (f.ag rfl)
      obtain ⟨cl, b⟩ := gst_in (W := wAt h c) (19 * i + j) (by omega)
      unfold w_X4_find_L22
      refine ⟨fun q => absurd q (gaI_nx j hj).2, fun _ => ?_⟩
      rw [(gaI_nx j hj).1]
      refine p_wrong11 rAs rGs ?_
      rw [wbm_fr f, gnum_fr f, ← wAt_ij hj, show nI (wAt h c (19 * i + j)) = 0 ↔ wAt h c (19 * i + j) = 0 from nn _ 0 (by have := wl (19 * i + j); omega) (by decide)]
      refine ⟨fun q => nx' s ⟨f, by rw [gst_n q]; exact e⟩, fun q => ?_⟩
      have gy := gst_y hj q
      refine p_note e.1 (by omega) (fun s2 f2 e2 g1 g2 => nx' s2 ⟨f.tr f2, ?_⟩)
      rw [gy, gnx]
      by_cases z : (gst (wAt h c) (19 * i + j)).1 = 0
      · rw [if_pos z]
        obtain ⟨x1, x2, x3, x4, x5, x6⟩ := g1 z
        rw [z] at e2
        exact ⟨e2, fun _ => ⟨x1, x2, x3, x4, x5, x6⟩⟩
      · rw [if_neg z]
        obtain ⟨x1, x2, x3, x4, x5, x6⟩ := g2 z
        obtain ⟨y1, y2, y3, y4, y5, y6⟩ := e.2 z
        obtain ⟨b1, b2⟩ := b z
        have eo := ofI_i (i := i) (by omega)
        rw [y1] at x1
        rw [y2] at x2
        rw [y3] at x3
        rw [y4] at x4
        rw [y5] at x5
        rw [y6] at x6
        refine ⟨e2, fun _ => ⟨x1, x2, ?_, ?_, ?_, ?_⟩⟩
        · rw [x3]
          unfold imin
          rw [if_neg (by rw [lt_i]; omega)]
        · rw [x4]
          unfold imax
          by_cases w : (gst (wAt h c) (19 * i + j)).2.2.2.2.1 < ofI i
          · rw [if_pos w]
          · rw [if_neg w]
            rw [lt_i] at w
            show _ = ofI i
            rw [eq_i]
            omega
        · rw [x5]
          unfold imin
          show _ = if (gst (wAt h c) (19 * i + j)).2.2.2.2.2.1 ≤ gaI j then (gst (wAt h c) (19 * i + j)).2.2.2.2.2.1 else gaI j
          by_cases w : gaI j < (gst (wAt h c) (19 * i + j)).2.2.2.2.2.1
          · rw [if_pos w, if_neg (by rw [lt_i] at w; rw [le_i]; omega)]
          · rw [if_neg w, if_pos (by rw [lt_i] at w; rw [le_i]; omega)]
        · rw [x6]
          unfold imax
          show _ = if gaI j ≤ (gst (wAt h c) (19 * i + j)).2.2.2.2.2.2 then (gst (wAt h c) (19 * i + j)).2.2.2.2.2.2 else gaI j
          by_cases w : (gst (wAt h c) (19 * i + j)).2.2.2.2.2.2 < gaI j
          · rw [if_pos w, if_neg (by rw [lt_i] at w; rw [le_i]; omega)]
          · rw [if_neg w, if_pos (by rw [lt_i] at w; rw [le_i]; omega)]
theorem J_guess {i : Nat} {h : mH} (r : Inv i h) (a b : Int32) : w_X11_guess a b h (fun v h1 => w_X12_guess a b h1 (fun w h2 => v = w ∧ Inv (i + 1) h2)) := by
  have u := r.up
  have rG := r.2.2.2.1
  unfold w_X11_guess
  rw [e_11_clock]
  refine b0 (fun q => ?_) (fun hc => ?_)
  · show w_X12_guess a b h _
    unfold w_X12_guess
    rw [e_12_clock, bi_0 q]
    exact ⟨fun _ => ⟨rfl, u⟩, fun z => absurd rfl z⟩
  rw [e_11_one]
  refine b1 (fun q => ?_) (fun q => ?_)
  · have hb : inR b 0 6 := by
      rw [inR_i]
      have h0 : (0 : Int32).toInt = 0 := rfl
      have h6 : (6 : Int32).toInt = 6 := rfl
      have h7 : (7 : Int32).toInt = 7 := rfl
      have := q.1
      rw [lt_i] at this
      have := q.2
      rw [lt_i] at this
      omega
    obtain ⟨k, hk, rfl⟩ := inR_nI (N := 6) rfl (by decide) hb
    obtain ⟨T, hT⟩ : ∃ T, T = 1159 := ⟨_, rfl⟩
    refine p_find r.1 rG (c := a) hT (fun s f e => ?_)
    have us : Inv (i + 1) s := u.fr (f.up rfl)
    have v7 : vp_in (nI k) 7 := vp_nI (by omega) (by decide)
    have cl := (gst_in (W := wAt h a) T (by omega)).1
    have wf : wAt s a = wAt h a := by
      funext t
      unfold wAt
      rw [wbm_fr f, gnum_fr f]
    have fin : ∀ v, v = (if k = 0 then nI (gst (wAt h a) T).1 else if (gst (wAt h a) T).1 = 0 then -2 else if k = 1 then (gst (wAt h a) T).2.1 else if k = 2 then (gst (wAt h a) T).2.2.1 else if k = 3 then (gst (wAt h a) T).2.2.2.1 else if k = 4 then (gst (wAt h a) T).2.2.2.2.1 else if k = 5 then (gst (wAt h a) T).2.2.2.2.2.1 else (gst (wAt h a) T).2.2.2.2.2.2) → w_X12_guess a (nI k) s (fun w h2 => v = w ∧ Inv (i + 1) h2) := fun v ev => p_guess12 us.2.2.2.1 (by omega) hc hT (by
      rw [wf]
      exact ⟨ev, us⟩)
    rw [nI_clamp (by omega)]
    have n0 : nI k ≤ 0 ↔ k ≤ 0 := nl k 0 (by omega) (by decide)
    have nc : gi s 24 0 = 0 ↔ (gst (wAt h a) T).1 = 0 := by
      rw [e.1]
      exact nn _ 0 (by omega) (by decide)
    rw [n0, nc]
    refine ⟨fun q => ⟨v7, fin _ ?_⟩, fun q => ⟨fun z => ⟨v7, fin _ ?_⟩, fun z => fin _ ?_⟩⟩
    · have : k = 0 := by omega
      subst this
      rw [if_pos rfl]
      exact e.1
    · rw [if_neg (by omega), if_neg z]
      obtain ⟨x1, x2, x3, x4, x5, x6⟩ := e.2 z
      rcases (show k = 1 ∨ k = 2 ∨ k = 3 ∨ k = 4 ∨ k = 5 ∨ k = 6 by omega) with rfl | rfl | rfl | rfl | rfl | rfl
      · exact x1
      · exact x2
      · exact x3
      · exact x4
      · exact x5
      · exact x6
    · rw [if_neg (by omega), if_pos z]
  · have hb : ¬ inR b 0 6 := fun w => q (by
      rw [inR_i] at w
      have h0 : (0 : Int32).toInt = 0 := rfl
      have h6 : (6 : Int32).toInt = 6 := rfl
      have h7 : (7 : Int32).toInt = 7 := rfl
      rw [lt_i, lt_i]
      omega)
    show w_X12_guess a b h _
    unfold w_X12_guess
    rw [e_12_clock, bi_1 hc]
    refine ⟨fun q => absurd q (by decide), fun _ => ?_⟩
    rw [e_12_in, bi_0 hb]
    exact ⟨fun z => absurd rfl z, fun _ => ⟨rfl, u⟩⟩
