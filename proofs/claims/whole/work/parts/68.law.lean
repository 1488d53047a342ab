/-! PURE: law -/
theorem fr_fl : ∀ (L : List qL), (fr L).length ≤ (fl L).length := by
  intro L
  induction L with
  | nil => exact Nat.le_refl _
  | cons x r ih =>
    show (x.1 ++ (x.2 ++ fr r)).length ≤ (tq x.1 ++ (x.2 ++ (59, 0) :: fl r)).length
    have t : x.1.length ≤ (tq x.1).length := by
      cases x.1 with
      | nil => exact Nat.le_refl _
      | cons a t => show _ ≤ ((a :: t) ++ [((63 : Int32), (0 : Int32))]).length; rw [List.length_append]; exact Nat.le_add_right _ _
    rw [List.length_append, List.length_append, List.length_append, List.length_append, List.length_cons]
    omega
theorem RP.mv {v : Nat} {h h1 : mH} (r : RP v h) (e2 : gi h1 v 2 = gi h v 2) (ev : ∀ k, gi h1 (v + 1) k = gi h (v + 1) k ∧ gi h1 (v + 2) k = gi h (v + 2) k) (e72 : gi h1 72 0 = gi h 72 0) (e70 : ∀ k, k < 130 → gi h1 70 k = gi h 70 k ∧ gi h1 71 k = gi h 71 k) (e73 : ∀ k, k < 61 → gi h1 73 k = gi h 73 k ∧ gi h1 74 k = gi h 74 k) : RP v h1 := by
  obtain ⟨L, g, hl, hL, k2, ky, k72, k70, k73⟩ := r
  have := fr_fl L
  exact ⟨L, g, hl, hL, by rw [e2, k2], ly_co _ 0 (fun j _ _ => ev j) ky, by rw [e72, k72], ly_co _ 0 (fun j _ hj => e70 j (by rw [List.length_map] at hj; omega)) k70, le_co _ 0 0 (fun j _ hj => e73 j (by omega)) k73⟩
theorem PR_cl (a k : Nat) (h : cl [70, 71, 72, 73, 74] [(53, 24), (53, 25), (53, 26), (53, 27), (53, 28), (53, 36)] a k = false) : PR a k = false := by
  unfold cl at h
  simp only [List.contains_cons, List.contains_nil, Bool.or_eq_false_iff, Bool.or_false] at h
  unfold PR
  have h0 := h.1
  have h1 := h.2
  simp only [Bool.or_eq_false_iff, Bool.and_eq_false_iff]
  refine ⟨⟨⟨Or.inl ⟨h0.1, h0.2.1⟩, Or.inl ⟨h0.2.2.2.1, h0.2.2.2.2⟩⟩, Or.inl h0.2.2.1⟩, ?_⟩
  by_cases q : a = 53
  · refine Or.inr ?_
    subst q
    have k1 : ∀ x : Nat, ((53, k) == (53, x)) = false → (k == x) = false := fun x y => by
      simpa using y
    exact ⟨⟨⟨⟨k1 _ h1.1, k1 _ h1.2.1⟩, k1 _ h1.2.2.1⟩, k1 _ h1.2.2.2.1⟩, k1 _ h1.2.2.2.2.1⟩
  · exact Or.inl (by simpa using q)
theorem p_law12 {h : mH} {n : Nat} {ch : Nat → Int32} (H : HR h n ch) {Q : Int32 → mH → Prop} (fa : ∀ f, px ch n (n + 1) 0 [] = .inl f → ∀ h1, Fr PR h h1 → gi h1 53 24 = 0 → Q (-100 - nI f) h1)
    (su : ∀ L, px ch n (n + 1) 0 [] = .inr L → ∀ h1, Fr (cl [70, 71, 72, 73, 74] [(53, 24), (53, 25), (53, 26), (53, 27), (53, 28), (53, 36)]) h h1 → gi h1 53 24 = 0 → gi h1 53 36 = 1 → L.length ≤ 61 → gi h1 72 0 = nI L.length → ly (gi h1 70) (gi h1 71) 0 ((fr L).map rcq) → le_ (gi h1 73) (gi h1 74) 0 0 L → Q 1 h1) : w_X12_law h Q := by
  have hn := H.1
  have he := H.2.2.2
  have gp := gd_px he (n + 1) 0 [] (Nat.zero_le _) (fun x hx => by cases hx)
  unfold w_X12_law w_X12_readText
  intro h1 e1 h2 e2 h3 e3 h4 e4 h5 e5
  have T5 : TR h n h5 0 [] := by
    rw [e5, e4, e3, e2, e1]
    exact ⟨(((((Fr.rf _ _).si rfl).si rfl).si rfl).si rfl).si rfl, rfl, rfl, Nat.zero_le _, rfl, rfl, trivial, rfl, trivial, H.2.1⟩
  have fau : ∀ f, px ch n (n + 1) 0 [] = .inl f → ∀ h9, Fr PR h h9 → gi h9 53 24 = 0 → (((nI f : Int32) < 0 → ∀ h3 : mH, h3 = si h9 53 36 1 → Q 1 h3) ∧ (¬ (nI f : Int32) < 0 → Q ((-100) - nI f) h9)) := fun f ef h9 f9 e9 => by
    have hf := gp.1 f ef
    exact ⟨fun q => absurd q (nI_pos (by omega)), fun _ => fa f ef h9 f9 e9⟩
  refine r_text (KK := _) (a := 0) H (n + 1) 0 [] h5 _ (fun h6 y => ⟨n + 1 + 1, y⟩) (by omega) T5 (Nat.le_refl _) (Nat.le_refl _) (fun f ef h6 s6 => ?_) (fun L ef h6 T6 hl hL => ?_)
  · have hf := gp.1 f ef
    unfold w_X12_readText_J64
    rcases s6 with D | ⟨L', T6, hfn⟩
    · obtain ⟨fD, eD, -, -⟩ := D
      rw [eD]
      refine ⟨fun _ h12 e12 => ?_, fun q => absurd (nI_pos' (by omega)) q⟩
      have k : gi h12 53 26 = nI f := by rw [e12]; exact eD
      rw [k]
      refine ⟨fun q => absurd q (nI_pos (by omega)), fun _ => fau f ef h12 (by rw [e12]; exact fD.si rfl) (by rw [e12]; rfl)⟩
    · obtain ⟨fB, e26, e25, -, -, -, -, -, -, e24⟩ := T6
      rw [e26, e24, e25, nl n f (by omega) (by omega)]
      refine ⟨fun q => absurd q (by decide), fun _ => ⟨fun q => absurd q (by omega), fun _ => ?_⟩⟩
      unfold w_X12_faulty
      rw [e26]
      refine ⟨fun q => absurd q (by decide), fun _ h28 e28 h29 e29 => ?_⟩
      have k : gi h29 53 26 = nI f := by rw [e29, e28]; exact e25
      rw [k]
      exact ⟨fun q => absurd q (nI_pos (by omega)), fun _ => fau f ef h29 (by rw [e29, e28]; exact (fB.si rfl).si rfl) (by rw [e29]; rfl)⟩
  · obtain ⟨fB, e26, e25, -, -, e28, hy, e72, e73, e24⟩ := T6
    unfold w_X12_readText_J64
    rw [e26, e24, e25, nl n n (by omega) (by omega)]
    refine ⟨fun q => absurd q (by decide), fun _ => ⟨fun _ h22 e22 => ?_, fun q => absurd (Nat.le_refl _) q⟩⟩
    have k : gi h22 53 26 = -1 := by rw [e22]; exact e26
    rw [k]
    refine ⟨fun _ => ?_, fun q => absurd (by decide) q⟩
    refine p_copy (h := h22) (Q := fun v2 h1 => ((v2 < 0 → ∀ h3 : mH, h3 = si h1 53 36 1 → Q 1 h3) ∧ (¬ v2 < 0 → Q ((-100) - v2) h1))) (L := L) (gp.2 L ef) (by omega) hL (by rw [e22]; exact e28) (by rw [e22]; exact hy) (by rw [e22]; exact e72) (by rw [e22]; exact e73) (fun h9 f9 y9 y72 y73 => ⟨fun _ h3 e3 => ?_, fun q => absurd (by decide) q⟩)
    have fall : Fr (cl [70, 71, 72, 73, 74] [(53, 24), (53, 25), (53, 26), (53, 27), (53, 28), (53, 36)]) h h3 := by
      rw [e3]
      refine (((fB.mono PR_cl).tr (Fr.tr (h1 := h22) ?_ (f9.up rfl)))).si rfl
      rw [e22]
      exact (Fr.rf _ _).si rfl
    refine su L ef h3 fall ?_ (by rw [e3]; rfl) hL (by rw [e3]; exact y72) (by rw [e3]; exact y9) (by rw [e3]; exact y73)
    rw [e3]
    show gi h9 53 24 = 0
    rw [f9.i 53 24 rfl, e22]
    rfl
theorem p_law11 {h : mH} {v w n : Nat} {ch : Nat → Int32} (H : HC h v n ch) (hw : ¬ w = v ∧ (w = 13 ∨ w = 16)) (e92 : gi h 9 2 = nI (w + 1)) {Q : Int32 → mH → Prop} (fa : ∀ f, px ch n (n + 1) 0 [] = .inl f → ∀ h1, Fr (cl [v, v + 1, v + 2] [(11, 1), (11, 2), (11, 3)]) h h1 → gi h1 11 1 = 0 → Q (-100 - nI f) h1)
    (su : ∀ L, px ch n (n + 1) 0 [] = .inr L → ∀ h1, Fr (cl [v, v + 1, v + 2] [(11, 1), (11, 2), (11, 3), (11, 4), (9, 2), (9, 3)]) h h1 → gi h1 11 1 = 0 → gi h1 11 4 = nI (w + 1) → gi h1 9 2 = nI (v + 1) → gi h1 9 3 = 1 → (fl L).length ≤ 121 → gi h1 v 2 = nI (fl L).length → ly (gi h1 (v + 1)) (gi h1 (v + 2)) 0 (fl L) → Q 1 h1) : w_X11_law h Q := by
  have hn := H.2.1
  have he := H.2.2.2.2.2
  have hv := H.1
  have gp := gd_px he (n + 1) 0 [] (Nat.zero_le _) (fun x hx => by cases hx)
  have v9 : ¬ v = 11 ∧ ¬ v = 9 ∧ ¬ v + 1 = 11 ∧ ¬ v + 2 = 11 ∧ ¬ v + 1 = 9 ∧ ¬ v + 2 = 9 := by rcases hv with rfl | rfl <;> decide
  unfold w_X11_law w_X6_readTape w_X8_read
  intro h1 e1 h2 e2
  have k11 : gi h2 11 4 = nI (v + 1) := by rw [e2, e1]; exact H.2.2.2.1
  refine ⟨v, ⟨(vfx hv).1, k11⟩, fun h4 e4 => ?_⟩
  have S4 : SC h v n h4 0 (fl []) := by
    rw [e4, e2, e1]
    refine ⟨(((Fr.rf _ _).si (by simp [PC, cl])).si (by simp [PC, cl])).si (by simp [PC, cl]), ?_, ?_, Nat.zero_le _, ?_, trivial⟩
    · rw [gi_si, if_neg (by omega)]; rfl
    · rw [gi_si, if_neg (by omega)]; rfl
    · rw [gi_si, if_pos ⟨rfl, rfl⟩]; rfl
  refine c_text H (n + 1) 0 0 [] h4 _ (fun h5 y => ⟨n + 1 + 1, y⟩) (by omega) (Nat.le_refl _) S4 (Nat.le_refl _) (fun f ef hf h6 f6 e6 => ?_) (fun L ef p' h6 S6 hl => ?_)
  · refine ⟨fun _ x3 e3 => ?_, fun q => absurd (nI_pos' (by omega)) q⟩
    rw [if_pos (nI_pos' (by omega))] at e3
    rw [e3]
    exact fa f ef h6 f6 e6
  · refine ⟨fun q => absurd q (by decide), fun _ => ⟨v, ⟨(vfx hv).1, (H.fx S6.1).2.1⟩, w, ⟨(vfx hw.2).1, ?_⟩, fun h7 e7 h8 e8 h9 e9 x3 e3 => ?_⟩⟩
    · have : gi h6 9 2 = gi h 9 2 := S6.1.i 9 2 (by rcases hv with rfl | rfl <;> rfl)
      exact this.trans e92
    · rw [if_neg (by decide)] at e3
      rw [e3]
      have fr2 : Fr (cl [v, v + 1, v + 2] [(11, 1), (11, 2), (11, 3), (11, 4), (9, 2), (9, 3)]) h h6 := S6.1.mono (fun x k hx => by
        unfold PC
        simp only [cl, Bool.or_eq_false_iff] at hx ⊢
        refine ⟨hx.1, ?_⟩
        have h2 := hx.2
        simp only [List.contains_cons, Bool.or_eq_false_iff] at h2 ⊢
        exact ⟨h2.2.1, h2.2.2.1, rfl⟩)
      refine su L ef h9 ?_ ?_ ?_ ?_ ?_ hl ?_ ?_
      · rw [e9, e8, e7]
        exact (((fr2.si (by simp [cl])).si (by simp [cl])).si (by simp [cl])).si (by simp [cl])
      · rw [e9, e8, e7]; rfl
      · rw [e9, e8, e7]; rfl
      · rw [e9, e8, e7]; rfl
      · rw [e9]; rfl
      · rw [e9, gi_si, if_neg (by omega), e8, gi_si, if_neg (by omega), e7, gi_si, if_neg (by omega), gi_si, if_neg (by omega)]
        exact S6.2.2.2.2.1
      · refine ly_co _ 0 (fun j _ _ => ⟨?_, ?_⟩) S6.2.2.2.2.2
        · rw [e9, gi_si, if_neg (by omega), e8, gi_si, if_neg (by omega), e7, gi_si, if_neg (by omega), gi_si, if_neg (by omega)]
        · rw [e9, gi_si, if_neg (by omega), e8, gi_si, if_neg (by omega), e7, gi_si, if_neg (by omega), gi_si, if_neg (by omega)]
abbrev laws : List Nat := [13, 14, 15, 16, 17, 18, 70, 71, 72, 73, 74]
abbrev lawf : List (Nat × Nat) := [(11, 1), (11, 2), (11, 3), (11, 4), (9, 2), (9, 3), (53, 24), (53, 25), (53, 26), (53, 27), (53, 28), (53, 36)]
theorem J_lawV {i : Nat} {h : mH} (r : Inv i h) {v w : Nat} (hvw : (v = 16 ∧ w = 13) ∨ (v = 13 ∧ w = 16)) (e4 : gi h 11 4 = nI (v + 1)) (e2 : gi h 9 2 = nI (w + 1)) (hP : gi h 9 3 = 1 → RP w h) : w_X11_law h (fun v h1 => w_X12_law h1 (fun w h2 => v = w ∧ Inv (i + 1) h2)) := by
  obtain ⟨n, hn, c1, d1, et⟩ := r.2.2.2.2.1
  obtain ⟨x1, x2, -⟩ := r.2.2.2.2.2.1
  have hv : v = 13 ∨ v = 16 := by rcases hvw with q | q <;> omega
  have hw : w = 13 ∨ w = 16 := by rcases hvw with q | q <;> omega
  have hne : ¬ w = v := by rcases hvw with q | q <;> omega
  obtain ⟨ch, hch⟩ : ∃ ch : Nat → Int32, ch = fun p => if p < n then gi h 12 p else -1 := ⟨_, rfl⟩
  obtain ⟨cr, hcr⟩ : ∃ cr : Nat → Int32, cr = fun p => if p < n then gi h 69 p else -1 := ⟨_, rfl⟩
  have H : HC h v n ch := ⟨hv, hn, c1, e4, fun p hp => by rw [hch]; exact (if_pos hp).symm, fun p hp => by rw [hch]; exact if_neg (by omega)⟩
  have hs : ∀ p, sm (ch p) (cr p) := fun p => by
    rw [hch, hcr]
    dsimp only
    by_cases q : p < n
    · rw [if_pos q, if_pos q, (et p q).2]
      exact sm_byte (et p q).1
    · rw [if_neg q, if_neg q]
      exact Or.inl rfl
  have pe : ∀ k p L, px ch n k p L = px cr n k p L := px_cg hs
  have mvR : ∀ {h1 : mH}, Fr (cl [v, v + 1, v + 2] [(11, 1), (11, 2), (11, 3), (11, 4), (9, 2), (9, 3)]) h h1 → HR h1 n cr := fun {h1} f => by
    have k24 : gi h1 53 24 = gi h 53 24 := f.i 53 24 (by rcases hv with rfl | rfl <;> rfl)
    have k69 : ∀ p, gi h1 69 p = gi h 69 p := fun p => f.i 69 p (by rcases hv with rfl | rfl <;> rfl)
    exact ⟨hn, by rw [k24]; exact d1, fun p hp => by rw [k69, hcr]; exact (if_pos hp).symm, fun p hp => by rw [hcr]; exact if_neg (by omega)⟩
  have wide : ∀ {fs : List (Nat × Nat)} {h1 : mH}, (∀ x k, cl laws lawf x k = false → fs.contains (x, k) = false) → Fr (cl [v, v + 1, v + 2] fs) h h1 → Fr (cl laws lawf) h h1 := fun {fs h1} hfs f => f.mono (fun x k hx => by
    have h3 := hfs x k hx
    unfold cl at hx ⊢
    rw [Bool.or_eq_false_iff] at hx ⊢
    refine ⟨?_, h3⟩
    have h2 := hx.1
    simp only [List.contains_cons, List.contains_nil, Bool.or_eq_false_iff, Bool.or_false] at h2 ⊢
    rcases hv with rfl | rfl
    · exact ⟨h2.1, h2.2.1, h2.2.2.1⟩
    · exact ⟨h2.2.2.2.1, h2.2.2.2.2.1, h2.2.2.2.2.2.1⟩)
  refine p_law11 H ⟨hne, hw⟩ e2 (fun f ef h1 f1 t1 => ?_) (fun L ef h1 f1 t1 b1 b2 b3 hl b4 b5 => ?_)
  · have f1w : Fr (cl [v, v + 1, v + 2] [(11, 1), (11, 2), (11, 3), (11, 4), (9, 2), (9, 3)]) h h1 := f1.mono (fun x k hx => by
      simp only [cl, Bool.or_eq_false_iff] at hx ⊢
      refine ⟨hx.1, ?_⟩
      have h2 := hx.2
      simp only [List.contains_cons, Bool.or_eq_false_iff] at h2 ⊢
      exact ⟨h2.1, h2.2.1, h2.2.2.1, rfl⟩)
    refine p_law12 (mvR f1w) (fun f' ef' h2 f2 t2 => ?_) (fun L ef' => ?_)
    · rw [← pe, ef] at ef'
      cases ef'
      have f12 : Fr (cl laws lawf) h h2 := (wide (fun x k hx => by
        unfold cl at hx
        rw [Bool.or_eq_false_iff] at hx
        have h2 := hx.2
        simp only [List.contains_cons, Bool.or_eq_false_iff] at h2 ⊢
        exact ⟨h2.1, h2.2.1, h2.2.2.1, rfl⟩) f1).tr (f2.mono (fun x k hx => PR_cl x k (by
        unfold cl at hx ⊢
        rw [Bool.or_eq_false_iff] at hx ⊢
        have h2 := hx.1
        have h3 := hx.2
        simp only [List.contains_cons, Bool.or_eq_false_iff] at h2 h3 ⊢
        exact ⟨⟨h2.2.2.2.2.2.2.1, h2.2.2.2.2.2.2.2.1, h2.2.2.2.2.2.2.2.2.1, h2.2.2.2.2.2.2.2.2.2.1, h2.2.2.2.2.2.2.2.2.2.2.1, rfl⟩, h3.2.2.2.2.2.2.1, h3.2.2.2.2.2.2.2.1, h3.2.2.2.2.2.2.2.2.1, h3.2.2.2.2.2.2.2.2.2.1, h3.2.2.2.2.2.2.2.2.2.2.1, h3.2.2.2.2.2.2.2.2.2.2.2.1, rfl⟩)))
      have k1 : gi h2 11 1 = 0 := by rw [f2.i 11 1 rfl]; exact t1
      have g93 : gi h2 9 3 = gi h 9 3 := by rw [f2.i 9 3 rfl, f1.i 9 3 (by rcases hv with rfl | rfl <;> rfl)]
      have g92 : gi h2 9 2 = gi h 9 2 := by rw [f2.i 9 2 rfl, f1.i 9 2 (by rcases hv with rfl | rfl <;> rfl)]
      have g114 : gi h2 11 4 = gi h 11 4 := by rw [f2.i 11 4 rfl, f1.i 11 4 (by rcases hv with rfl | rfl <;> rfl)]
      have g36 : gi h2 53 36 = gi h 53 36 := by rw [f2.i 53 36 rfl, f1.i 53 36 (by rcases hv with rfl | rfl <;> rfl)]
      have hP2 : gi h2 9 3 = 1 → RP w h2 := fun q => by
        rw [g93] at q
        refine (hP q).mv ?_ (fun k => ⟨?_, ?_⟩) ?_ (fun k hk => ⟨?_, ?_⟩) (fun k hk => ⟨?_, ?_⟩)
        · rw [f2.i w 2 (by rcases hw with rfl | rfl <;> rfl), f1.i w 2 (by rcases hvw with ⟨rfl, rfl⟩ | ⟨rfl, rfl⟩ <;> rfl)]
        · rw [f2.i (w + 1) k (by rcases hw with rfl | rfl <;> rfl), f1.i (w + 1) k (by rcases hvw with ⟨rfl, rfl⟩ | ⟨rfl, rfl⟩ <;> rfl)]
        · rw [f2.i (w + 2) k (by rcases hw with rfl | rfl <;> rfl), f1.i (w + 2) k (by rcases hvw with ⟨rfl, rfl⟩ | ⟨rfl, rfl⟩ <;> rfl)]
        · rw [f2.i 72 0 rfl, f1.i 72 0 (by rcases hv with rfl | rfl <;> rfl)]
        · have b : Nat.ble 130 k = false := by rw [← Bool.not_eq_true, Nat.ble_eq]; omega
          rw [f2.i 70 k (by simp [PR, b]), f1.i 70 k (by rcases hv with rfl | rfl <;> rfl)]
        · have b : Nat.ble 130 k = false := by rw [← Bool.not_eq_true, Nat.ble_eq]; omega
          rw [f2.i 71 k (by simp [PR, b]), f1.i 71 k (by rcases hv with rfl | rfl <;> rfl)]
        · have b : Nat.ble 61 k = false := by rw [← Bool.not_eq_true, Nat.ble_eq]; omega
          rw [f2.i 73 k (by simp [PR, b]), f1.i 73 k (by rcases hv with rfl | rfl <;> rfl)]
        · have b : Nat.ble 61 k = false := by rw [← Bool.not_eq_true, Nat.ble_eq]; omega
          rw [f2.i 74 k (by simp [PR, b]), f1.i 74 k (by rcases hv with rfl | rfl <;> rfl)]
      refine ⟨rfl, ?_⟩
      exact ⟨r.1.ag (Fr.ag f12 rfl), (r.2.1.up (Nat.le_succ i)).ag (Fr.ag f12 rfl), r.2.2.1.ag (Fr.ag f12 rfl), r.2.2.2.1.ag (Fr.ag f12 rfl), ⟨0, by omega, k1, t2, fun i hi => absurd hi (Nat.not_lt_zero i)⟩, ⟨by rw [g93, g36]; exact x1, by rw [g93]; exact x2, by
        rw [g92, g114, e2, e4]
        rcases hvw with ⟨rfl, rfl⟩ | ⟨rfl, rfl⟩
        · exact Or.inl ⟨rfl, rfl, hP2⟩
        · exact Or.inr ⟨rfl, rfl, hP2⟩⟩, r.2.2.2.2.2.2.1.ag (Fr.ag f12 rfl), (r.2.2.2.2.2.2.2.1.up (Nat.le_succ i)).ag (Fr.ag f12 rfl), r.2.2.2.2.2.2.2.2.1.ag (Fr.ag f12 rfl), r.2.2.2.2.2.2.2.2.2.1.ag (Fr.ag f12 rfl), r.2.2.2.2.2.2.2.2.2.2.ag (Fr.ag f12 rfl)⟩
    · rw [← pe, ef] at ef'
      cases ef'
  · refine p_law12 (mvR f1) (fun f' ef' => ?_) (fun L' ef' h2 f2 t2 a1 hL a2 a3 a4 => ?_)
    · rw [← pe, ef] at ef'
      cases ef'
    · rw [← pe, ef] at ef'
      cases ef'
      have f12 : Fr (cl laws lawf) h h2 := (wide (fun x k hx => by
        unfold cl at hx
        rw [Bool.or_eq_false_iff] at hx
        have h2 := hx.2
        simp only [List.contains_cons, Bool.or_eq_false_iff] at h2 ⊢
        exact ⟨h2.1, h2.2.1, h2.2.2.1, h2.2.2.2.1, h2.2.2.2.2.1, h2.2.2.2.2.2.1, rfl⟩) f1).tr (f2.mono (fun x k hx => by
        unfold cl at hx ⊢
        rw [Bool.or_eq_false_iff] at hx ⊢
        have h2 := hx.1
        have h3 := hx.2
        simp only [List.contains_cons, Bool.or_eq_false_iff] at h2 h3 ⊢
        exact ⟨⟨h2.2.2.2.2.2.2.1, h2.2.2.2.2.2.2.2.1, h2.2.2.2.2.2.2.2.2.1, h2.2.2.2.2.2.2.2.2.2.1, h2.2.2.2.2.2.2.2.2.2.2.1, rfl⟩, h3.2.2.2.2.2.2.1, h3.2.2.2.2.2.2.2.1, h3.2.2.2.2.2.2.2.2.1, h3.2.2.2.2.2.2.2.2.2.1, h3.2.2.2.2.2.2.2.2.2.2.1, h3.2.2.2.2.2.2.2.2.2.2.2.1, rfl⟩))
      have k1 : gi h2 11 1 = 0 := by rw [f2.i 11 1 rfl]; exact t1
      have k2 : gi h2 11 4 = nI (w + 1) := by rw [f2.i 11 4 rfl]; exact b1
      have k3 : gi h2 9 2 = nI (v + 1) := by rw [f2.i 9 2 rfl]; exact b2
      have k4 : gi h2 9 3 = 1 := by rw [f2.i 9 3 rfl]; exact b3
      have hP2 : RP v h2 := ⟨L, (gd_px H.2.2.2.2.2 (n + 1) 0 [] (Nat.zero_le _) (fun x hx => by cases hx)).2 L ef, hl, hL, by rw [f2.i v 2 (by rcases hv with rfl | rfl <;> rfl)]; exact b4, ly_co _ 0 (fun j _ _ => ⟨f2.i _ j (by rcases hv with rfl | rfl <;> rfl), f2.i _ j (by rcases hv with rfl | rfl <;> rfl)⟩) b5, a2, a3, a4⟩
      refine ⟨rfl, ?_⟩
      exact ⟨r.1.ag (Fr.ag f12 rfl), (r.2.1.up (Nat.le_succ i)).ag (Fr.ag f12 rfl), r.2.2.1.ag (Fr.ag f12 rfl), r.2.2.2.1.ag (Fr.ag f12 rfl), ⟨0, by omega, k1, t2, fun i hi => absurd hi (Nat.not_lt_zero i)⟩, ⟨by rw [k4, a1], Or.inr k4, by
        rw [k3, k2]
        rcases hvw with ⟨rfl, rfl⟩ | ⟨rfl, rfl⟩
        · exact Or.inr ⟨rfl, rfl, fun _ => hP2⟩
        · exact Or.inl ⟨rfl, rfl, fun _ => hP2⟩⟩, r.2.2.2.2.2.2.1.ag (Fr.ag f12 rfl), (r.2.2.2.2.2.2.2.1.up (Nat.le_succ i)).ag (Fr.ag f12 rfl), r.2.2.2.2.2.2.2.2.1.ag (Fr.ag f12 rfl), r.2.2.2.2.2.2.2.2.2.1.ag (Fr.ag f12 rfl), r.2.2.2.2.2.2.2.2.2.2.ag (Fr.ag f12 rfl)⟩
theorem J_law {i : Nat} {h : mH} (r : Inv i h) : w_X11_law h (fun v h1 => w_X12_law h1 (fun w h2 => v = w ∧ Inv (i + 1) h2)) := by
  obtain ⟨-, -, q | q⟩ := r.2.2.2.2.2.1
  · exact J_lawV r (Or.inl ⟨rfl, rfl⟩) q.2.1 q.1 q.2.2
  · exact J_lawV r (Or.inr ⟨rfl, rfl⟩) q.2.1 q.1 q.2.2
