/-! PURE: call by call, class and reference side by side -/
-- ===== shown =====
theorem p_11_shown {h : mH} (rA : RA h) {a b c : Int32} {Q : Int32 → mH → Prop} (g : inR a 0 1 → inR b 0 99999 → inR c 0 1 → (c = 0 → Q (tim h a b) h) ∧ (¬ c = 0 → Q (prt h a b) h)) (f : ¬ (inR a 0 1 ∧ inR b 0 99999 ∧ inR c 0 1) → Q (-1) h) : w_X11_shown a b c h Q := by
  unfold w_X11_shown
  rw [e_11_clock]
  refine b0 (fun q => f (fun z => q z.1)) (fun h1 => ?_)
  rw [e_11_minute]
  refine b0 (fun q => f (fun z => q z.2.1)) (fun h2 => ?_)
  rw [e_11_one, bi_i (one_inR 1 rfl)]
  refine b1 (fun h3 => ?_) (fun q => f (fun z => q z.2.2))
  rw [e_10_part rA h1, e_10_time rA h1]
  exact ⟨(g h1 h2 h3).2, (g h1 h2 h3).1⟩
theorem p_12_shown {h : mH} {a b c : Int32} {Q : Int32 → mH → Prop} (g : inR a 0 1 → inR b 0 99999 → inR c 0 1 → (c = 0 → Q (tim h a b) h) ∧ (¬ c = 0 → Q (prt h a b) h)) (f : ¬ (inR a 0 1 ∧ inR b 0 99999 ∧ inR c 0 1) → Q (-1) h) : w_X12_shown a b c h Q := by
  unfold w_X12_shown
  rw [e_12_clock]
  refine b0 (fun q => f (fun z => q z.1)) (fun h1 => ?_)
  rw [e_12_minute]
  refine b0 (fun q => f (fun z => q z.2.1)) (fun h2 => ?_)
  rw [e_12_in]
  refine b1 (fun h3 => ?_) (fun q => f (fun z => q z.2.2))
  rw [e_12_part h1, e_12_show h1]
  exact ⟨(g h1 h2 h3).2, (g h1 h2 h3).1⟩
theorem J_shown {i : Nat} {h : mH} (r : Inv i h) (a b c : Int32) : w_X11_shown a b c h (fun v h1 => w_X12_shown a b c h1 (fun w h2 => v = w ∧ Inv (i + 1) h2)) := by
  have u := r.up
  refine p_11_shown r.1 (fun h1 h2 h3 => ⟨fun h4 => ?_, fun h4 => ?_⟩) (fun n => ?_)
  · exact p_12_shown (fun _ _ _ => ⟨fun _ => ⟨rfl, u⟩, fun z => absurd h4 z⟩) (fun n => absurd ⟨h1, h2, h3⟩ n)
  · exact p_12_shown (fun _ _ _ => ⟨fun z => absurd z h4, fun _ => ⟨rfl, u⟩⟩) (fun n => absurd ⟨h1, h2, h3⟩ n)
  · exact p_12_shown (fun h1 h2 h3 => absurd ⟨h1, h2, h3⟩ n) (fun _ => ⟨rfl, u⟩)
-- ===== led =====
theorem p_11_led {h : mH} {a b : Int32} {Q : Int32 → mH → Prop} (g : inR a 0 1 → inR b 0 1 → (b = 0 → Q (gi h 3 a.toNatClampNeg) h) ∧ (¬ b = 0 → Q (if gi h 3 a.toNatClampNeg = 0 then -2 else gi h 4 a.toNatClampNeg) h)) (f : ¬ (inR a 0 1 ∧ inR b 0 1) → Q (-1) h) : w_X11_led a b h Q := by
  unfold w_X11_led
  rw [e_11_clock]
  refine b0 (fun q => f (fun z => q z.1)) (fun h1 => ?_)
  rw [e_11_one, bi_i (one_inR 1 rfl)]
  refine b1 (fun h3 => ?_) (fun q => f (fun z => q z.2))
  refine ⟨fun h4 => ⟨vp_01 h1, ?_⟩, fun h4 => ⟨vp_01 h1, (g h1 h3).1 h4⟩⟩
  have g2 := (g h1 h3).2 h4
  by_cases h5 : gi h 3 a.toNatClampNeg = 0
  · rw [if_pos h5] at g2
    exact ⟨fun z => absurd h5 z, fun _ => g2⟩
  · rw [if_neg h5] at g2
    exact ⟨fun _ => ⟨vp_01 h1, g2⟩, fun z => absurd z h5⟩
theorem p_12_led {h : mH} {a b : Int32} {Q : Int32 → mH → Prop} (g : inR a 0 1 → inR b 0 1 → (b = 0 → Q (gi h 56 a.toNatClampNeg) h) ∧ (¬ b = 0 → Q (gi h 57 a.toNatClampNeg) h)) (f : ¬ (inR a 0 1 ∧ inR b 0 1) → Q (-1) h) : w_X12_led a b h Q := by
  unfold w_X12_led
  rw [e_12_clock]
  refine b0 (fun q => f (fun z => q z.1)) (fun h1 => ?_)
  rw [e_12_in]
  refine b1 (fun h3 => ?_) (fun q => f (fun z => q z.2))
  exact ⟨fun h4 => ⟨vp_01 h1, (g h1 h3).2 h4⟩, fun h4 => ⟨vp_01 h1, (g h1 h3).1 h4⟩⟩
theorem RD.at {i : Nat} {h : mH} (r : RD i h) {c : Int32} (hc : inR c 0 1) : okL i (gi h 3 c.toNatClampNeg) (gi h 4 c.toNatClampNeg) (gi h 57 c.toNatClampNeg) (gi h 56 c.toNatClampNeg) := by
  rcases inR_01 hc with rfl | rfl
  · exact r.1
  · exact r.2
theorem J_led {i : Nat} {h : mH} (r : Inv i h) (a b : Int32) : w_X11_led a b h (fun v h1 => w_X12_led a b h1 (fun w h2 => v = w ∧ Inv (i + 1) h2)) := by
  have u := r.up
  refine p_11_led (fun h1 h3 => ?_) (fun n => ?_)
  · have k := r.2.1.at h1
    refine ⟨fun h4 => ?_, fun h4 => ?_⟩
    · exact p_12_led (fun _ _ => ⟨fun _ => ⟨k.1, u⟩, fun z => absurd h4 z⟩) (fun n => absurd ⟨h1, h3⟩ n)
    · refine p_12_led (fun _ _ => ⟨fun z => absurd z h4, fun _ => ⟨?_, u⟩⟩) (fun n => absurd ⟨h1, h3⟩ n)
      by_cases h5 : gi h 3 a.toNatClampNeg = 0
      · rw [if_pos h5, k.2.2.2.1 h5]
      · rw [if_neg h5, k.2.2.2.2 h5]
  · exact p_12_led (fun h1 h3 => absurd ⟨h1, h3⟩ n) (fun _ => ⟨rfl, u⟩)
-- ===== count =====
theorem J_count {i : Nat} {h : mH} (r : Inv i h) (a : Int32) : w_X11_count a h (fun v h1 => w_X12_count a h1 (fun w h2 => v = w ∧ Inv (i + 1) h2)) := by
  have u := r.up
  obtain ⟨rA, rD, ⟨-, -, n1, -, c1, d1, -⟩, ⟨-, -, n2, -, c2, d2, -⟩, ⟨n3, -, c3, d3, -⟩, -, ⟨n4, m4, -, -, -, c4, d4, -⟩, -, ⟨n5, -, c5, d5, -⟩, ⟨n6, -, c6, d6, -⟩, -⟩ := r
  have e1 := c1.trans d1.symm
  have e2 := c2.trans d2.symm
  have e3 := c3.trans d3.symm
  have e4 := c4.trans d4.symm
  have e5 := c5.trans d5.symm
  have e6 := c6.trans d6.symm
  unfold w_X11_count w_X12_count w_X6_bytesOnTape
  by_cases h0 : a = 0
  · subst h0; simp [u, e1]
  · by_cases h1 : a = 1
    · subst h1; simp [u, e2]
    · by_cases h2 : a = 2
      · subst h2; simp [u, e3]
      · by_cases h3 : a = 3
        · subst h3; simp [u, e4]
        · by_cases h4 : a = 4
          · subst h4; simp [u, e5]
          · by_cases h5 : a = 5
            · subst h5; simp [u, e6]
            · simp [h0, h1, h2, h3, h4, h5, u]
-- ===== numbers nI in conditions =====
theorem nl (a b : Nat) (ha : a < 2 ^ 31) (hb : b < 2 ^ 31) : (nI a ≤ nI b) ↔ a ≤ b := nI_leI ha hb
theorem nlt (a b : Nat) (ha : a < 2 ^ 31) (hb : b < 2 ^ 31) : (nI a < nI b) ↔ a < b := nI_ltI ha hb
theorem nn (a b : Nat) (ha : a < 2 ^ 31) (hb : b < 2 ^ 31) : (nI a = nI b) ↔ a = b := nI_eq ha hb
theorem neg_or (a : Int32) : a < 0 ∨ ∃ j, j < 2 ^ 31 ∧ a = nI j := by
  by_cases h : a < 0
  · exact Or.inl h
  · exact Or.inr (nI_of h)
-- ===== trace =====
theorem p_12_trace {h : mH} {n : Nat} (hn : n < 2 ^ 31) (d1 : gi h 53 51 = nI n) {a : Int32} {Q : Int32 → mH → Prop} (g : ∀ j, j < n → j < 24 → a = nI j → Q (gi h 85 j) h) (f : (∀ j, j < n → j < 24 → ¬ a = nI j) → Q (-1) h) : w_X12_trace a h Q := by
  unfold w_X12_trace
  rw [d1]
  refine ⟨fun h0 => f (fun j h1 h2 e => nI_pos (by omega) (e ▸ h0)), fun h0 => ?_⟩
  obtain ⟨j, hj, rfl⟩ := nI_of h0
  rw [nl n j hn hj, show (24 : Int32) = nI 24 from rfl, nl 24 j (by decide) hj, nI_clamp hj]
  refine ⟨fun q => f (fun k h1 h2 e => ?_), fun q => ⟨fun q2 => f (fun k h1 h2 e => ?_), fun q2 => ⟨vp_nI (by omega) (by decide), g j (by omega) (by omega) rfl⟩⟩⟩
  · rw [nn j k hj (by omega)] at e; omega
  · rw [nn j k hj (by omega)] at e; omega
theorem p_11_trace {h : mH} {n : Nat} (hn : n < 2 ^ 31) (d1 : gi h 37 3 = nI n) {a : Int32} {Q : Int32 → mH → Prop} (g : ∀ j, j < n → j < 24 → a = nI j → Q (gi h 39 j) h) (f : (∀ j, j < n → j < 24 → ¬ a = nI j) → Q (-1) h) : w_X11_trace a h Q := by
  unfold w_X11_trace
  have hm : imin (nI n) 24 = nI (min n 24) := by
    unfold imin
    rw [show (24 : Int32) = nI 24 from rfl]
    by_cases q : 24 < n
    · rw [if_pos ((nlt 24 n (by decide) hn).mpr q), Nat.min_eq_right (by omega)]
    · rw [if_neg (fun z => q ((nlt 24 n (by decide) hn).mp z)), Nat.min_eq_left (by omega)]
  rw [e_11_one, d1, hm]
  refine b0 (fun q => f (fun k h1 h2 e => q ⟨?_, ?_⟩)) (fun q => ?_)
  · rw [e]; exact nI_pos (by omega)
  · rw [e, nlt k _ (by omega) (by omega)]; omega
  · obtain ⟨j, hj, rfl⟩ := nI_of q.1
    have q2 := q.2
    rw [nlt j _ hj (by omega)] at q2
    rw [nI_clamp hj]
    exact ⟨vp_nI (by omega) (by decide), g j (by omega) (by omega) rfl⟩
theorem J_trace {i : Nat} {h : mH} (r : Inv i h) (a : Int32) : w_X11_trace a h (fun v h1 => w_X12_trace a h1 (fun w h2 => v = w ∧ Inv (i + 1) h2)) := by
  have u := r.up
  obtain ⟨n, hn, c1, d1, e1⟩ := r.2.2.2.2.2.2.2.2.2.1
  refine p_11_trace (by omega) c1 (fun j h1 h2 e => ?_) (fun n1 => ?_)
  · subst e
    refine p_12_trace (by omega) d1 (fun k h3 h4 e => ?_) (fun n2 => absurd rfl (n2 j h1 h2))
    rw [nn j k (by omega) (by omega)] at e
    subst e
    exact ⟨e1 j h1 h2, u⟩
  · exact p_12_trace (by omega) d1 (fun j h1 h2 e => absurd e (n1 j h1 h2)) (fun _ => ⟨rfl, u⟩)
-- ===== forget =====
theorem J_forget {i : Nat} {h : mH} (r : Inv i h) : w_X11_forget h (fun v h1 => w_X12_forget h1 (fun w h2 => v = w ∧ Inv (i + 1) h2)) := by
  have u := r.up
  obtain ⟨k8, k4, n, hn, c1, d1, e1⟩ := r.2.2.1
  have p1 : ∀ {Q : Int32 → mH → Prop}, (0 < n → Q (nI (n - 1)) (si h 5 3 (nI (n - 1)))) → (n = 0 → Q (-5) h) → w_X11_forget h Q := by
    intro Q g f
    unfold w_X11_forget
    simp only [forall_eq, gi_si, c1, and_self, if_true]
    refine ⟨fun q => ?_, fun q => f ?_⟩
    · have hz : ¬ n = 0 := fun z => q (by rw [z]; rfl)
      obtain ⟨m, rfl⟩ : ∃ m, n = m + 1 := ⟨n - 1, by omega⟩
      rw [nI_pred]
      exact g (by omega)
    · exact Classical.byContradiction fun z => nI_ne0 (by omega) (by omega) q
  have p2 : ∀ {h1 : mH} {Q : Int32 → mH → Prop}, gi h1 53 14 = nI n → (0 < n → Q (nI (n - 1)) (si h1 53 14 (nI (n - 1)))) → (n = 0 → Q (-5) h1) → w_X12_forget h1 Q := by
    intro h1 Q d2 g f
    unfold w_X12_forget
    simp only [forall_eq, gi_si, d2, and_self, if_true]
    refine ⟨fun q => ?_, fun q => f ?_⟩
    · have hz : ¬ n = 0 := fun z => q (by rw [z]; rfl)
      obtain ⟨m, rfl⟩ : ∃ m, n = m + 1 := ⟨n - 1, by omega⟩
      rw [nI_pred]
      exact g (by omega)
    · exact Classical.byContradiction fun z => nI_ne0 (by omega) (by omega) q
  refine p1 (fun hp => ?_) (fun h0 => p2 d1 (fun z => by omega) (fun _ => ⟨rfl, u⟩))
  refine p2 d1 (fun _ => ⟨rfl, ?_⟩) (fun z => by omega)
  have f : Fr (cl [] [(5, 3), (53, 14)]) h (si (si h 5 3 (nI (n - 1))) 53 14 (nI (n - 1))) := ((Fr.rf _ h).si rfl).si rfl
  exact ⟨r.1.ag (Fr.ag f rfl), (r.2.1.up (Nat.le_succ i)).ag (Fr.ag f rfl), ⟨k8, k4, n - 1, by omega, rfl, rfl, fun j hj => e1 j (by omega)⟩, r.2.2.2.1.ag (Fr.ag f rfl), r.2.2.2.2.1.ag (Fr.ag f rfl), r.2.2.2.2.2.1.ag (Fr.ag f rfl), r.2.2.2.2.2.2.1.ag (Fr.ag f rfl), (r.2.2.2.2.2.2.2.1.up (Nat.le_succ i)).ag (Fr.ag f rfl), r.2.2.2.2.2.2.2.2.1.ag (Fr.ag f rfl), r.2.2.2.2.2.2.2.2.2.1.ag (Fr.ag f rfl), r.2.2.2.2.2.2.2.2.2.2.ag (Fr.ag f rfl)⟩
-- ===== feed =====
theorem J_feed {i : Nat} {h : mH} (r : Inv i h) (a : Int32) : w_X11_feed a h (fun v h1 => w_X12_feed a h1 (fun w h2 => v = w ∧ Inv (i + 1) h2)) := by
  have u := r.up
  obtain ⟨n, hn, c1, d1, e1⟩ := r.2.2.2.2.1
  have p1 : ∀ {Q : Int32 → mH → Prop}, (inR a 0 255 → n < 120 → Q (nI (n + 1)) (si (si h 12 n a) 11 1 (nI (n + 1)))) → (inR a 0 255 → n = 120 → Q (-3) h) → (¬ inR a 0 255 → Q (-1) h) → w_X11_feed a h Q := by
    intro Q g f e
    unfold w_X11_feed w_X6_takeByte w_X8_takeByte
    refine ⟨fun q => e (fun z => z.1 q), fun q => ⟨fun q2 => ?_, fun q2 => e (fun z => z.2 ?_)⟩⟩
    · have hr : inR a 0 255 := ⟨q, by rw [le_i] at q2; rw [lt_i]; omega⟩
      simp only [forall_eq, gi_si, c1, nI_1]
      rw [show (120 : Int32) = nI 120 from rfl, nlt n 120 (by omega) (by decide), nI_clamp (by omega)]
      refine ⟨fun q3 => ⟨vp_nI q3 (by decide), ?_⟩, fun q3 => f hr (by omega)⟩
      simp
      rw [nI_1]
      exact g hr q3
    · rw [le_i] at q2; rw [lt_i]; omega
  have p2 : ∀ {h1 : mH} {Q : Int32 → mH → Prop}, gi h1 53 24 = nI n → (inR a 0 255 → n < 120 → Q (nI (n + 1)) (si (si h1 69 n a.toInt8.toInt32) 53 24 (nI (n + 1)))) → (inR a 0 255 → n = 120 → Q (-3) h1) → (¬ inR a 0 255 → Q (-1) h1) → w_X12_feed a h1 Q := by
    intro h1 Q d2 g f e
    unfold w_X12_feed
    rw [e_12_in]
    refine b1 (fun hr => ?_) e
    simp only [forall_eq, gi_si, d2, nI_1]
    rw [show (120 : Int32) = nI 120 from rfl, nn n 120 (by omega) (by decide), nI_clamp (by omega), show vp_nar .byte a.toInt8.toInt32 = a.toInt8.toInt32 from pk_vb a]
    refine ⟨fun q3 => ⟨vp_nI (by omega) (by decide), ?_⟩, fun q3 => f hr q3⟩
    simp
    rw [nI_1]
    exact g hr (by omega)
  refine p1 (fun hr hl => p2 d1 (fun _ _ => ⟨rfl, ?_⟩) (fun _ z => by omega) (fun z => absurd hr z)) (fun hr hl => p2 d1 (fun _ z => by omega) (fun _ _ => ⟨rfl, u⟩) (fun z => absurd hr z)) (fun hr => p2 d1 (fun z => absurd z hr) (fun z => absurd z hr) (fun _ => ⟨rfl, u⟩))
  have f : Fr (cl [12, 69] [(11, 1), (53, 24)]) h (si (si (si (si h 12 n a) 11 1 (nI (n + 1))) 69 n a.toInt8.toInt32) 53 24 (nI (n + 1))) := ((((Fr.rf _ h).si rfl).si rfl).si rfl).si rfl
  exact ⟨r.1.ag (Fr.ag f rfl), (r.2.1.up (Nat.le_succ i)).ag (Fr.ag f rfl), r.2.2.1.ag (Fr.ag f rfl), r.2.2.2.1.ag (Fr.ag f rfl), ⟨n + 1, by omega, rfl, rfl, fun j hj => by
        simp only [gi_si]
        by_cases q : j = n
        · subst q
          simp [hr]
        · have := e1 j (by omega)
          simp [q, this]⟩, r.2.2.2.2.2.1.ag (Fr.ag f rfl), r.2.2.2.2.2.2.1.ag (Fr.ag f rfl), (r.2.2.2.2.2.2.2.1.up (Nat.le_succ i)).ag (Fr.ag f rfl), r.2.2.2.2.2.2.2.2.1.ag (Fr.ag f rfl), r.2.2.2.2.2.2.2.2.2.1.ag (Fr.ag f rfl), r.2.2.2.2.2.2.2.2.2.2.ag (Fr.ag f rfl)⟩
