/-! PURE: of -/
theorem ixI {a : Int32} {n : Nat} (hn : n < 2 ^ 30) : inR a 0 (nI n - 1) ↔ ∃ j, j < n ∧ a = nI j := by
  have h0 : (0 : Int32).toInt = 0 := rfl
  have h1' : (1 : Int32).toInt = 1 := rfl
  rw [inR_i, sub_i (by rw [nI_toInt (by omega), h1']; omega) (by rw [nI_toInt (by omega), h1']; omega), nI_toInt (by omega), h0, h1']
  refine ⟨fun q => ⟨a.toInt.toNat, by omega, nI_of_i (by omega)⟩, fun ⟨j, hj, e⟩ => ?_⟩
  rw [e, nI_toInt (by omega)]
  omega
theorem ixO {a : Int32} {n : Nat} (hn : n < 2 ^ 30) : (¬ a < 0 ∧ a < nI n) ↔ ∃ j, j < n ∧ a = nI j := by
  refine ⟨fun q => ?_, fun ⟨j, hj, e⟩ => ?_⟩
  · obtain ⟨j, hj, rfl⟩ := nI_of q.1
    exact ⟨j, (nlt j n hj (by omega)).mp q.2, rfl⟩
  · rw [e]
    exact ⟨nI_pos (by omega), (nlt j n (by omega) (by omega)).mpr hj⟩
theorem e_toldX {h : mH} {o w n L : Nat} (hL : lenOf (rf o 2) = L) (hw : 0 < w ∧ w < 100) (hn : n < 100) (hl : w * n ≤ L ∧ L < 1000) (h1 : gi h o 1 = nI w) (h3 : gi h o 3 = nI n) {a b : Int32} {Q : Int32 → mH → Prop} (f : ¬ ((∃ j, j < n ∧ a = nI j) ∧ ∃ t, t < w ∧ b = nI t) → Q (-2000000000) h) (g : ∀ j t, j < n → t < w → a = nI j → b = nI t → Q (gi h (rf o 2) (w * j + t)) h) : w_X2_told o a b h Q := by
  unfold w_X2_told
  rw [e_11_one, h3, bi_i (ixO (by omega))]
  refine b0 (fun q => f (fun w => q w.1)) (fun q => ?_)
  rw [e_11_one, h1, bi_i (ixO (by omega))]
  refine b0 (fun q2 => f (fun w => q2 w.2)) (fun q2 => ?_)
  obtain ⟨j, hj, rfl⟩ := q
  obtain ⟨t, ht, rfl⟩ := q2
  have k1 : w * (j + 1) ≤ w * n := Nat.mul_le_mul_left w (by omega)
  rw [Nat.mul_add, Nat.mul_one] at k1
  rw [pk_mul, nI_add, Nat.mul_comm j w, hL, nI_clamp (by omega)]
  exact ⟨vp_nI (by omega) (by omega), g j t hj ht rfl rfl⟩
theorem inK {k a b : Nat} (hk : k < 2 ^ 31) (ha : a < 2 ^ 31) (hb : b < 2 ^ 31) : inR (nI k) (nI a) (nI b) ↔ a ≤ k ∧ k ≤ b := by
  rw [inR_i, nI_toInt hk, nI_toInt ha, nI_toInt hb]
  omega
theorem p_of12S {h : mH} {a : Int32} {t n : Nat} (ht : t < 10) (e14 : gi h 53 14 = nI n) (hn : n ≤ 8) {Q : Int32 → mH → Prop} (f : ¬ (t < 4 ∧ ∃ j, j < n ∧ a = nI j) → Q (-2000000000) h) (g : ∀ j, j < n → a = nI j → (t = 0 → Q (gi h 62 j) h) ∧ (t = 1 → Q (gi h 63 j) h) ∧ (t = 2 → Q (gi h 64 j) h) ∧ (t = 3 → Q (gi h 65 j) h)) : w_X12_of a (nI (10 + t)) h Q := by
  unfold w_X12_of
  rw [e_12_in]
  refine b0 (fun _ => ?_) (fun q => absurd ((inK (a := 0) (b := 1) (by omega) (by decide) (by decide)).mp q) (by omega))
  rw [e_12_in]
  refine b0 (fun _ => ?_) (fun q => absurd ((inK (a := 2) (b := 4) (by omega) (by decide) (by decide)).mp q) (by omega))
  rw [e_12_in]
  refine b0 (fun q => ?_) (fun q => ?_)
  · have q' := fun w => q ((inK (k := 10 + t) (a := 10) (b := 13) (by omega) (by decide) (by decide)).mpr w)
    rw [e_12_in]
    refine b0 (fun _ => f (fun w => q' (by omega))) (fun q => absurd ((inK (a := 20) (b := 22) (by omega) (by decide) (by decide)).mp q) (by omega))
  · have q' := (inK (k := 10 + t) (a := 10) (b := 13) (by omega) (by decide) (by decide)).mp q
    rw [e_12_in, e14, bi_i (ixI (by omega))]
    refine b1 (fun ⟨j, hj, e⟩ => ?_) (fun z => f (fun w => z w.2))
    have k := g j hj e
    rw [e, nI_clamp (by omega), show (10 : Int32) = nI 10 from rfl, show (11 : Int32) = nI 11 from rfl, show (12 : Int32) = nI 12 from rfl, nn _ 10 (by omega) (by decide), nn _ 11 (by omega) (by decide), nn _ 12 (by omega) (by decide)]
    have v8 : vp_in (nI j) 8 := vp_nI (by omega) (by decide)
    exact ⟨fun n0 => ⟨fun n1 => ⟨fun n2 => ⟨v8, k.2.2.2 (by omega)⟩, fun y => ⟨v8, k.2.2.1 (by omega)⟩⟩, fun y => ⟨v8, k.2.1 (by omega)⟩⟩, fun y => ⟨v8, k.1 (by omega)⟩⟩
theorem p_of12G {h : mH} {a : Int32} {t n : Nat} (ht : t < 2 ^ 31 - 20) (e19 : gi h 53 19 = nI n) (hn : n ≤ 10) {Q : Int32 → mH → Prop} (f : ¬ (t < 3 ∧ ∃ j, j < n ∧ a = nI j) → Q (-2000000000) h) (g : ∀ j, j < n → a = nI j → (t = 0 → Q (gi h 66 j) h) ∧ (t = 1 → Q (gi h 67 j) h) ∧ (t = 2 → Q (gi h 68 j) h)) : w_X12_of a (nI (20 + t)) h Q := by
  unfold w_X12_of
  rw [e_12_in]
  refine b0 (fun _ => ?_) (fun q => absurd ((inK (a := 0) (b := 1) (by omega) (by decide) (by decide)).mp q) (by omega))
  rw [e_12_in]
  refine b0 (fun _ => ?_) (fun q => absurd ((inK (a := 2) (b := 4) (by omega) (by decide) (by decide)).mp q) (by omega))
  rw [e_12_in]
  refine b0 (fun _ => ?_) (fun q => absurd ((inK (a := 10) (b := 13) (by omega) (by decide) (by decide)).mp q) (by omega))
  rw [e_12_in]
  refine b0 (fun q => ?_) (fun q => ?_)
  · have q' := fun w => q ((inK (k := 20 + t) (a := 20) (b := 22) (by omega) (by decide) (by decide)).mpr w)
    exact f (fun w => q' (by omega))
  · have q' := (inK (k := 20 + t) (a := 20) (b := 22) (by omega) (by decide) (by decide)).mp q
    rw [e_12_in, e19, bi_i (ixI (by omega))]
    refine b1 (fun ⟨j, hj, e⟩ => ?_) (fun z => f (fun w => z w.2))
    have k := g j hj e
    rw [e, nI_clamp (by omega), show (20 : Int32) = nI 20 from rfl, show (21 : Int32) = nI 21 from rfl, nn _ 20 (by omega) (by decide), nn _ 21 (by omega) (by decide)]
    have v8 : vp_in (nI j) 10 := vp_nI (by omega) (by decide)
    exact ⟨fun n0 => ⟨fun n1 => ⟨v8, k.2.2 (by omega)⟩, fun y => ⟨v8, k.2.1 (by omega)⟩⟩, fun y => ⟨v8, k.1 (by omega)⟩⟩
theorem p_of12A {h : mH} {a b : Int32} (hb : b < 10) {Q : Int32 → mH → Prop} (f : (∀ p, ¬ okP p b a) → Q (-2000000000) h) (g : ∀ p, okP p b a → (p = 0 → Q (gi h 54 0) h) ∧ (p = 1 → Q (gi h 54 1) h) ∧ (p = 2 → Q (gi h 55 0) h) ∧ (p = 3 → Q (gi h 55 1) h) ∧ (p = 4 → Q (gi h 53 3) h) ∧ (p = 5 → Q (gi h 53 4) h) ∧ (p = 6 → Q (gi h 53 5) h)) : w_X12_of a b h Q := by
  have h10 : (10 : Int32).toInt = 10 := rfl
  have h13 : (13 : Int32).toInt = 13 := rfl
  have h20 : (20 : Int32).toInt = 20 := rfl
  have h22 : (22 : Int32).toInt = 22 := rfl
  unfold w_X12_of
  rw [e_12_in]
  refine b0 (fun q1 => ?_) (fun q1 => ?_)
  · rw [e_12_in]
    refine b0 (fun q2 => ?_) (fun q2 => ?_)
    · have no : ∀ p, ¬ okP p b a := by
        rintro p (⟨rfl, -⟩ | ⟨rfl, -⟩ | ⟨rfl, -⟩ | ⟨rfl, -⟩ | ⟨rfl, -⟩)
        · exact q1 ⟨by decide, by decide⟩
        · exact q1 ⟨by decide, by decide⟩
        · exact q2 ⟨by decide, by decide⟩
        · exact q2 ⟨by decide, by decide⟩
        · exact q2 ⟨by decide, by decide⟩
      rw [e_12_in]
      refine b0 (fun _ => ?_) (fun q => ?_)
      · rw [e_12_in]
        refine b0 (fun _ => f no) (fun q => ?_)
        rw [inR_i, h20, h22] at q
        rw [lt_i, h10] at hb
        omega
      · rw [inR_i, h10, h13] at q
        rw [lt_i, h10] at hb
        omega
    · have hb3 : b = 2 ∨ b = 3 ∨ b = 4 := by
        rw [inR_i] at q2
        have e2 : (2 : Int32).toInt = 2 := rfl
        have e3 : (3 : Int32).toInt = 3 := rfl
        have e4 : (4 : Int32).toInt = 4 := rfl
        rw [eq_i, eq_i, eq_i]
        omega
      refine ⟨fun ea => ?_, fun ea => f ?_⟩
      · subst ea
        rcases hb3 with e | e | e <;> subst e
        · exact ⟨fun w => absurd rfl w, fun _ => (g 4 (Or.inr (Or.inr (Or.inl ⟨rfl, rfl, rfl⟩)))).2.2.2.2.1 rfl⟩
        · exact ⟨fun _ => ⟨fun w => absurd rfl w, fun _ => (g 5 (Or.inr (Or.inr (Or.inr (Or.inl ⟨rfl, rfl, rfl⟩))))).2.2.2.2.2.1 rfl⟩, fun w => absurd w (by decide)⟩
        · exact ⟨fun _ => ⟨fun _ => (g 6 (Or.inr (Or.inr (Or.inr (Or.inr ⟨rfl, rfl, rfl⟩))))).2.2.2.2.2.2 rfl, fun w => absurd w (by decide)⟩, fun w => absurd w (by decide)⟩
      · rintro p (⟨y, -⟩ | ⟨y, -⟩ | ⟨-, z, -⟩ | ⟨-, z, -⟩ | ⟨-, z, -⟩)
        · exact q1 (by rw [y]; exact ⟨by decide, by decide⟩)
        · exact q1 (by rw [y]; exact ⟨by decide, by decide⟩)
        · exact ea z
        · exact ea z
        · exact ea z
  · have hb2 := inR_01 q1
    rw [e_12_clock]
    refine b1 (fun ha => ?_) (fun ha => f ?_)
    · have v2 := vp_01 ha
      refine ⟨fun nb => ⟨v2, ?_⟩, fun yb => ⟨v2, ?_⟩⟩
      · have eb := hb2.resolve_left nb
        subst eb
        rcases inR_01 ha with rfl | rfl
        · exact (g 2 (Or.inr (Or.inl ⟨rfl, Or.inl rfl, rfl⟩))).2.2.1 rfl
        · exact (g 3 (Or.inr (Or.inl ⟨rfl, Or.inr rfl, rfl⟩))).2.2.2.1 rfl
      · subst yb
        rcases inR_01 ha with rfl | rfl
        · exact (g 0 (Or.inl ⟨rfl, Or.inl rfl, rfl⟩)).1 rfl
        · exact (g 1 (Or.inl ⟨rfl, Or.inr rfl, rfl⟩)).2.1 rfl
    · have na : ¬ (a = 0 ∨ a = 1) := fun w => ha (by rcases w with rfl | rfl <;> exact ⟨by decide, by decide⟩)
      have nb : ¬ b = 2 ∧ ¬ b = 3 ∧ ¬ b = 4 := by rcases hb2 with rfl | rfl <;> decide
      rintro p (⟨-, y, -⟩ | ⟨-, y, -⟩ | ⟨z, -⟩ | ⟨z, -⟩ | ⟨z, -⟩)
      · exact na y
      · exact na y
      · exact nb.1 z
      · exact nb.2.1 z
      · exact nb.2.2 z
theorem okP_7 {p a b : Int32} (w : okP p a b) : p = 0 ∨ p = 1 ∨ p = 2 ∨ p = 3 ∨ p = 4 ∨ p = 5 ∨ p = 6 := by
  rcases w with ⟨-, y, rfl⟩ | ⟨-, y, rfl⟩ | ⟨-, -, rfl⟩ | ⟨-, -, rfl⟩ | ⟨-, -, rfl⟩
  · rcases y with rfl | rfl <;> simp
  · rcases y with rfl | rfl <;> simp
  · simp
  · simp
  · simp
theorem J_of {i : Nat} {h : mH} (r : Inv i h) (a b : Int32) : w_X11_of a b h (fun v h1 => w_X12_of a b h1 (fun w h2 => v = w ∧ Inv (i + 1) h2)) := by
  have u := r.up
  have h10 : (10 : Int32).toInt = 10 := rfl
  have h20 : (20 : Int32).toInt = 20 := rfl
  unfold w_X11_of
  refine ⟨fun l20 => ⟨fun l10 => ?_, fun n10 => ?_⟩, fun n20 => ?_⟩
  · refine p_place (fun p w => ?_) (fun no v hv => ⟨fun q => ?_, fun _ => p_of12A l10 (fun _ => ⟨rfl, u⟩) (fun p w => absurd w (no p))⟩)
    · obtain ⟨⟨a0, a1, a2, a3, a4, a5, a6⟩, -⟩ := r.1
      have one : ∀ k : Nat, k < 7 → p = nI k → ∀ x, gi h 2 k = x → gi h 2 p.toNatClampNeg = x := fun k hk e x ex => by rw [e, nI_clamp (by omega)]; exact ex
      have p7 := okP_7 w
      have pos : 0 ≤ p ∧ vp_in p 7 := by rcases p7 with e | e | e | e | e | e | e <;> rw [e] <;> exact ⟨by decide, vpd (by decide)⟩
      refine ⟨fun _ => ⟨pos.2, ?_⟩, fun q => absurd pos.1 q⟩
      refine p_of12A l10 (fun no => absurd w (no p)) (fun p' w' => ?_)
      have ep := okP.un w w'
      subst ep
      exact ⟨fun e => ⟨one 0 (by omega) e _ a0, u⟩, fun e => ⟨one 1 (by omega) e _ a1, u⟩, fun e => ⟨one 2 (by omega) e _ a2, u⟩, fun e => ⟨one 3 (by omega) e _ a3, u⟩, fun e => ⟨one 4 (by omega) e _ a4, u⟩, fun e => ⟨one 5 (by omega) e _ a5, u⟩, fun e => ⟨one 6 (by omega) e _ a6, u⟩⟩
    · rw [le_i] at q
      rw [lt_i] at hv
      omega
  · obtain ⟨k8, k4, n, hn, c1, d1, e1⟩ := r.2.2.1
    have eb : b = nI (10 + (b.toInt.toNat - 10)) := nI_of_i (by
      rw [lt_i, h10] at n10
      omega)
    obtain ⟨t, et⟩ : ∃ t, t = b.toInt.toNat - 10 := ⟨_, rfl⟩
    rw [← et] at eb
    have ht : t < 10 := by rw [lt_i, h20] at l20; rw [lt_i, h10] at n10; omega
    have e10 : nI (10 + t) - 10 = nI t := by
      rw [show (10 : Int32) = nI 10 from rfl, pk_sub (by omega), show 10 + t - 10 = t by omega]
    rw [eb, e10]
    refine e_toldX (o := 5) (w := 4) (n := n) (L := 32) (by decide) (by decide) (by omega) (by omega) k4 c1 (fun no => p_of12S ht d1 hn (fun _ => ⟨rfl, u⟩) (fun j hj ea => ?_)) (fun j t' hj ht' ea et' => ?_)
    · have h4 : ¬ t < 4 := fun w => no ⟨⟨j, hj, ea⟩, t, w, rfl⟩
      exact ⟨fun w => by omega, fun w => by omega, fun w => by omega, fun w => by omega⟩
    · have e2 : t = t' := (nn t t' (by omega) (by omega)).mp et'
      subst e2
      refine p_of12S ht d1 hn (fun no => absurd ⟨ht', j, hj, ea⟩ no) (fun j' hj' ea' => ?_)
      have e3 : j = j' := (nn j j' (by omega) (by omega)).mp (ea.symm.trans ea')
      subst e3
      obtain ⟨s0, s1, s2, s3, -⟩ := e1 j hj
      have r5 : rf 5 2 = 6 := by decide
      rw [r5]
      exact ⟨fun w => by subst w; exact ⟨s0, u⟩, fun w => by subst w; exact ⟨s1, u⟩, fun w => by subst w; exact ⟨s2, u⟩, fun w => by subst w; exact ⟨s3, u⟩⟩
  · obtain ⟨k8, k4, n, hn, c1, d1, e1⟩ := r.2.2.2.1
    have eb : b = nI (20 + (b.toInt.toNat - 20)) := nI_of_i (by
      rw [lt_i, h20] at n20
      omega)
    have hbu := Int32.toInt_lt b
    obtain ⟨t, et⟩ : ∃ t, t = b.toInt.toNat - 20 := ⟨_, rfl⟩
    rw [← et] at eb
    have ht : t < 2 ^ 31 - 20 := by omega
    have e10 : nI (20 + t) - 20 = nI t := by
      rw [show (20 : Int32) = nI 20 from rfl, pk_sub (by omega), show 20 + t - 20 = t by omega]
    rw [eb, e10]
    refine e_toldX (o := 7) (w := 3) (n := n) (L := 30) (by decide) (by decide) (by omega) (by omega) k4 c1 (fun no => p_of12G ht d1 hn (fun _ => ⟨rfl, u⟩) (fun j hj ea => ?_)) (fun j t' hj ht' ea et' => ?_)
    · have h4 : ¬ t < 3 := fun w => no ⟨⟨j, hj, ea⟩, t, w, rfl⟩
      exact ⟨fun w => by omega, fun w => by omega, fun w => by omega⟩
    · have e2 : t = t' := (nn t t' (by omega) (by omega)).mp et'
      subst e2
      refine p_of12G ht d1 hn (fun no => absurd ⟨ht', j, hj, ea⟩ no) (fun j' hj' ea' => ?_)
      have e3 : j = j' := (nn j j' (by omega) (by omega)).mp (ea.symm.trans ea')
      subst e3
      obtain ⟨s0, s1, s2, -⟩ := e1 j hj
      have r7 : rf 7 2 = 8 := by decide
      rw [r7]
      exact ⟨fun w => by subst w; exact ⟨s0, u⟩, fun w => by subst w; exact ⟨s1, u⟩, fun w => by subst w; exact ⟨s2, u⟩⟩
