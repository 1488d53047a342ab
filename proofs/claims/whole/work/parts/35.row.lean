/-! PURE: row, taken, shift -/
theorem Fr.zr {P : Nat → Nat → Bool} {h h1 : mH} {o k n : Nat} (a : Fr P h h1) (hp : ∀ b, P o b = true) : Fr P h (zr h1 o k n) := by
  intro b j hb
  refine ⟨(a b j hb).1, ?_⟩
  rw [gl_zr, if_neg]
  · exact (a b j hb).2
  · rintro ⟨rfl, -, -⟩
    rw [hp] at hb
    cases hb
def hR1 (h : mH) (k s n : Nat) : mH := zr (si (si (si h (41 + 2 * k) 1 2) (41 + 2 * k) 3 (nI s)) (41 + 2 * k) 4 (nI n)) (42 + 2 * k) 0 60
def hR2 (h : mH) (k s n : Nat) : mH := zr (si (si h 86 k (-2 - nI s)) 87 k (nI n)) 88 (60 * k) 60
theorem okH_row {h : mH} {k s n : Nat} (hk : k < 6) (hs : s ≤ 4) (hn : n ≤ 60) (rH : RH h) : RH (hR2 (hR1 h k s n) k s n) := by
  refine RH.all.mpr (fun k2 hk2 => ?_)
  unfold hR2 hR1
  by_cases q : k2 = k
  · subst q
    refine Or.inr (Or.inr ⟨?_, s, n, hs, hn, ?_, ?_, ?_, ?_, fun j hj => ?_⟩)
    · simp only [gi_si, gi_zr]
      rw [if_neg (by omega), if_neg (by omega), if_neg (by omega), if_neg (by omega), if_pos (by simp)]
    · simp only [gi_si, gi_zr]
      rw [if_neg (by omega), if_neg (by omega), if_neg (by omega), if_pos (by simp)]
    · simp only [gi_si, gi_zr]
      rw [if_neg (by omega), if_pos (by simp)]
    · simp only [gi_si, gi_zr]
      rw [if_neg (by omega), if_neg (by omega), if_pos (by simp)]
    · simp only [gi_si, gi_zr]
      rw [if_pos (by simp)]
    · simp only [gl_si, gl_zr]
      rw [if_neg (by omega), if_pos (by simp <;> omega), if_pos (by simp <;> omega)]
  · refine okH.to (h := h) (fun j => ?_) ?_ ?_ (fun j => ?_) (fun j hj => ?_) ?_ (RH.all.mp rH k2 hk2)
    · simp only [gi_si, gi_zr]
      rw [if_neg (by omega), if_neg (by omega), if_neg (by omega), if_neg (by omega), if_neg (by omega)]
    · simp only [gi_si, gi_zr]
      rw [if_neg (by omega), if_neg (by omega), if_neg (by omega), if_neg (by omega), if_neg (by omega)]
    · simp only [gi_si, gi_zr]
      rw [if_neg (by omega), if_neg (by omega), if_neg (by omega), if_neg (by omega), if_neg (by omega)]
    · simp only [gl_si, gl_zr]
      rw [if_neg (by omega), if_neg (by omega)]
    · simp only [gl_si, gl_zr]
      rw [if_neg (by omega), if_neg (by omega)]
    · simp only [gi_si, gi_zr]
      rw [if_neg (by omega), if_neg (by omega), if_neg (by omega), if_neg (by omega), if_neg (by omega)]
      exact Nat.le_refl _
theorem J_row {i : Nat} {h : mH} (r : Inv i h) (a b c : Int32) : w_X11_row a b c h (fun v h1 => w_X12_row a b c h1 (fun w h2 => v = w ∧ Inv (i + 1) h2)) := by
  have u := r.up
  have h0 : (0 : Int32).toInt = 0 := rfl
  have h60 : (60 : Int32).toInt = 60 := rfl
  have p2 : ∀ {h1 : mH} {Q : Int32 → mH → Prop}, (∀ k s n, k < 6 → s ≤ 4 → n ≤ 60 → a = nI k → b = nI s → c = nI n → Q 1 (hR2 h1 k s n)) → (inR a 0 5 → inR b 0 4 → c ≤ 60 → ¬ 0 ≤ c → Q (-14) h1) → (¬ (inR a 0 5 ∧ inR b 0 4 ∧ c ≤ 60) → Q (-1) h1) → w_X12_row a b c h1 Q := by
    intro h1 Q g f e
    unfold w_X12_row
    rw [e_12_shelf]
    refine b0 (fun q => e (fun z => q z.1)) (fun ha => ?_)
    rw [e_12_in]
    refine b0 (fun q => e (fun z => q z.2.1)) (fun hb => ⟨fun hc => ⟨fun q => ?_, fun q => f ha hb hc q⟩, fun q => e (fun z => q z.2.2)⟩)
    obtain ⟨k, hk, rfl, hck, hv⟩ := sh_k ha
    obtain ⟨s, hs, rfl⟩ := inR_nI (N := 4) rfl (by decide) hb
    have hcn : ∃ n, n ≤ 60 ∧ c = nI n := by
      rw [le_i] at hc q
      exact ⟨c.toInt.toNat, by omega, nI_of_i (by omega)⟩
    obtain ⟨n, hn, rfl⟩ := hcn
    refine ⟨hv, fun h5 e5 => ⟨hv, fun h6 e6 x7 e7 => ?_⟩⟩
    subst e5
    subst e6
    subst e7
    rw [hck]
    exact p_row12 hk rfl (g k s n hk hs hn rfl rfl rfl)
  unfold w_X11_row
  rw [e_11_shelf]
  refine b0 (fun q => p2 (fun k s n hk hs hn e _ _ => absurd (by rw [e]; exact nI_inR (N := 5) (by omega) (by decide)) q) (fun z => absurd z q) (fun _ => ⟨rfl, u⟩)) (fun ha => ?_)
  rw [e_11_one, bi_i (one_inR 4 rfl)]
  refine b0 (fun q => p2 (fun k s n hk hs hn _ e _ => absurd (by rw [e]; exact nI_inR (N := 4) (by omega) (by decide)) q) (fun _ z => absurd z q) (fun _ => ⟨rfl, u⟩)) (fun hb => ⟨fun hc => ⟨fun q => ?_, fun q => p2 (fun k s n hk hs hn _ _ e => absurd (by rw [e, le_i, nI_toInt (by omega), h0]; omega) q) (fun _ _ _ _ => ⟨rfl, u⟩) (fun z => absurd ⟨ha, hb, hc⟩ z)⟩, fun q => p2 (fun k s n hk hs hn _ _ e => absurd (by rw [e, le_i, nI_toInt (by omega), h60]; omega) q) (fun _ _ z => absurd z q) (fun _ => ⟨rfl, u⟩)⟩)
  obtain ⟨k, hk, rfl, hck, hv⟩ := sh_k ha
  obtain ⟨s, hs, rfl⟩ := inR_nI (N := 4) rfl (by decide) hb
  have hcn : ∃ n, n ≤ 60 ∧ c = nI n := by
    rw [le_i] at hc q
    exact ⟨c.toInt.toNat, by omega, nI_of_i (by omega)⟩
  obtain ⟨n, hn, rfl⟩ := hcn
  obtain ⟨r1, r2, r3⟩ := rf_sh k hk
  refine ⟨hv, fun r5 e5 => ?_⟩
  subst e5
  rw [hck, r1]
  intro h1 e1 h2 e2 h3 e3
  subst e1
  subst e2
  subst e3
  refine p_row9 hk ?_
  refine p2 (h1 := hR1 h k s n) (fun k2 s2 n2 hk2 hs2 hn2 ek es en => ?_) (fun _ _ _ z => absurd q z) (fun z => absurd ⟨ha, hb, hc⟩ z)
  have := nIne hk hk2 ek
  subst this
  have : s = s2 := (nn s s2 (by omega) (by omega)).mp es
  subst this
  have : n = n2 := (nn n n2 (by omega) (by omega)).mp en
  subst this
  have f : Fr (cl [41, 43, 45, 47, 49, 51, 86, 87, 42, 44, 46, 48, 50, 52, 88] []) h (hR2 (hR1 h k s n) k s n) := ((((((Fr.rf _ h).si (cl_sh k hk _)).si (cl_sh k hk _)).si (cl_sh k hk _)).zr (cl_ro k hk)).si rfl |>.si rfl).zr (fun _ => rfl)
  exact ⟨rfl, ⟨r.1.ag (Fr.ag f rfl), (r.2.1.up (Nat.le_succ i)).ag (Fr.ag f rfl), r.2.2.1.ag (Fr.ag f rfl), r.2.2.2.1.ag (Fr.ag f rfl), r.2.2.2.2.1.ag (Fr.ag f rfl), r.2.2.2.2.2.1.ag (Fr.ag f rfl), r.2.2.2.2.2.2.1.ag (Fr.ag f rfl), (r.2.2.2.2.2.2.2.1.up (Nat.le_succ i)).ag (Fr.ag f rfl), r.2.2.2.2.2.2.2.2.1.ag (Fr.ag f rfl), r.2.2.2.2.2.2.2.2.2.1.ag (Fr.ag f rfl), okH_row hk hs hn r.2.2.2.2.2.2.2.2.2.2⟩⟩
-- ===== taken =====
def und (k top : Nat) : Bool := top == 0 || k == top || (top == 1 && k == 4) || (top == 2 && (k == 3 || k == 5)) || (top == 3 && k == 5) || (top == 6 && k == 7)
theorem e_12_under {k top : Nat} (hk : k ≤ 7) (ht : top ≤ 7) (h : mH) (Q : Int32 → mH → Prop) (K : Q (if und k top = true then 1 else 0) h) : w_X12_isUnder (nI k) (nI top) h Q := by
  unfold w_X12_isUnder w_X12_isUnder_J19 w_X12_isUnder_J44
  simp only [show (0 : Int32) = nI 0 from rfl, show (2 : Int32) = nI 2 from rfl, show (3 : Int32) = nI 3 from rfl, show (4 : Int32) = nI 4 from rfl, show (5 : Int32) = nI 5 from rfl, show (6 : Int32) = nI 6 from rfl, show (7 : Int32) = nI 7 from rfl, show (1 : Int32) = nI 1 from rfl] at K ⊢
  rcases (show top = 0 ∨ top = 1 ∨ top = 2 ∨ top = 3 ∨ top = 4 ∨ top = 5 ∨ top = 6 ∨ top = 7 by omega) with rfl | rfl | rfl | rfl | rfl | rfl | rfl | rfl <;> rcases (show k = 0 ∨ k = 1 ∨ k = 2 ∨ k = 3 ∨ k = 4 ∨ k = 5 ∨ k = 6 ∨ k = 7 by omega) with rfl | rfl | rfl | rfl | rfl | rfl | rfl | rfl <;> simp (decide := true) [und, nn] at K ⊢ <;> exact K

/-- the walk up from a kind, step by step -/
theorem e_0_step {x top i : Nat} {n : Nat} (hx : x ≤ 7) (ht : top ≤ 7) (hi : i < 8) {h : mH} {Q : Int32 → mH → Prop} {K : Int32 → mH → Prop} (g : x = top → K (nI x) h) (nx : ¬ x = top → w_X0_isUnder_L4 K Q (nI top) n (m_abv x) (nI (i + 1)) h) : w_X0_isUnder_L4 K Q (nI top) (n + 1) (nI x) (nI i) h := by
  unfold w_X0_isUnder_L4
  rw [show (8 : Int32) = nI 8 from rfl, nl 8 i (by decide) (by omega), e_11_one, bi_1 ⟨nI_pos (by omega), (nlt x 8 (by omega) (by decide)).mpr (by omega)⟩, nn x top (by omega) (by omega), nI_clamp (by omega), nI_1]
  refine ⟨fun q => by omega, fun _ => ⟨fun q => absurd q (by decide), fun _ => ⟨g, fun q => ⟨vp_nI (by omega) (by decide), fun x3 e3 => ?_⟩⟩⟩⟩
  subst e3
  exact nx q
theorem e_0_end {top i : Nat} {n : Nat} (hi : i < 8) {h : mH} {Q : Int32 → mH → Prop} {K : Int32 → mH → Prop} (g : K (-1) h) : w_X0_isUnder_L4 K Q (nI top) (n + 1) (-1) (nI i) h := by
  unfold w_X0_isUnder_L4
  rw [show (8 : Int32) = nI 8 from rfl, nl 8 i (by decide) (by omega), e_11_one, bi_0 (fun q => q.1 (by decide))]
  exact ⟨fun q => by omega, fun _ => ⟨fun _ => g, fun q => absurd rfl q⟩⟩
theorem e_0_under {k top : Nat} (hk : k ≤ 7) (ht : top ≤ 7) (h : mH) (Q : Int32 → mH → Prop) (K : Q (if und k top = true then 1 else 0) h) : w_X0_isUnder (nI k) (nI top) h Q := by
  unfold w_X0_isUnder
  have yes : ∀ x, x = top → und k top = true → ((¬ nI x = nI top → Q 0 h) ∧ (nI x = nI top → Q 1 h)) := fun x e q => by
    subst e
    rw [if_pos q] at K
    exact ⟨fun z => absurd rfl z, fun _ => K⟩
  have no : und k top = false → ((¬ (-1 : Int32) = nI top → Q 0 h) ∧ ((-1 : Int32) = nI top → Q 1 h)) := fun q => by
    rw [if_neg (by rw [q]; decide)] at K
    exact ⟨fun _ => K, fun z => absurd z.symm (nI_m1 (by omega))⟩
  have t0 : ∀ n i, i < 7 → (top = 0 → und k top = true) → (¬ top = 0 → und k top = false) → w_X0_isUnder_L4 (fun l h5 => ((¬ l = nI top → Q 0 h5) ∧ (l = nI top → Q 1 h5))) Q (nI top) (n + 2) (nI 0) (nI i) h := fun n i hi a b => e_0_step (by decide) ht (by omega) (fun q => yes 0 q (a q.symm)) (fun q => e_0_end (by omega) (no (b (fun z => q z.symm))))
  have t1 : ∀ (x n i : Nat), x ≤ 7 → m_abv x = nI 0 → i < 6 → (top = x → und k top = true) → (top = 0 → und k top = true) → (¬ top = x → ¬ top = 0 → und k top = false) → w_X0_isUnder_L4 (fun l h5 => ((¬ l = nI top → Q 0 h5) ∧ (l = nI top → Q 1 h5))) Q (nI top) (n + 3) (nI x) (nI i) h := fun x n i hx ha hi a b c => e_0_step hx ht (by omega) (fun q => yes x q (a q.symm)) (fun q => by rw [ha]; exact t0 n (i + 1) (by omega) b (c (fun z => q z.symm)))
  have t2 : ∀ (x y n i : Nat), x ≤ 7 → y ≤ 7 → m_abv x = nI y → m_abv y = nI 0 → i < 5 → (top = x → und k top = true) → (top = y → und k top = true) → (top = 0 → und k top = true) → (¬ top = x → ¬ top = y → ¬ top = 0 → und k top = false) → w_X0_isUnder_L4 (fun l h5 => ((¬ l = nI top → Q 0 h5) ∧ (l = nI top → Q 1 h5))) Q (nI top) (n + 4) (nI x) (nI i) h := fun x y n i hx hy ha hb hi a b c d => e_0_step hx ht (by omega) (fun q => yes x q (a q.symm)) (fun q => by rw [ha]; exact t1 y n (i + 1) hy hb (by omega) b c (d (fun z => q z.symm)))
  refine ⟨6, ?_⟩
  have un : ∀ x, x = und k top → und k top = x := fun x e => e.symm
  rcases (show k = 0 ∨ k = 1 ∨ k = 2 ∨ k = 3 ∨ k = 4 ∨ k = 5 ∨ k = 6 ∨ k = 7 by omega) with rfl | rfl | rfl | rfl | rfl | rfl | rfl | rfl
  · exact t0 4 0 (by decide) (fun e => by subst e; rfl) (fun e => by rcases (show top = 1 ∨ top = 2 ∨ top = 3 ∨ top = 4 ∨ top = 5 ∨ top = 6 ∨ top = 7 by omega) with rfl | rfl | rfl | rfl | rfl | rfl | rfl <;> rfl)
  · exact t1 1 3 0 (by decide) (by decide) (by decide) (fun e => by subst e; rfl) (fun e => by subst e; rfl) (fun e e2 => by rcases (show top = 2 ∨ top = 3 ∨ top = 4 ∨ top = 5 ∨ top = 6 ∨ top = 7 by omega) with rfl | rfl | rfl | rfl | rfl | rfl <;> rfl)
  · exact t1 2 3 0 (by decide) (by decide) (by decide) (fun e => by subst e; rfl) (fun e => by subst e; rfl) (fun e e2 => by rcases (show top = 1 ∨ top = 3 ∨ top = 4 ∨ top = 5 ∨ top = 6 ∨ top = 7 by omega) with rfl | rfl | rfl | rfl | rfl | rfl <;> rfl)
  · exact t2 3 2 2 0 (by decide) (by decide) (by decide) (by decide) (by decide) (fun e => by subst e; rfl) (fun e => by subst e; rfl) (fun e => by subst e; rfl) (fun e e2 e3 => by rcases (show top = 1 ∨ top = 4 ∨ top = 5 ∨ top = 6 ∨ top = 7 by omega) with rfl | rfl | rfl | rfl | rfl <;> rfl)
  · exact t2 4 1 2 0 (by decide) (by decide) (by decide) (by decide) (by decide) (fun e => by subst e; rfl) (fun e => by subst e; rfl) (fun e => by subst e; rfl) (fun e e2 e3 => by rcases (show top = 2 ∨ top = 3 ∨ top = 5 ∨ top = 6 ∨ top = 7 by omega) with rfl | rfl | rfl | rfl | rfl <;> rfl)
  · refine e_0_step (by decide) ht (by decide) (fun q => yes 5 q (by subst q; rfl)) (fun q => ?_)
    rw [show m_abv 5 = nI 3 from rfl]
    exact t2 3 2 1 1 (by decide) (by decide) (by decide) (by decide) (by decide) (fun e => by subst e; rfl) (fun e => by subst e; rfl) (fun e => by subst e; rfl) (fun e e2 e3 => by rcases (show top = 1 ∨ top = 4 ∨ top = 6 ∨ top = 7 by omega) with rfl | rfl | rfl | rfl <;> rfl)
  · exact t1 6 3 0 (by decide) (by decide) (by decide) (fun e => by subst e; rfl) (fun e => by subst e; rfl) (fun e e2 => by rcases (show top = 1 ∨ top = 2 ∨ top = 3 ∨ top = 4 ∨ top = 5 ∨ top = 7 by omega) with rfl | rfl | rfl | rfl | rfl | rfl <;> rfl)
  · exact t2 7 6 2 0 (by decide) (by decide) (by decide) (by decide) (by decide) (fun e => by subst e; rfl) (fun e => by subst e; rfl) (fun e => by subst e; rfl) (fun e e2 e3 => by rcases (show top = 1 ∨ top = 2 ∨ top = 3 ∨ top = 4 ∨ top = 5 by omega) with rfl | rfl | rfl | rfl | rfl <;> rfl)
theorem J_taken {i : Nat} {h : mH} (r : Inv i h) (a b : Int32) : w_X11_taken a b h (fun v h1 => w_X12_taken a b h1 (fun w h2 => v = w ∧ Inv (i + 1) h2)) := by
  have u := r.up
  have rH := r.2.2.2.2.2.2.2.2.2.2
  have rB := r.2.2.2.2.2.2.2.2.1
  obtain ⟨n, hn, c1, d1, e1⟩ := rB
  have h0 : (0 : Int32).toInt = 0 := rfl
  have hm1 : (-1 : Int32).toInt = -1 := rfl
  have p2 : ∀ {Q : Int32 → mH → Prop}, (∀ k, k < 6 → a = nI k → inR b 0 7 → sN h k → Q (-11) h) → (∀ k s n, k < 6 → a = nI k → inR b 0 7 → sR h k s n → Q (-12) h) → (∀ k c t x, k < 6 → a = nI k → t ≤ 7 → b = nI t → sB h k c → x ≤ 7 → gi h 84 c = nI x → Q (if und x t = true then nI x else -12) h) → (¬ (inR a 0 5 ∧ inR b 0 7) → Q (-1) h) → w_X12_taken a b h Q := by
    intro Q f2 f4 g f
    unfold w_X12_taken
    rw [e_12_shelf]
    refine b0 (fun q => f (fun z => q z.1)) (fun ha => ?_)
    rw [e_12_in]
    refine b1 (fun hb => ?_) (fun q => f (fun z => q z.2))
    obtain ⟨k, hk, rfl, hc, hv⟩ := sh_k ha
    rw [hc]
    refine ⟨hv, ?_⟩
    rcases (RH.all.mp rH k hk).cs with z | ⟨c, z⟩ | ⟨s, m, z⟩
    · rw [z.2]
      exact ⟨fun q => absurd rfl q, fun _ => f2 k hk rfl hb z⟩
    · have hc50 : c < n := by have := z.2.2.2; rw [d1, nI_clamp (by omega)] at this; exact this
      obtain ⟨x, hx, ex⟩ := inR_nI (N := 7) rfl (by decide) (e1 c hc50).2
      obtain ⟨t, ht, rfl⟩ := inR_nI (N := 7) rfl (by decide) hb
      have gg := g k c t x hk rfl ht rfl z hx ex
      rw [z.2.1, nI_clamp (by omega), ex]
      refine ⟨fun _ => ⟨hv, fun q => absurd q (nI_pos (by omega)), fun _ => ⟨hv, vp_nI (by omega) (by decide), e_12_under hx ht h _ ?_⟩⟩, fun q => absurd q (nI_m1 (by omega))⟩
      by_cases q : und x t = true
      · rw [if_pos q] at gg ⊢
        refine ⟨fun z => absurd z (by decide), fun _ => ⟨hv, ?_⟩⟩
        rw [z.2.1, nI_clamp (by omega), ex]
        exact ⟨vp_nI (by omega) (by decide), gg⟩
      · rw [if_neg q] at gg ⊢
        exact ⟨fun _ => gg, fun z => absurd rfl z⟩
    · have ks := kd s z.2.1
      rw [z.2.2.2.2.1]
      refine ⟨fun _ => ⟨hv, fun _ => f4 k s m hk rfl hb z, fun q => ?_⟩, fun q => ?_⟩
      · exfalso; apply q; rw [lt_i, ks, h0]; omega
      · exfalso; rw [eq_i, ks, hm1] at q; omega
  unfold w_X11_taken
  rw [e_11_shelf]
  refine b0 (fun q => p2 (fun k hk e _ _ => absurd (by rw [e]; exact nI_inR (N := 5) (by omega) (by decide)) q) (fun k s n hk e _ _ => absurd (by rw [e]; exact nI_inR (N := 5) (by omega) (by decide)) q) (fun k c t x hk e _ _ _ _ _ => absurd (by rw [e]; exact nI_inR (N := 5) (by omega) (by decide)) q) (fun _ => ⟨rfl, u⟩)) (fun ha => ?_)
  rw [e_11_kind]
  refine b1 (fun hb => ?_) (fun q => p2 (fun k hk _ e _ => absurd e q) (fun k s n hk _ e _ => absurd e q) (fun k c t x hk _ ht e _ _ _ => absurd (by rw [e]; exact nI_inR (N := 7) (by omega) (by decide)) q) (fun _ => ⟨rfl, u⟩))
  obtain ⟨k, hk, rfl, hc, hv⟩ := sh_k ha
  obtain ⟨r1, r2, r3⟩ := rf_sh k hk
  refine ⟨hv, fun r5 e5 => ?_⟩
  subst e5
  rw [hc, r1]
  rcases (RH.all.mp rH k hk).cs with z | ⟨c, z⟩ | ⟨s, m, z⟩
  · rw [z.1]
    refine ⟨fun q => absurd rfl q, fun _ => p2 (fun _ _ _ _ _ => ⟨rfl, u⟩) (fun k2 s n hk2 e2 _ z2 => ?_) (fun k2 c t x hk2 e2 _ _ z2 _ _ => ?_) (fun z => absurd ⟨ha, hb⟩ z)⟩
    · have := nIne hk hk2 e2
      subst this
      exact (sx_NR z z2).elim
    · have := nIne hk hk2 e2
      subst this
      exact (sx_NB z z2).elim
  · have hc50 : c < n := by have := z.2.2.2; rw [d1, nI_clamp (by omega)] at this; exact this
    obtain ⟨x, hx, ex⟩ := inR_nI (N := 7) rfl (by decide) (e1 c hc50).2
    obtain ⟨t, ht, rfl⟩ := inR_nI (N := 7) rfl (by decide) hb
    rw [z.1, z.2.2.1]
    unfold w_X0_kindOf
    rw [e_11_one, c1, bi_1 ⟨nI_pos (by omega), (nlt c n (by omega) (by omega)).mpr hc50⟩, nI_clamp (by omega), (e1 c hc50).1, ex]
    refine ⟨fun _ => ⟨fun _ => ⟨fun q => absurd q (by decide), fun _ => ⟨vp_nI (by omega) (by decide), e_0_under hx ht h _ (fun x10 e10 => ?_)⟩⟩, fun q => absurd rfl q⟩, fun q => absurd q (by decide)⟩
    have fin : x10 = if und x t = true then nI x else -12 := by
      by_cases q : und x t = true
      · rw [if_pos q] at e10 ⊢
        rw [e10, if_neg (by decide)]
      · rw [if_neg q] at e10 ⊢
        rw [e10, if_pos rfl]
    refine p2 (fun k2 hk2 e2 _ z2 => ?_) (fun k2 s n hk2 e2 _ z2 => ?_) (fun k2 c2 t2 x2 hk2 e2 ht2 et2 z2 hx2 ex2 => ⟨?_, u⟩) (fun z => absurd ⟨ha, hb⟩ z)
    · have := nIne hk hk2 e2
      subst this
      exact (sx_NB z2 z).elim
    · have := nIne hk hk2 e2
      subst this
      exact (sx_BR z z2).elim
    · have := nIne hk hk2 e2
      subst this
      have hc2 : c2 < n := by have := z2.2.2.2; rw [d1, nI_clamp (by omega)] at this; exact this
      have : c = c2 := (nn c c2 (by omega) (by omega)).mp (z.2.1.symm.trans z2.2.1)
      subst this
      have : x = x2 := (nn x x2 (by omega) (by omega)).mp (ex.symm.trans ex2)
      subst this
      have : t = t2 := (nn t t2 (by omega) (by omega)).mp et2
      subst this
      exact fin
  · rw [z.1]
    refine ⟨fun _ => ⟨fun q => absurd q (by decide), fun _ => p2 (fun k2 hk2 e2 _ z2 => ?_) (fun _ _ _ _ _ _ _ => ⟨rfl, u⟩) (fun k2 c t x hk2 e2 _ _ z2 _ _ => ?_) (fun z => absurd ⟨ha, hb⟩ z)⟩, fun q => absurd q (by decide)⟩
    · have := nIne hk hk2 e2
      subst this
      exact (sx_NR z2 z).elim
    · have := nIne hk hk2 e2
      subst this
      exact (sx_BR z2 z).elim
