/-! PURE: agree, round -/
theorem Fr.up {os os' : List Nat} {fs fs' : List (Nat × Nat)} {h h1 : mH} (f : Fr (cl os fs) h h1) (d : (os.all (fun a => os'.contains a) && fs.all (fun q => os'.contains q.1 || fs'.contains q)) = true) : Fr (cl os' fs') h h1 := by
  refine f.mono (fun x k q => ?_)
  rw [Bool.and_eq_true, List.all_eq_true, List.all_eq_true] at d
  unfold cl at q ⊢
  rw [Bool.or_eq_false_iff] at q ⊢
  refine ⟨Bool.eq_false_iff.mpr (fun z => ?_), Bool.eq_false_iff.mpr (fun z => ?_)⟩
  · have := d.1 x (by simpa using z)
    rw [q.1] at this
    cases this
  · have := d.2 (x, k) (by simpa using z)
    rw [q.1, q.2] at this
    cases this
noncomputable def cnU (p : Nat → Prop) : Nat → Nat
  | 0 => 0
  | i + 1 => cnU p i + @ite Nat (p i) (Classical.propDecidable _) 1 0
theorem cnU_y {p : Nat → Prop} {i : Nat} (h : p i) : cnU p (i + 1) = cnU p i + 1 := by
  show cnU p i + _ = _
  rw [if_pos h]
theorem cnU_n {p : Nat → Prop} {i : Nat} (h : ¬ p i) : cnU p (i + 1) = cnU p i := by
  show cnU p i + _ = _
  rw [if_neg h]
  rfl
theorem cnU_le (p : Nat → Prop) (i : Nat) : cnU p i ≤ i := by
  induction i with
  | zero => exact Nat.le_refl 0
  | succ i ih =>
    by_cases h : p i
    · rw [cnU_y h]; omega
    · rw [cnU_n h]; omega
def eqT (h : mH) (m : Nat) : Prop := tim h 0 (nI m) = tim h 1 (nI m)
def agA (h : mH) (a i : Nat) (l4 l5 : Int32) : Prop := l5 = nI (cnU (fun j => eqT h (a + j)) i) ∧ (((∀ j, j < i → ¬ eqT h (a + j)) ∧ cnU (fun j => eqT h (a + j)) i = 0 ∧ l4 = -2) ∨ ∃ j, j < i ∧ eqT h (a + j) ∧ 0 < cnU (fun j => eqT h (a + j)) i ∧ (∀ y, y < j → ¬ eqT h (a + y)) ∧ l4 = nI (a + j))
def agB (h : mH) (a N i : Nat) (l4 l5 : Int32) : Prop := (∃ c, c + cnU (fun j => eqT h (a + j)) (N - i) = cnU (fun j => eqT h (a + j)) N ∧ l4 = nI c) ∧ (((∀ j, N - i ≤ j → j < N → ¬ eqT h (a + j)) ∧ l5 = -2) ∨ ∃ j, N - i ≤ j ∧ j < N ∧ eqT h (a + j) ∧ (∀ y, N - i ≤ y → y < j → ¬ eqT h (a + y)) ∧ l5 = nI (a + j))
theorem agAB {h : mH} {a N : Nat} {x y u v : Int32} (A : agA h a N x y) (B : agB h a N N u v) : y = u ∧ x = v := by
  obtain ⟨⟨c, hc, rfl⟩, B⟩ := B
  obtain ⟨rfl, A⟩ := A
  rw [Nat.sub_self] at hc B
  refine ⟨by rw [← hc]; rfl, ?_⟩
  rcases A with ⟨a1, a2, rfl⟩ | ⟨j, a1, a2, a3, a4, rfl⟩ <;> rcases B with ⟨b1, rfl⟩ | ⟨j2, b1, b2, b3, b4, rfl⟩
  · rfl
  · exact absurd b3 (a1 j2 b2)
  · exact absurd a2 (b1 j (Nat.zero_le _) a1)
  · have : j = j2 := by
      rcases Nat.lt_trichotomy j j2 with q | q | q
      · exact absurd a2 (b4 j (Nat.zero_le _) q)
      · exact q
      · exact absurd b3 (a4 j2 q)
    rw [this]
theorem p_ag11 {h : mH} {a N : Nat} {K Q : _} {l3 : Int32} (rA : RA h) (hN : a + N < 200000) (hN1 : 1 ≤ N) (g : ∀ x y, agA h a N x y → K x y h) : ∃ n, w_X11_agree_L48 K Q (nI (a + N - 1)) l3 n (-2) 0 (nI a) h := by
  have := loop_0 (σ := Int32 × Int32 × mH) (fun n i s => w_X11_agree_L48 K Q (nI (a + N - 1)) l3 n s.1 s.2.1 (nI (a + i)) s.2.2) (fun i s => s.2.2 = h ∧ agA h a i s.1 s.2.1) N (-2, 0, h) ⟨rfl, rfl, Or.inl ⟨fun j hj => absurd hj (Nat.not_lt_zero j), rfl, rfl⟩⟩ (fun n s e => ?_) (fun n i s hi e nx => ?_)
  · exact this
  · obtain ⟨x, y, t⟩ := s
    obtain ⟨rfl, e⟩ := e
    unfold w_X11_agree_L48
    rw [nlt _ _ (by omega) (by omega)]
    exact ⟨fun _ => g x y e, fun q => absurd (by omega) q⟩
  · obtain ⟨x, y, t⟩ := s
    obtain ⟨e0, e1, e⟩ := e
    have e0' : t = h := e0
    subst e0'
    have e1' : y = nI (cnU (fun j => eqT t (a + j)) i) := e1
    subst e1'
    have cle := cnU_le (fun j => eqT t (a + j)) i
    unfold w_X11_agree_L48
    rw [nlt _ _ (by omega) (by omega)]
    refine ⟨fun q => absurd q (by omega), fun _ => ?_⟩
    rw [e_10_time rA (by exact nI_inR (j := 0) (N := 1) (by decide) (by decide)), e_10_time rA (by exact nI_inR (j := 1) (N := 1) (by decide) (by decide)), nI_1, nI_1]
    refine ⟨fun q => nx (x, _, t) ⟨rfl, ?_, ?_⟩, fun q x11 e11 => nx (x11, _, t) ⟨rfl, ?_, ?_⟩⟩
    · rw [cnU_n q]
    · rw [cnU_n q]
      rcases e with ⟨a1, a2, a3⟩ | ⟨j, a1, a2, a3, a4, a5⟩
      · refine Or.inl ⟨fun j hj => ?_, a2, a3⟩
        by_cases w : j = i
        · subst w
          exact q
        · exact a1 j (by omega)
      · exact Or.inr ⟨j, by omega, a2, a3, a4, a5⟩
    · rw [cnU_y q]
      rfl
    · rw [cnU_y q]
      subst e11
      rcases e with ⟨a1, a2, a3⟩ | ⟨j, a1, a2, a3, a4, a5⟩
      · exact Or.inr ⟨i, by omega, q, by omega, a1, by simp only; rw [a2]; exact if_pos rfl⟩
      · exact Or.inr ⟨j, by omega, a2, by omega, a4, (if_neg (nI_ne0 a3 (by omega))).trans a5⟩
theorem p_ag12 {h : mH} {a N : Nat} {K Q : _} {l3 : Int32} (hN : a + N < 200000) (hN1 : 1 ≤ N) (g : ∀ x y, agB h a N N x y → K x y h) : ∃ n, w_X12_agree_L49 K Q (nI a) l3 n 0 (-2) (nI (a + N - 1)) h := by
  have := loop_0 (σ := Int32 × Int32 × mH) (fun n i s => w_X12_agree_L49 K Q (nI a) l3 n s.1 s.2.1 (nI (a + (N - i)) + (-1)) s.2.2) (fun i s => s.2.2 = h ∧ agB h a N i s.1 s.2.1) N (0, -2, h) ⟨rfl, ⟨0, by rw [Nat.sub_zero, Nat.zero_add], rfl⟩, Or.inl ⟨fun j hj h2 => by omega, rfl⟩⟩ (fun n s e => ?_) (fun n i s hi e nx => ?_)
  · have e : nI (a + (N - 0)) + (-1) = nI (a + N - 1) := by
      rw [show a + (N - 0) = (a + N - 1) + 1 by omega]
      exact pk_m1 _
    simp only [e] at this
    exact this
  · obtain ⟨x, y, t⟩ := s
    obtain ⟨rfl, e⟩ := e
    unfold w_X12_agree_L49
    rw [Nat.sub_self]
    refine ⟨fun _ => g x y e, fun q => absurd ?_ q⟩
    have m1 : (-1 : Int32).toInt = -1 := rfl
    rw [lt_i, Nat.add_zero, add_i (by rw [nI_toInt (by omega), m1]; omega) (by rw [nI_toInt (by omega), m1]; omega), nI_toInt (by omega), m1]
    omega
  · obtain ⟨x, y, t⟩ := s
    obtain ⟨e0, ⟨c, hc, e1⟩, e⟩ := e
    have e0' : t = h := e0
    subst e0'
    have e1' : x = nI c := e1
    subst e1'
    unfold w_X12_agree_L49
    rw [show a + (N - i) = a + (N - (i + 1)) + 1 by omega, pk_m1, nlt _ _ (by omega) (by omega)]
    refine ⟨fun q => absurd q (by omega), fun _ => ?_⟩
    rw [e_12_show (by exact nI_inR (j := 0) (N := 1) (by decide) (by decide)), e_12_show (by exact nI_inR (j := 1) (N := 1) (by decide) (by decide)), nI_1]
    rw [show N - i = (N - (i + 1)) + 1 by omega] at hc e
    refine ⟨fun q => nx (_, _, t) ⟨rfl, ⟨c + 1, ?_, rfl⟩, ?_⟩, fun q => nx (_, _, t) ⟨rfl, ⟨c, ?_, rfl⟩, ?_⟩⟩
    · rw [cnU_y q] at hc
      omega
    · refine Or.inr ⟨N - (i + 1), Nat.le_refl _, by omega, q, fun z h1 h2 => by omega, rfl⟩
    · rw [cnU_n q] at hc
      exact hc
    · rcases e with ⟨a1, a2⟩ | ⟨j, a1, a2, a3, a4, a5⟩
      · refine Or.inl ⟨fun j hj h2 => ?_, a2⟩
        by_cases w : j = N - (i + 1)
        · subst w
          exact q
        · exact a1 j (by omega) h2
      · refine Or.inr ⟨j, by omega, a2, a3, fun z h1 h2 => ?_, a5⟩
        by_cases w : z = N - (i + 1)
        · subst w
          exact q
        · exact a4 z (by omega) h2
theorem J_agree {i : Nat} {h : mH} (r : Inv i h) (a b c : Int32) : w_X11_agree a b c h (fun v h1 => w_X12_agree a b c h1 (fun w h2 => v = w ∧ Inv (i + 1) h2)) := by
  have u := r.up
  have rA := r.1
  have p2 : ∀ {Q : Int32 → mH → Prop}, (¬ (inR a 0 99999 ∧ inR b 0 99999 ∧ ¬ b < a ∧ ¬ a + 1440 < b ∧ inR c 0 1) → Q (-1) h) → (∀ x N, (inR a 0 99999 ∧ inR b 0 99999 ∧ ¬ b < a ∧ ¬ a + 1440 < b ∧ inR c 0 1) → a = nI x → b = nI (x + N - 1) → 1 ≤ N → x + N < 200000 → ∃ n, w_X12_agree_L49 (fun l4_11 l5_12 h13 => ∀ x14, x14 = (if c = 0 then l4_11 else l5_12) → Q x14 h13) Q (nI x) c n 0 (-2) (nI (x + N - 1)) h) → w_X12_agree a b c h Q := by
    intro Q f g
    unfold w_X12_agree
    rw [e_12_minute]
    refine b0 (fun q => f (fun z => q z.1)) (fun ha => ?_)
    rw [e_12_minute]
    refine b0 (fun q => f (fun z => q z.2.1)) (fun hb => ⟨fun q => f (fun z => z.2.2.1 q), fun q1 => ⟨fun q => f (fun z => z.2.2.2.1 q), fun q2 => ?_⟩⟩)
    rw [e_12_in]
    refine b1 (fun hc => ?_) (fun q => f (fun z => q z.2.2.2.2))
    obtain ⟨x, hx, rfl⟩ := inR_nI (N := 99999) rfl (by decide) ha
    obtain ⟨y, hy, rfl⟩ := inR_nI (N := 99999) rfl (by decide) hb
    have q3 := q1
    rw [nlt _ _ (by omega) (by omega)] at q1
    have := g x (y - x + 1) ⟨ha, hb, q3, q2, hc⟩ rfl (by rw [show x + (y - x + 1) - 1 = y by omega]) (by omega) (by omega)
    rw [show x + (y - x + 1) - 1 = y by omega] at this
    exact this
  unfold w_X11_agree
  have n1 : ¬ (inR a 0 99999 ∧ inR b 0 99999 ∧ ¬ b < a ∧ ¬ a + 1440 < b ∧ inR c 0 1) → w_X12_agree a b c h (fun w h2 => -1 = w ∧ Inv (i + 1) h2) := fun q =>
    p2 (fun _ => ⟨rfl, u⟩) (fun x N hc => absurd hc q)
  rw [e_11_minute]
  refine b0 (fun q => n1 (fun z => q z.1)) (fun ha => ?_)
  rw [e_11_minute]
  refine b0 (fun q => n1 (fun z => q z.2.1)) (fun hb => ⟨fun q => n1 (fun z => z.2.2.1 q), fun q1 => ⟨fun q => n1 (fun z => z.2.2.2.1 q), fun q2 => ?_⟩⟩)
  rw [e_11_one, bi_i (one_inR 1 rfl)]
  refine b1 (fun hc => ?_) (fun q => n1 (fun z => q z.2.2.2.2))
  obtain ⟨x, hx, rfl⟩ := inR_nI (N := 99999) rfl (by decide) ha
  obtain ⟨y, hy, rfl⟩ := inR_nI (N := 99999) rfl (by decide) hb
  rw [nlt _ _ (by omega) (by omega)] at q1
  obtain ⟨N, hN, hN1, rfl⟩ : ∃ N, x + N < 200000 ∧ 1 ≤ N ∧ y = x + N - 1 := ⟨y - x + 1, by omega, by omega, by omega⟩
  refine p_ag11 rA hN hN1 (fun u1 v1 A x16 e16 => p2 (fun q => absurd ⟨ha, hb, by rw [nlt _ _ (by omega) (by omega)]; exact q1, q2, hc⟩ q) (fun x2 N2 _ ex eN h1 h2 => ?_))
  have : x = x2 := (nn x x2 (by omega) (by omega)).mp ex
  subst this
  have : N = N2 := by have := (nn _ _ (by omega) (by omega)).mp eN; omega
  subst this
  refine p_ag12 hN hN1 (fun u2 v2 B x14 e14 => ⟨?_, u⟩)
  obtain ⟨k1, k2⟩ := agAB A B
  rw [e16, e14, k1, k2]
