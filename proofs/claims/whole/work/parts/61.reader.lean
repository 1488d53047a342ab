/-! PURE: the class reads an expression as pe says -/
def HC (h0 : mH) (v n : Nat) (ch : Nat → Int32) : Prop := (v = 13 ∨ v = 16) ∧ n ≤ 120 ∧ gi h0 11 1 = nI n ∧ gi h0 11 4 = nI (v + 1) ∧ (∀ p, p < n → gi h0 12 p = ch p) ∧ (∀ p, n ≤ p → ch p = -1)
def PC (v : Nat) : Nat → Nat → Bool := cl [v, v + 1, v + 2] [(11, 2), (11, 3)]
def SC (h0 : mH) (v n : Nat) (h : mH) (p : Nat) (l : List qS) : Prop := Fr (PC v) h0 h ∧ gi h 11 3 = -1 ∧ gi h 11 2 = nI p ∧ p ≤ n ∧ gi h v 2 = nI l.length ∧ ly (gi h (v + 1)) (gi h (v + 2)) 0 l
def DC (h0 : mH) (v n : Nat) (ch : Nat → Int32) (h : mH) (f : Nat) : Prop := Fr (PC v) h0 h ∧ f ≤ n ∧ (∃ m, m ≤ 121 ∧ gi h v 2 = nI m) ∧ (gi h 11 3 = nI f ∨ (gi h 11 3 = -1 ∧ gi h 11 2 = nI f ∧ isD (ch f)))
def rdC (h0 : mH) (v n : Nat) (ch : Nat → Int32) (w : mH → (mH → Prop) → Prop) (X : Nat → qR) : Prop := ∀ p l h (Q : mH → Prop), SC h0 v n h p l → l.length ≤ p → (∀ f, X p = .inl f → ∀ h1, DC h0 v n ch h1 f → Q h1) → (∀ p' l', X p = .inr (p', l') → ∀ h1, SC h0 v n h1 p' (l ++ l') → Q h1) → w h Q
def rkI (c : Int32) : Int32 := if c = 124 then 0 else if c = 38 then 1 else if c = 60 ∨ c = 61 ∨ c = 62 then 2 else if c = 43 ∨ c = 45 then 3 else if c = 37 ∨ c = 42 ∨ c = 47 then 4 else -1
theorem c_rank {c : Int32} {h : mH} {Q : Int32 → mH → Prop} (K : Q (rkI c) h) : w_X8_rankOf c h Q := by
  unfold w_X8_rankOf
  unfold rkI at K
  by_cases h1 : c = 124
  · subst h1; simpa using K
  · rw [if_neg h1] at K
    by_cases h2 : c = 38
    · subst h2; simpa using K
    · rw [if_neg h2] at K
      by_cases h3 : c = 60 ∨ c = 61 ∨ c = 62
      · rw [if_pos h3] at K
        rcases h3 with h3 | h3 | h3 <;> (subst h3; simpa using K)
      · rw [if_neg h3] at K
        by_cases h4 : c = 43 ∨ c = 45
        · rw [if_pos h4] at K
          rcases h4 with h4 | h4 <;> (subst h4; simpa using K)
        · rw [if_neg h4] at K
          by_cases h5 : c = 37 ∨ c = 42 ∨ c = 47
          · rw [if_pos h5] at K
            rcases h5 with h5 | h5 | h5 <;> (subst h5; simpa using K)
          · rw [if_neg h5] at K
            exact ⟨fun z => absurd z h1, fun z => absurd z h2, fun z => absurd z h3, fun z => absurd z h4, fun z => absurd z h5, fun _ => K⟩
theorem rkI_eq {c : Int32} {r : Nat} (hr : r ≤ 4) : rkI c = nI r ↔ rk c = r := by
  unfold rkI rk
  have k : ∀ a : Nat, a < 10 → (nI a = nI r ↔ a = r) := fun a ha => nn a r (by omega) (by omega)
  by_cases h1 : c = 124
  · rw [if_pos h1, if_pos h1]; exact k 0 (by omega)
  · rw [if_neg h1, if_neg h1]
    by_cases h2 : c = 38
    · rw [if_pos h2, if_pos h2]; exact k 1 (by omega)
    · rw [if_neg h2, if_neg h2]
      by_cases h3 : c = 60 ∨ c = 61 ∨ c = 62
      · rw [if_pos h3, if_pos h3]; exact k 2 (by omega)
      · rw [if_neg h3, if_neg h3]
        by_cases h4 : c = 43 ∨ c = 45
        · rw [if_pos h4, if_pos h4]; exact k 3 (by omega)
        · rw [if_neg h4, if_neg h4]
          by_cases h5 : c = 37 ∨ c = 42 ∨ c = 47
          · rw [if_pos h5, if_pos h5]; exact k 4 (by omega)
          · rw [if_neg h5, if_neg h5]
            exact ⟨fun q => absurd q.symm (nI_m1 (by omega)), fun q => by omega⟩
theorem rk_9 {c : Int32} (h : c = -1 ∨ isD c) : rk c = 9 := by
  have k : ∀ x : Int32, ¬ x = -1 → ¬ isD x → ¬ c = x := fun x a b z => h.elim (fun q => a (z ▸ q)) (fun q => b (z ▸ q))
  unfold rk
  rw [if_neg (k _ (by decide) (by decide)), if_neg (k _ (by decide) (by decide)), if_neg, if_neg, if_neg]
  · rintro (q | q | q) <;> exact k _ (by decide) (by decide) q
  · rintro (q | q) <;> exact k _ (by decide) (by decide) q
  · rintro (q | q | q) <;> exact k _ (by decide) (by decide) q
theorem vfx {v : Nat} (hv : v = 13 ∨ v = 16) : m_sh v = (7, 3) ∧ rf v 0 = v + 1 ∧ rf v 1 = v + 2 ∧ lenOf (v + 1) = 121 ∧ lenOf (v + 2) = 121 := by
  rcases hv with rfl | rfl <;> decide
section READ
variable {h0 : mH} {v n : Nat} {ch : Nat → Int32}
theorem HC.fx (H : HC h0 v n ch) {h : mH} (f : Fr (PC v) h0 h) : gi h 11 1 = nI n ∧ gi h 11 4 = nI (v + 1) ∧ ∀ p, p < n → gi h 12 p = ch p := by
  obtain ⟨hv, -, e1, e4, et, -⟩ := H
  have d : PC v 11 1 = false ∧ PC v 11 4 = false ∧ ∀ p, PC v 12 p = false := by
    rcases hv with rfl | rfl <;> exact ⟨rfl, rfl, fun _ => rfl⟩
  exact ⟨by rw [f.i 11 1 d.1, e1], by rw [f.i 11 4 d.2.1, e4], fun p hp => by rw [f.i 12 p (d.2.2 p), et p hp]⟩
theorem c_into {α : Prop} (H : HC h0 v n ch) {h : mH} (f : Fr (PC v) h0 h) {W : Nat → Prop} (K : W v) : ∃ j : Nat, (m_sh j = (7, 3) ∧ gi h 11 4 = nI (j + 1)) ∧ W j := ⟨v, ⟨(vfx H.1).1, (H.fx f).2.1⟩, K⟩
theorem c_here (H : HC h0 v n ch) {h : mH} {p : Nat} {l : List qS} (S : SC h0 v n h p l) {Q : Int32 → mH → Prop} (K : Q (ch p) h) : w_X8_here h Q := by
  obtain ⟨f, e3, e2, hp, -, -⟩ := S
  obtain ⟨g1, -, g2⟩ := H.fx f
  have hn := H.2.1
  unfold w_X8_here
  rw [e3, g1, e2, nl n p (by omega) (by omega), nI_clamp (by omega)]
  refine ⟨fun q => absurd q (by decide), fun _ => ⟨fun q => ?_, fun q => ⟨vp_nI (by omega) (by decide), ?_⟩⟩⟩
  · rw [H.2.2.2.2.2 p q] at K
    exact K
  · rw [g2 p (by omega)]
    exact K
theorem c_hereD (H : HC h0 v n ch) {h : mH} {f : Nat} (D : DC h0 v n ch h f) {Q : Int32 → mH → Prop} (K : ∀ c, (c = -1 ∨ isD c) → Q c h) : w_X8_here h Q := by
  obtain ⟨fr, hf, -, d⟩ := D
  obtain ⟨g1, -, g2⟩ := H.fx fr
  have hn := H.2.1
  unfold w_X8_here
  rcases d with d | ⟨d3, d2, dd⟩
  · rw [d]
    exact ⟨fun _ => K _ (Or.inl rfl), fun q => absurd (nI_pos' (by omega)) q⟩
  · rw [d3, g1, d2, nl n f (by omega) (by omega), nI_clamp (by omega)]
    refine ⟨fun q => absurd q (by decide), fun _ => ⟨fun q => K _ (Or.inl rfl), fun q => ⟨vp_nI (by omega) (by decide), ?_⟩⟩⟩
    rw [g2 f (by omega)]
    exact K _ (Or.inr dd)
theorem c_stp (H : HC h0 v n ch) {h h1 : mH} {p : Nat} {l : List qS} (S : SC h0 v n h p l) (hp : p < n) (e : h1 = si h 11 2 (gi h 11 2 + 1)) : SC h0 v n h1 (p + 1) l := by
  obtain ⟨f, e3, e2, -, el, hy⟩ := S
  have hv : ¬ v = 11 ∧ ¬ v + 1 = 11 ∧ ¬ v + 2 = 11 := by rcases H.1 with rfl | rfl <;> decide
  subst e
  refine ⟨f.si (by simp [PC, cl]), ?_, ?_, hp, ?_, ly_co l 0 (fun j _ _ => ⟨?_, ?_⟩) hy⟩
  · rw [gi_si, if_neg (by omega)]; exact e3
  · rw [gi_si, if_pos ⟨rfl, rfl⟩, e2, nI_1]
  · rw [gi_si, if_neg (by omega)]; exact el
  · rw [gi_si, if_neg (by omega)]
  · rw [gi_si, if_neg (by omega)]
theorem c_add (H : HC h0 v n ch) {h : mH} {p : Nat} {l : List qS} (S : SC h0 v n h p l) (hl : l.length ≤ 120) (a b : Int32) {Q : mH → Prop} (K : ∀ h1, SC h0 v n h1 p (l ++ [(a, b)]) → Q h1) : w_X7_add v a b h Q := by
  obtain ⟨f, e3, e2, hp, el, hy⟩ := S
  obtain ⟨s1, r0, r1, l1, l2⟩ := vfx H.1
  have hv : ¬ v = 11 ∧ ¬ v + 1 = 11 ∧ ¬ v + 2 = 11 := by rcases H.1 with rfl | rfl <;> decide
  unfold w_X7_add
  rw [el, show (121 : Int32) = nI 121 from rfl, nl 121 _ (by decide) (by omega), r0, r1, l1, l2, nI_clamp (by omega)]
  refine ⟨fun z => absurd z (by omega), fun _ => ⟨vp_nI (by omega) (by decide), fun h1 e1 => ?_⟩⟩
  have g1 : gi h1 v 2 = nI l.length := by
    rw [e1, gi_si, if_neg (by omega)]
    exact el
  rw [g1, nI_clamp (by omega)]
  refine ⟨vp_nI (by omega) (by decide), fun h2 e2' h3 e3' => K h3 ?_⟩
  have g2 : gi h2 v 2 = nI l.length := by
    rw [e2', gi_si, if_neg (by omega)]
    exact g1
  rw [g2, nI_1] at e3'
  subst e3'
  subst e2'
  subst e1
  refine ⟨((f.si (by simp [PC, cl])).si (by simp [PC, cl])).si (by simp [PC, cl]), ?_, ?_, hp, ?_, (ly_app l _ 0).mpr ⟨ly_co l 0 (fun j _ hj => ⟨?_, ?_⟩) hy, ⟨⟨?_, ?_⟩, trivial⟩⟩⟩
  · simp only [gi_si]
    rw [if_neg (by omega), if_neg (by omega), if_neg (by omega)]; exact e3
  · simp only [gi_si]
    rw [if_neg (by omega), if_neg (by omega), if_neg (by omega)]; exact e2
  · rw [gi_si, if_pos ⟨rfl, rfl⟩, List.length_append, List.length_singleton]
  · simp only [gi_si]
    rw [if_neg (by omega), if_neg (by omega), if_neg (by omega)]
  · simp only [gi_si]
    rw [if_neg (by omega), if_neg (by omega), if_neg (by omega)]
  · rw [gi_si, if_neg (by omega), gi_si, if_neg (by omega), gi_si, if_pos (by omega)]
  · rw [gi_si, if_neg (by omega), gi_si, if_pos (by omega)]
theorem c_addD (H : HC h0 v n ch) {h : mH} {f : Nat} (D : DC h0 v n ch h f) (a b : Int32) {Q : mH → Prop} (K : ∀ h1, DC h0 v n ch h1 f → Q h1) : w_X7_add v a b h Q := by
  obtain ⟨fr, hf, ⟨m, hm, em⟩, d⟩ := D
  obtain ⟨s1, r0, r1, l1, l2⟩ := vfx H.1
  have hv : ¬ v = 11 ∧ ¬ v + 1 = 11 ∧ ¬ v + 2 = 11 := by rcases H.1 with rfl | rfl <;> decide
  unfold w_X7_add
  rw [em, show (121 : Int32) = nI 121 from rfl, nl 121 _ (by decide) (by omega), r0, r1, l1, l2, nI_clamp (by omega)]
  refine ⟨fun z => K h ⟨fr, hf, ⟨m, hm, em⟩, d⟩, fun z => ⟨vp_nI (by omega) (by decide), fun h1 e1 => ?_⟩⟩
  have g1 : gi h1 v 2 = nI m := by
    rw [e1, gi_si, if_neg (by omega)]
    exact em
  rw [g1, nI_clamp (by omega)]
  refine ⟨vp_nI (by omega) (by decide), fun h2 e2' h3 e3' => K h3 ?_⟩
  have g2 : gi h2 v 2 = nI m := by
    rw [e2', gi_si, if_neg (by omega)]
    exact g1
  rw [g2, nI_1] at e3'
  subst e3'
  subst e2'
  subst e1
  refine ⟨((fr.si (by simp [PC, cl])).si (by simp [PC, cl])).si (by simp [PC, cl]), hf, ⟨m + 1, by omega, ?_⟩, ?_⟩
  · rw [gi_si, if_pos ⟨rfl, rfl⟩]
  · simp only [gi_si]
    rw [if_neg (by omega), if_neg (by omega), if_neg (by omega), if_neg (by omega), if_neg (by omega), if_neg (by omega)]
    exact d
theorem c_loopD (H : HC h0 v n ch) {A : Int32 → Int32 → mH → (mH → Prop) → Prop} {B : Int32 → mH → (mH → Prop) → Prop} {r : Nat} (hr : r ≤ 4) {o : Int32} {h : mH} {f : Nat} (D : DC h0 v n ch h f) {Q : mH → Prop} (K : Q h) (m : Nat) (x : Int32) : w_X8_joined_L21 A B (fun h => Q h) Q (nI r) o (m + 1) x h := by
  unfold w_X8_joined_L21
  refine ⟨fun _ => K, fun _ => c_hereD H D (fun c hc => c_rank ⟨fun _ => K, fun z => ?_⟩)⟩
  rw [rkI_eq hr, rk_9 hc] at z
  omega
theorem c_loop (H : HC h0 v n ch) {N r : Nat} {o : Int32} {X : Nat → qR} (hr : r ≤ 4) (gX : gd n X) (hX : rdC h0 v n ch (fun h Q => (wr_0 N).1 (nI r + 1) o h Q) X) (Q : mH → Prop) (l0 : List qS) (p0 : Nat) (hl0 : l0.length ≤ p0) : ∀ (k i p : Nat) (l : List qS) (h : mH), n - p ≤ k → i ≤ p → (r = 2 → i = 0) → p0 ≤ p → l.length ≤ p - p0 → SC h0 v n h p (l0 ++ l) →
    (∀ f, pl ch X r k p l = .inl f → ∀ h1, DC h0 v n ch h1 f → Q h1) → (∀ p' l', pl ch X r k p l = .inr (p', l') → ∀ h1, SC h0 v n h1 p' (l0 ++ l') → Q h1) →
    w_X8_joined_L21 (wr_0 N).1 (wr_0 N).2 (fun h => Q h) Q (nI r) o (k + 2) (nI i) h := by
  intro k
  induction k with
  | zero =>
    intro i p l h hk hi h2 hpp hl S fa su
    have hp := S.2.2.2.1
    have e1 := (H.fx S.1).1
    have K := su p l rfl h S
    unfold w_X8_joined_L21
    refine ⟨fun _ => K, fun _ => c_here H S (c_rank ⟨fun _ => K, fun z => ?_⟩)⟩
    rw [rkI_eq hr, H.2.2.2.2.2 p (by omega)] at z
    have : rk (-1) = 9 := by decide
    omega
  | succ k ih =>
    intro i p l h hk hi h2 hpp hl S fa su
    have hp := S.2.2.2.1
    have hn := H.2.1
    have e1 := (H.fx S.1).1
    unfold w_X8_joined_L21
    rw [e1, nl n i (by omega) (by omega)]
    have out : ¬ rk (ch p) = r → Q h := fun z => su p l (by unfold pl; rw [if_neg z]) h S
    refine ⟨fun q => out (fun z => ?_), fun _ => c_here H S (c_rank ⟨fun z => out (fun w => z ((rkI_eq hr).mpr w)), fun z => ?_⟩)⟩
    · rw [H.2.2.2.2.2 p (by omega)] at z
      have : rk (-1) = 9 := by decide
      omega
    · have zr := (rkI_eq hr).mp z
      have hpn : p < n := ch_lt H.2.2.2.2.2 (fun q => by
        rw [q] at zr
        have : rk (-1) = 9 := by decide
        omega)
      have body : w_X8_joined_J50 (wr_0 N).1 (wr_0 N).2 (w_X8_joined_L21 (wr_0 N).1 (wr_0 N).2 (fun h => Q h) Q (nI r) o (k + 2)) Q (nI r) o (nI i) h := by
        unfold w_X8_joined_J50
        refine c_here H S (fun h8 e8 => ?_)
        have S8 := c_stp H S hpn e8
        refine hX (p + 1) (l0 ++ l) h8 _ S8 (by rw [List.length_append]; omega) (fun f ef h9 D9 => ?_) (fun p' l' ef h9 S9 => ?_)
        · refine c_into (α := True) H D9.1 (c_addD H D9 _ _ (fun h11 D11 => c_loopD H hr D11 (fa f ?_ h11 D11) _ _))
          unfold pl
          rw [if_pos zr, ef, rb_l]
        · obtain ⟨a1, a2, a3, a4⟩ := (gX (p + 1) hpn).2 p' l' ef
          refine c_into (α := True) H S9.1 (c_add H S9 (by rw [List.length_append, List.length_append]; omega) _ _ (fun h11 S11 => ?_))
          rw [show l0 ++ l ++ l' ++ [(ch p, (0 : Int32))] = l0 ++ (l ++ l' ++ [(ch p, 0)]) by simp] at S11
          have len : (l ++ l' ++ [(ch p, (0 : Int32))]).length ≤ p' - p0 := by
            rw [List.length_append, List.length_append, List.length_singleton]
            omega
          rw [nI_1]
          by_cases z2 : r = 2
          · have K : Q h11 := su p' (l ++ l' ++ [(ch p, 0)]) (by unfold pl; rw [if_pos zr, ef, rb_r, if_pos z2]) h11 S11
            have hi0 := h2 z2
            unfold w_X8_joined_L21
            refine ⟨fun _ => K, fun _ => c_here H S11 (c_rank ⟨fun _ => K, fun _ => ⟨fun w => absurd (by rw [z2]; rfl) w, fun _ => ⟨fun w => ?_, fun _ => K⟩⟩⟩)⟩
            rw [hi0] at w
            exact absurd w (by decide)
          · refine ih (i + 1) p' _ h11 (by omega) (by omega) (fun w => absurd w z2) (by omega) len S11 (fun f e => fa f ?_) (fun p2 l2 e => su p2 l2 ?_)
            · unfold pl
              rw [if_pos zr, ef, rb_r, if_neg z2]
              exact e
            · unfold pl
              rw [if_pos zr, ef, rb_r, if_neg z2]
              exact e
      refine ⟨fun _ => body, fun z2 => ⟨fun _ => body, fun w => ?_⟩⟩
      have hi0 := h2 ((nn r 2 (by omega) (by decide)).mp z2)
      rw [hi0] at w
      exact absurd (by decide) w
theorem c_joined (H : HC h0 v n ch) {N r : Nat} {o : Int32} {X : Nat → qR} (hr : r ≤ 4) (gX : gd n X) (hX : rdC h0 v n ch (fun h Q => (wr_0 N).1 (nI (r + 1)) o h Q) X) : rdC h0 v n ch (fun h Q => (wr_0 (N + 1)).1 (nI r) o h Q) (pj ch n X r) := by
  intro p l h Q S hl fa su
  show wb_X8_joined (wr_0 N).1 (wr_0 N).2 (nI r) o h Q
  unfold wb_X8_joined
  rw [nI_1]
  refine ⟨fun _ => ?_, fun q => absurd ((nlt r 5 (by omega) (by decide)).mpr (by omega)) q⟩
  have hp := S.2.2.2.1
  refine hX p l h _ S hl (fun f ef h1 D1 => ⟨1, c_loopD H hr D1 (fa f (by unfold pj; rw [ef, rb_l]) h1 D1) 0 _⟩) (fun p' l' ef h1 S1 => ?_)
  obtain ⟨a1, a2, a3, a4⟩ := (gX p hp).2 p' l' ef
  refine ⟨n - p' + 2, c_loop H hr gX (by rw [nI_1]; exact hX) Q l p hl (n - p') 0 p' l' h1 (Nat.le_refl _) (Nat.zero_le _) (fun _ => rfl) (by omega) a3 S1 (fun f e => fa f ?_) (fun p2 l2 e => su p2 l2 ?_)⟩
  · unfold pj
    rw [ef, rb_r]
    exact e
  · unfold pj
    rw [ef, rb_r]
    exact e
theorem c_chain (H : HC h0 v n ch) {F : Nat} {o : Int32} {X : Nat → qR} (gX : gd n X) (hX : ∀ N, F ≤ N → rdC h0 v n ch (fun h Q => (wr_0 N).2 o h Q) X) : ∀ k, k ≤ 5 → ∀ N, F + k + 1 ≤ N → rdC h0 v n ch (fun h Q => (wr_0 N).1 (nI (5 - k)) o h Q) (pk ch n X k) := by
  intro k
  induction k with
  | zero =>
    intro _ N hN
    obtain ⟨M, rfl⟩ : ∃ M, N = M + 1 := ⟨N - 1, by omega⟩
    intro p l h Q S hl fa su
    show wb_X8_joined (wr_0 M).1 (wr_0 M).2 (nI 5) o h Q
    unfold wb_X8_joined
    exact ⟨fun q => absurd q (by decide), fun _ => hX M (by omega) p l h _ S hl fa su⟩
  | succ k ih =>
    intro hk N hN
    obtain ⟨M, rfl⟩ : ∃ M, N = M + 1 := ⟨N - 1, by omega⟩
    have := ih (by omega) M (by omega)
    rw [show 5 - k = (4 - k) + 1 by omega] at this
    rw [show 5 - (k + 1) = 4 - k by omega]
    exact c_joined H (by omega) (gd_pk H.2.2.2.2.2 gX k) this
end READ
