/-! PURE: the reference reads an expression as pe says -/
def PE (a k : Nat) : Bool := ((a == 70 || a == 71) && Nat.ble 130 k) || (a == 53 && (k == 25 || k == 26 || k == 27 || k == 28))
def HR (hA : mH) (n : Nat) (ch : Nat → Int32) : Prop := n ≤ 120 ∧ gi hA 53 24 = nI n ∧ (∀ p, p < n → gi hA 69 p = ch p) ∧ (∀ p, n ≤ p → ch p = -1)
def SR (hA : mH) (n : Nat) (h : mH) (p o : Nat) (l : List qS) : Prop := Fr PE hA h ∧ gi h 53 26 = -1 ∧ gi h 53 25 = nI p ∧ p ≤ n ∧ gi h 53 27 = nI o ∧ gi h 53 28 = nI l.length ∧ ly (gi h 70) (gi h 71) 130 (l.map rcq)
def DR (hA : mH) (n : Nat) (h : mH) (f p0 L0 : Nat) : Prop := Fr PE hA h ∧ f ≤ n ∧ gi h 53 26 = nI f ∧ ∃ p1 m, gi h 53 25 = nI p1 ∧ p0 ≤ p1 ∧ p1 ≤ n ∧ gi h 53 28 = nI m ∧ m ≤ L0 + (p1 - p0) + 1
def rdR (hA : mH) (n : Nat) (o : Nat) (w : mH → (mH → Prop) → Prop) (X : Nat → qR) : Prop := ∀ p l h (Q : mH → Prop), SR hA n h p o l → l.length ≤ p → (∀ f, X p = .inl f → ∀ h1, DR hA n h1 f p l.length → Q h1) → (∀ p' l', X p = .inr (p', l') → ∀ h1, SR hA n h1 p' o (l ++ l') → Q h1) → w h Q
theorem rcq_bsn {c : Int32} (h : bsn c) : rcq (c, 0) = (c, 0) := by
  obtain ⟨h1, h2, h3, h4, -, -⟩ := bsn_ne h
  unfold rcq
  rw [if_neg h1, if_neg h2, if_neg h3, if_neg h4]
theorem byt_bsn {c : Int32} (h : bsn c) : c.toInt8.toInt32 = c := by
  rcases h with h | h | h | h | h | h | h | h | h | h <;> subst h <;> decide
def nmI (c : Int32) : Int32 := if nm c then nI (nix c) else -1
theorem r_nameOf {c : Int32} {h : mH} {Q : Int32 → mH → Prop} (K : Q (nmI c) h) : w_X12_nameOf c h Q := by
  unfold w_X12_nameOf
  unfold nmI nix at K
  by_cases h1 : c = 116
  · subst h1; rw [if_pos (by decide)] at K; simpa [nI] using K
  · by_cases h2 : c = 104
    · subst h2; rw [if_pos (by decide)] at K; simpa [nI] using K
    · by_cases h3 : c = 109
      · subst h3; rw [if_pos (by decide)] at K; simpa [nI] using K
      · by_cases h4 : c = 115
        · subst h4; rw [if_pos (by decide)] at K; simpa [nI] using K
        · by_cases h5 : c = 101
          · subst h5; rw [if_pos (by decide)] at K; simpa [nI] using K
          · rw [if_neg (show ¬ nm c from fun w => w.elim h1 (fun w => w.elim h2 (fun w => w.elim h3 (fun w => w.elim h4 h5))))] at K
            exact ⟨fun z => absurd z h1, fun z => absurd z h2, fun z => absurd z h3, fun z => absurd z h4, fun z => absurd z h5, fun _ => K⟩
section READ
variable {hA : mH} {n : Nat} {ch : Nat → Int32}
theorem HR.fx (H : HR hA n ch) {h : mH} (f : Fr PE hA h) : gi h 53 24 = nI n ∧ ∀ p, p < n → gi h 69 p = ch p := by
  obtain ⟨-, e1, et, -⟩ := H
  exact ⟨by rw [f.i 53 24 rfl, e1], fun p hp => by rw [f.i 69 p rfl, et p hp]⟩
theorem r_look (H : HR hA n ch) {h : mH} {p o : Nat} {l : List qS} (S : SR hA n h p o l) {Q : Int32 → mH → Prop} (K : Q (ch p) h) : w_X12_look h Q := by
  obtain ⟨f, -, e2, hp, -⟩ := S
  obtain ⟨g1, g2⟩ := H.fx f
  have hn := H.1
  unfold w_X12_look
  rw [g1, e2, nl n p (by omega) (by omega), nI_clamp (by omega)]
  refine ⟨fun q => ?_, fun q => ⟨vp_nI (by omega) (by decide), ?_⟩⟩
  · rw [H.2.2.2 p q] at K
    exact K
  · rw [g2 p (by omega)]
    exact K
theorem r_lookD (H : HR hA n ch) {h : mH} {f p0 L0 : Nat} (D : DR hA n h f p0 L0) {Q : Int32 → mH → Prop} (K : ∀ c, Q c h) : w_X12_look h Q := by
  obtain ⟨fr, hf, -, p1, m, e1, h1, h2, -, -⟩ := D
  obtain ⟨g1, -⟩ := H.fx fr
  have hn := H.1
  unfold w_X12_look
  rw [g1, e1, nl n p1 (by omega) (by omega)]
  exact ⟨fun _ => K _, fun q => ⟨vp_nI (by omega) (by decide), K _⟩⟩
theorem DR.wk {h : mH} {f p0 L0 p00 L00 : Nat} (D : DR hA n h f p0 L0) (h1 : p00 ≤ p0) (h2 : L0 ≤ L00 + (p0 - p00)) : DR hA n h f p00 L00 := by
  obtain ⟨fr, hf, e0, p1, m, e1, a1, a2, a3, a4⟩ := D
  exact ⟨fr, hf, e0, p1, m, e1, by omega, a2, a3, by omega⟩
theorem r_stp {h h1 : mH} {p o : Nat} {l : List qS} (S : SR hA n h p o l) (hp : p < n) (e : h1 = si h 53 25 (gi h 53 25 + 1)) : SR hA n h1 (p + 1) o l := by
  obtain ⟨f, e3, e2, -, eo, el, hy⟩ := S
  subst e
  exact ⟨f.si rfl, e3, by rw [gi_si, if_pos ⟨rfl, rfl⟩, e2, nI_1], hp, eo, el, hy⟩
theorem r_add (H : HR hA n ch) {h : mH} {p o : Nat} {l : List qS} (S : SR hA n h p o l) (hl : l.length ≤ 120) {a b : Int32} (q : qS) (hq : rcq q = (a, b)) (hb : a.toInt8.toInt32 = a) {Q : mH → Prop} (K : ∀ h1, SR hA n h1 p o (l ++ [q]) → Q h1) : w_X12_addStep a b h Q := by
  obtain ⟨f, e3, e2, hp, eo, el, hy⟩ := S
  unfold w_X12_addStep
  rw [el, show (130 : Int32) = nI 130 from rfl, nI_add, nI_clamp (by omega), pk_vb, hb]
  refine ⟨vp_nI (by omega) (by decide), fun h1 e1 => ?_⟩
  have g1 : gi h1 53 28 = nI l.length := by
    rw [e1, gi_si, if_neg (by omega)]
    exact el
  rw [g1, nI_add, nI_clamp (by omega)]
  refine ⟨vp_nI (by omega) (by decide), fun h2 e2' h3 e3' => K h3 ?_⟩
  have g2 : gi h2 53 28 = nI l.length := by
    rw [e2', gi_si, if_neg (by omega)]
    exact g1
  rw [g2, nI_1] at e3'
  subst e3'
  subst e2'
  subst e1
  refine ⟨((f.si (by simp [PE])).si (by simp [PE])).si rfl, e3, e2, hp, eo, ?_, ?_⟩
  · rw [gi_si, if_pos ⟨rfl, rfl⟩, List.length_append, List.length_singleton]
  · rw [List.map_append]
    refine (ly_app _ _ 130).mpr ⟨ly_co _ 130 (fun j _ hj => ⟨?_, ?_⟩) hy, ⟨⟨?_, ?_⟩, trivial⟩⟩
    · rw [List.length_map] at hj
      simp only [gi_si]
      rw [if_neg (by omega), if_neg (by omega), if_neg (by omega)]
    · rw [List.length_map] at hj
      simp only [gi_si]
      rw [if_neg (by omega), if_neg (by omega), if_neg (by omega)]
    · rw [List.length_map, hq, gi_si, if_neg (by omega), gi_si, if_neg (by omega), gi_si, if_pos (by omega)]
    · rw [List.length_map, hq, gi_si, if_neg (by omega), gi_si, if_pos (by omega)]
theorem r_addD' (H : HR hA n ch) {h : mH} {f p1 m : Nat} (fr : Fr PE hA h) (e0 : gi h 53 26 = nI f) (e1 : gi h 53 25 = nI p1) (em : gi h 53 28 = nI m) (hm : m ≤ 128) (a b : Int32) {Q : mH → Prop} (K : ∀ h1, Fr PE hA h1 → gi h1 53 26 = nI f → gi h1 53 25 = nI p1 → gi h1 53 28 = nI (m + 1) → Q h1) : w_X12_addStep a b h Q := by
  unfold w_X12_addStep
  rw [em, show (130 : Int32) = nI 130 from rfl, nI_add, nI_clamp (by omega)]
  refine ⟨vp_nI (by omega) (by decide), fun h1 y1 => ?_⟩
  have g1 : gi h1 53 28 = nI m := by
    rw [y1, gi_si, if_neg (by omega)]
    exact em
  rw [g1, nI_add, nI_clamp (by omega)]
  refine ⟨vp_nI (by omega) (by decide), fun h2 y2 h3 y3 => ?_⟩
  have g2 : gi h2 53 28 = nI m := by
    rw [y2, gi_si, if_neg (by omega)]
    exact g1
  rw [g2, nI_1] at y3
  subst y3
  subst y2
  subst y1
  exact K _ (((fr.si (by simp [PE])).si (by simp [PE])).si rfl) e0 e1 (by rw [gi_si, if_pos ⟨rfl, rfl⟩])
theorem r_addD (H : HR hA n ch) {h : mH} {f p0 L0 p00 L00 : Nat} (D : DR hA n h f p0 L0) (h1 : p00 < p0) (h2 : L0 ≤ L00 + (p0 - 1 - p00)) (h3 : L00 ≤ p00) (a b : Int32) {Q : mH → Prop} (K : ∀ h1, DR hA n h1 f p00 L00 → Q h1) : w_X12_addStep a b h Q := by
  obtain ⟨fr, hf, e0, p1, m, e1, a1, a2, a3, a4⟩ := D
  have hn := H.1
  exact r_addD' H fr e0 e1 a3 (by omega) a b (fun h9 f9 y0 y1 y2 => K h9 ⟨f9, hf, y0, p1, m + 1, y1, by omega, a2, y2, by omega⟩)
theorem r_faulty {h : mH} {p o : Nat} {l : List qS} (S : SR hA n h p o l) {Q : mH → Prop} (K : ∀ h1, DR hA n h1 p p l.length → Q h1) : w_X12_faulty h Q := by
  obtain ⟨f, e3, e2, hp, eo, el, hy⟩ := S
  unfold w_X12_faulty
  rw [e3]
  refine ⟨fun q => absurd q (by decide), fun _ h1 e => K h1 ?_⟩
  subst e
  exact ⟨f.si rfl, hp, by rw [gi_si, if_pos ⟨rfl, rfl⟩]; exact e2, p, l.length, e2, Nat.le_refl _, hp, el, by omega⟩
theorem r_fltadd (H : HR hA n ch) {h : mH} {p o : Nat} {l : List qS} (S : SR hA n h p o l) (hl : l.length ≤ 120) (a b : Int32) {Q : mH → Prop} (K : ∀ h1, DR hA n h1 p p l.length → Q h1) : w_X12_faulty h (fun h12 => w_X12_addStep a b h12 Q) := by
  obtain ⟨f, e3, e2, hp, eo, el, hy⟩ := S
  unfold w_X12_faulty
  rw [e3]
  refine ⟨fun q => absurd q (by decide), fun _ h1 e => ?_⟩
  subst e
  refine r_addD' (h := si h 53 26 (gi h 53 25)) H (f.si rfl) (f := p) (by rw [gi_si, if_pos ⟨rfl, rfl⟩]; exact e2) (p1 := p) e2 (m := l.length) el (by omega) a b (fun h9 f9 y0 y1 y2 => K h9 ⟨f9, hp, y0, p, l.length + 1, y1, Nat.le_refl _, hp, y2, by omega⟩)
theorem r_opens {h : mH} {p o : Nat} {l : List qS} (S : SR hA n h p o l) (ho : o ≤ 6) (hp : p < n) {Q : Int32 → mH → Prop} (y : o < 6 → ∀ h1, SR hA n h1 (p + 1) (o + 1) l → Q 1 h1) (z : ¬ o < 6 → ∀ h1, DR hA n h1 p p l.length → Q 0 h1) : w_X12_opens h Q := by
  unfold w_X12_opens
  have eo := S.2.2.2.2.1
  rw [eo, show (6 : Int32) = nI 6 from rfl, nn o 6 (by omega) (by decide)]
  refine ⟨fun q h1 e1 h2 e2 => y (by omega) h2 ?_, fun q => r_faulty S (z (by omega))⟩
  obtain ⟨f, e3, e5, -, eo, el, hy⟩ := S
  rw [nI_1] at e1
  subst e1
  exact r_stp (h := si h 53 27 (nI (o + 1))) (p := p) ⟨f.si rfl, e3, e5, by omega, by rw [gi_si, if_pos ⟨rfl, rfl⟩], el, hy⟩ hp e2
theorem r_num (H : HR hA n ch) (Q : mH → Prop) (l0 : List qS) (hl0 : l0.length ≤ 120) {o p0 : Nat} : ∀ (k : Nat) (x : Int32) (p : Nat) (h : mH), k ≤ 4 → (k = 4 → isD (ch p)) → SR hA n h p o l0 → p0 ≤ p → (∀ f, pn ch k x p = .inl f → ∀ h1, DR hA n h1 f p0 l0.length → Q h1) → (∀ p' l', pn ch k x p = .inr (p', l') → ∀ h1, SR hA n h1 p' o (l0 ++ l') → Q h1) →
    w_X12_figure_L4 (fun l1_9 l2_10 h11 => w_X12_figure_J52 Q l1_9 l2_10 h11) Q (k + 1) x (nI (4 - k)) h := by
  intro k
  induction k with
  | zero =>
    intro x p h _ _ S hpp fa su
    unfold w_X12_figure_L4
    unfold pn at fa su
    refine ⟨fun _ => ?_, fun q => absurd (by decide) q⟩
    unfold w_X12_figure_J52
    refine ⟨fun q => absurd q (by decide), fun _ => r_look H S ?_⟩
    rw [e_12_in]
    refine b0 (fun c => ?_) (fun c => ?_)
    · rw [if_neg (show ¬ isD (ch p) from c)] at su
      exact r_add H S hl0 (110, x) rfl (by decide) (fun h1 S1 => su p _ rfl h1 S1)
    · rw [if_pos (show isD (ch p) from c)] at fa
      exact r_fltadd H S hl0 _ _ (fun h1 D1 => fa p rfl h1 (D1.wk hpp (by omega)))
  | succ k ih =>
    intro x p h hk h4 S hpp fa su
    unfold w_X12_figure_L4
    unfold pn at fa su
    refine ⟨fun q => ?_, fun _ => r_look H S ?_⟩
    · have : 4 ≤ 4 - (k + 1) := (nl 4 _ (by decide) (by omega)).mp q
      omega
    · rw [e_12_in]
      refine b0 (fun c => ?_) (fun c => ?_)
      · have c' : ¬ isD (ch p) := c
        rw [if_neg c'] at su
        have hk3 : ¬ k + 1 = 4 := fun q => c' (h4 q)
        unfold w_X12_figure_J52
        refine ⟨fun q => ?_, fun _ => r_look H S ?_⟩
        · have := (nn (4 - (k + 1)) 0 (by omega) (by decide)).mp q
          omega
        · rw [e_12_in]
          exact b0 (fun _ => r_add H S hl0 (110, x) rfl (by decide) (fun h1 S1 => su p _ rfl h1 S1)) (fun w => absurd w c)
      · have c' : isD (ch p) := c
        rw [if_pos c'] at fa su
        refine r_look H S (fun x7 e7 h8 e8 => ?_)
        have S8 := r_stp S (ch_lt H.2.2.2 (fun q => by rw [q] at c'; exact c'.1 (by decide))) e8
        have ex : x7 = x * 10 + ch p - 48 := by
          rw [e7, Int32.mul_comm]
        subst ex
        have := ih (x * 10 + ch p - 48) (p + 1) h8 (by omega) (fun q => by omega) S8 (by omega) fa su
        rw [nI_1, show 4 - (k + 1) + 1 = 4 - k by omega]
        exact this
theorem r_fig (H : HR hA n ch) {Q : mH → Prop} {p o : Nat} {l : List qS} {h : mH} (S : SR hA n h p o l) (hl : l.length ≤ 120) (z : ¬ isD (ch p) → ∀ h1, DR hA n h1 p p l.length → Q h1) (fa : isD (ch p) → ∀ f, pn ch 4 0 p = .inl f → ∀ h1, DR hA n h1 f p l.length → Q h1) (su : isD (ch p) → ∀ p' l', pn ch 4 0 p = .inr (p', l') → ∀ h1, SR hA n h1 p' o (l ++ l') → Q h1) : w_X12_figure h Q := by
  unfold w_X12_figure
  by_cases c : isD (ch p)
  · exact ⟨5, r_num H Q l hl 4 0 p h (Nat.le_refl _) (fun _ => c) S (Nat.le_refl _) (fa c) (su c)⟩
  · refine ⟨1, ?_⟩
    unfold w_X12_figure_L4
    refine ⟨fun q => absurd q (by decide), fun _ => r_look H S ?_⟩
    rw [e_12_in]
    refine b0 (fun _ => ?_) (fun w => absurd w c)
    unfold w_X12_figure_J52
    exact ⟨fun _ => r_fltadd H S hl _ _ (z c), fun q => absurd rfl q⟩
/-- one loop of signs, whatever its form -/
theorem r_loop (H : HR hA n ch) {r o : Nat} {X : Nat → qR} {Rw : mH → (mH → Prop) → Prop} {W Z : Nat → mH → Prop} (Q : mH → Prop) (hr : r ≤ 4) (gX : gd n X) (hX : rdR hA n o Rw X)
    (hD : ∀ m h f p0 L0, DR hA n h f p0 L0 → Q h → W (m + 1) h) (hN : ∀ m h p l, SR hA n h p o l → ¬ rk (ch p) = r → Q h → W (m + 1) h)
    (hY : ∀ m h p l, SR hA n h p o l → rk (ch p) = r → (∀ h6, SR hA n h6 (p + 1) o l → Rw h6 (fun h7 => w_X12_addStep (ch p) 0 h7 (fun h8 => Z m h8))) → W (m + 1) h)
    (z2 : r = 2 → ∀ m h, Q h → Z m h) (z1 : ¬ r = 2 → ∀ m h, W m h → Z m h) (l0 : List qS) (p0 : Nat) (hl0 : l0.length ≤ p0) : ∀ (k p : Nat) (l : List qS) (h : mH), n - p ≤ k → p0 ≤ p → l.length ≤ p - p0 → SR hA n h p o (l0 ++ l) →
    (∀ f, pl ch X r k p l = .inl f → ∀ h1, DR hA n h1 f p0 l0.length → Q h1) → (∀ p' l', pl ch X r k p l = .inr (p', l') → ∀ h1, SR hA n h1 p' o (l0 ++ l') → Q h1) → W (k + 2) h := by
  intro k
  induction k with
  | zero =>
    intro p l h hk hpp hl S fa su
    have hp := S.2.2.2.1
    refine hN 1 h p (l0 ++ l) S (fun z => ?_) (su p l rfl h S)
    rw [H.2.2.2 p (by omega)] at z
    have : rk (-1) = 9 := by decide
    omega
  | succ k ih =>
    intro p l h hk hpp hl S fa su
    have hp := S.2.2.2.1
    have hn := H.1
    by_cases zr : rk (ch p) = r
    · have hpn : p < n := ch_lt H.2.2.2 (fun q => by
        rw [q] at zr
        have : rk (-1) = 9 := by decide
        omega)
      have bs := rk_bsn hr zr
      refine hY (k + 2) h p (l0 ++ l) S zr (fun h6 S6 => hX (p + 1) (l0 ++ l) h6 _ S6 (by rw [List.length_append]; omega) (fun f ef h7 D7 => ?_) (fun p' l' ef h7 S7 => ?_))
      · refine r_addD H D7 (p00 := p0) (L00 := l0.length) (by omega) (by rw [List.length_append]; omega) hl0 _ _ (fun h8 D8 => ?_)
        have K : Q h8 := fa f (by unfold pl; rw [if_pos zr, ef, rb_l]) h8 D8
        by_cases q : r = 2
        · exact z2 q _ _ K
        · exact z1 q _ _ (hD (k + 1) h8 f p0 l0.length D8 K)
      · obtain ⟨a1, a2, a3, a4⟩ := (gX (p + 1) hpn).2 p' l' ef
        refine r_add H S7 (by rw [List.length_append, List.length_append]; omega) (ch p, 0) (rcq_bsn bs) (byt_bsn bs) (fun h8 S8 => ?_)
        rw [show l0 ++ l ++ l' ++ [(ch p, (0 : Int32))] = l0 ++ (l ++ l' ++ [(ch p, 0)]) by simp] at S8
        have len : (l ++ l' ++ [(ch p, (0 : Int32))]).length ≤ p' - p0 := by
          rw [List.length_append, List.length_append, List.length_singleton]
          omega
        by_cases q : r = 2
        · exact z2 q _ _ (su p' (l ++ l' ++ [(ch p, 0)]) (by unfold pl; rw [if_pos zr, ef, rb_r, if_pos q]) h8 S8)
        · refine z1 q _ _ (ih p' _ h8 (by omega) (by omega) len S8 (fun f e => fa f ?_) (fun p2 l2 e => su p2 l2 ?_))
          · unfold pl
            rw [if_pos zr, ef, rb_r, if_neg q]
            exact e
          · unfold pl
            rw [if_pos zr, ef, rb_r, if_neg q]
            exact e
    · exact hN (k + 2) h p (l0 ++ l) S zr (su p l (by unfold pl; rw [if_neg zr]) h S)
theorem r_pj (H : HR hA n ch) {r o : Nat} {X : Nat → qR} {Rw : mH → (mH → Prop) → Prop} {W Z : (mH → Prop) → Nat → mH → Prop} (hr : r ≤ 4) (gX : gd n X) (hX : rdR hA n o Rw X)
    (hD : ∀ Q m h f p0 L0, DR hA n h f p0 L0 → Q h → W Q (m + 1) h) (hN : ∀ Q m h p l, SR hA n h p o l → ¬ rk (ch p) = r → Q h → W Q (m + 1) h)
    (hY : ∀ Q m h p l, SR hA n h p o l → rk (ch p) = r → (∀ h6, SR hA n h6 (p + 1) o l → Rw h6 (fun h7 => w_X12_addStep (ch p) 0 h7 (fun h8 => Z Q m h8))) → W Q (m + 1) h)
    (z2 : r = 2 → ∀ Q m h, Q h → Z Q m h) (z1 : ¬ r = 2 → ∀ Q m h, W Q m h → Z Q m h) : rdR hA n o (fun h Q => Rw h (fun h1 => ∃ m, W Q m h1)) (pj ch n X r) := by
  intro p l h Q S hl fa su
  have hp := S.2.2.2.1
  refine hX p l h _ S hl (fun f ef h1 D1 => ⟨1, hD Q 0 h1 f p l.length D1 (fa f (by unfold pj; rw [ef, rb_l]) h1 D1)⟩) (fun p' l' ef h1 S1 => ?_)
  obtain ⟨a1, a2, a3, a4⟩ := (gX p hp).2 p' l' ef
  refine ⟨n - p' + 2, r_loop H Q hr gX hX (hD Q) (hN Q) (hY Q) (fun q => z2 q Q) (fun q => z1 q Q) l p hl (n - p') p' l' h1 (Nat.le_refl _) (by omega) a3 S1 (fun f e => fa f ?_) (fun p2 l2 e => su p2 l2 ?_)⟩
  · unfold pj
    rw [ef, rb_r]
    exact e
  · unfold pj
    rw [ef, rb_r]
    exact e
end READ
