/-! PURE: like bytes give like texts; the reference's text laid down -/
abbrev oth (c : Int32) : Prop := rk c = 9 ∧ ¬ isD c ∧ ¬ nm c ∧ ¬ c = 40 ∧ ¬ c = 41 ∧ ¬ c = 33 ∧ ¬ c = 45 ∧ ¬ c = 63 ∧ ¬ c = 59
def sm (a b : Int32) : Prop := a = b ∨ (oth a ∧ oth b)
theorem oth_of {c : Int32} (h : c.toInt < 0 ∨ 128 ≤ c.toInt) : oth c := by
  have k : ∀ x : Int32, 0 ≤ x.toInt ∧ x.toInt ≤ 127 → ¬ c = x := by
    rintro x hx rfl
    omega
  refine ⟨?_, ?_, ?_, k _ (by decide), k _ (by decide), k _ (by decide), k _ (by decide), k _ (by decide), k _ (by decide)⟩
  · unfold rk
    rw [if_neg (k _ (by decide)), if_neg (k _ (by decide)), if_neg, if_neg, if_neg]
    · rintro (q | q | q) <;> exact k _ (by decide) q
    · rintro (q | q) <;> exact k _ (by decide) q
    · rintro (q | q | q) <;> exact k _ (by decide) q
  · rintro ⟨h1, h2⟩
    rw [lt_i] at h1 h2
    have : (48 : Int32).toInt = 48 := rfl
    have : (57 : Int32).toInt = 57 := rfl
    omega
  · rintro (q | q | q | q | q) <;> exact k _ (by decide) q
theorem sm_byte {c : Int32} (h : inR c 0 255) : sm c c.toInt8.toInt32 := by
  have h0 : (0 : Int32).toInt = 0 := rfl
  have h255 : (255 : Int32).toInt = 255 := rfl
  rw [inR_i, h0, h255] at h
  have e : c.toInt8.toInt32.toInt = c.toInt.bmod 256 := by
    rw [Int8.toInt_toInt32, Int32.toInt_toInt8]
  by_cases q : c.toInt ≤ 127
  · refine Or.inl ?_
    rw [← Int32.toInt_inj, e]
    exact (Int.bmod_eq_of_le (by omega) (by omega)).symm
  · refine Or.inr ⟨oth_of (Or.inr (by omega)), oth_of (Or.inl ?_)⟩
    have h3 : c.toInt % ((256 : Nat) : Int) = c.toInt := Int.emod_eq_of_lt (by omega) (by omega)
    rw [e, Int.bmod_def, h3, if_neg (by omega)]
    omega
section LIKE
variable {ch ch' : Nat → Int32} {n : Nat}
theorem pn_cg (hs : ∀ p, sm (ch p) (ch' p)) : ∀ (k : Nat) (v : Int32) (p : Nat), pn ch k v p = pn ch' k v p := by
  intro k
  induction k with
  | zero =>
    intro v p
    unfold pn
    rcases hs p with e | ⟨a, b⟩
    · rw [e]
    · rw [if_neg a.2.1, if_neg b.2.1]
  | succ k ih =>
    intro v p
    unfold pn
    rcases hs p with e | ⟨a, b⟩
    · rw [e, ih]
    · rw [if_neg a.2.1, if_neg b.2.1]
theorem pl_cg (hs : ∀ p, sm (ch p) (ch' p)) (X : Nat → qR) {r : Nat} (hr : r ≤ 4) : ∀ (k p : Nat) (l : List qS), pl ch X r k p l = pl ch' X r k p l := by
  intro k
  induction k with
  | zero => intro p l; rfl
  | succ k ih =>
    intro p l
    unfold pl
    rcases hs p with e | ⟨a, b⟩
    · rw [e]
      simp only [ih]
    · rw [if_neg (by rw [a.1]; omega), if_neg (by rw [b.1]; omega)]
theorem pk_cg (hs : ∀ p, sm (ch p) (ch' p)) (X : Nat → qR) : ∀ k, pk ch n X k = pk ch' n X k := by
  intro k
  induction k with
  | zero => rfl
  | succ k ih =>
    show pj ch n (pk ch n X k) (4 - k) = pj ch' n (pk ch' n X k) (4 - k)
    rw [ih]
    funext p
    unfold pj
    simp only [pl_cg hs _ (show 4 - k ≤ 4 by omega)]
theorem po_cg (hs : ∀ p, sm (ch p) (ch' p)) (b : Bool) (E O : Nat → qR) : po ch b E O = po ch' b E O := by
  funext p
  unfold po
  have c41 : ∀ p', (ch p' = 41) = (ch' p' = 41) := fun p' => by
    rcases hs p' with e | ⟨a, b⟩
    · rw [e]
    · exact propext ⟨fun q => absurd q a.2.2.2.2.1, fun q => absurd q b.2.2.2.2.1⟩
  simp only [pn_cg hs, c41]
  have cut : ∀ c : Nat → Int32, oth (c p) → ∀ (A B C : qR) , (if isD (c p) then A else if nm (c p) then .inr (p + 1, [(c p, 0)]) else if c p = 40 ∧ b = true then B else if (c p = 33 ∨ c p = 45) ∧ b = true then C else .inl p) = (.inl p : qR) := fun c a A B C => by
    rw [if_neg a.2.1, if_neg a.2.2.1, if_neg (show ¬ (c p = 40 ∧ b = true) from fun q => a.2.2.2.1 q.1), if_neg (show ¬ ((c p = 33 ∨ c p = 45) ∧ b = true) from fun q => q.1.elim a.2.2.2.2.2.1 a.2.2.2.2.2.2.1)]
  rcases hs p with e | ⟨x, y⟩
  · rw [e]
  · rw [cut ch x, cut ch' y]
theorem pv_cg (hs : ∀ p, sm (ch p) (ch' p)) : ∀ b, pv ch n b = pv ch' n b := by
  intro b
  induction b with
  | zero => exact po_cg hs _ _ _
  | succ b ih =>
    show po ch true (pk ch n (pv ch n b) 5) (pv ch n b) = po ch' true (pk ch' n (pv ch' n b) 5) (pv ch' n b)
    rw [ih, pk_cg hs, po_cg hs]
theorem pli_cg (hs : ∀ p, sm (ch p) (ch' p)) (p : Nat) : pli ch n p = pli ch' n p := by
  have e : pe ch n = pe ch' n := by
    unfold pe
    rw [pv_cg hs, pk_cg hs]
  have c63 : ∀ p', (ch p' = 63) = (ch' p' = 63) := fun p' => by
    rcases hs p' with e | ⟨a, b⟩
    · rw [e]
    · exact propext ⟨fun q => absurd q a.2.2.2.2.2.2.2.1, fun q => absurd q b.2.2.2.2.2.2.2.1⟩
  unfold pli
  simp only [e, c63]
theorem px_cg (hs : ∀ p, sm (ch p) (ch' p)) : ∀ (k p : Nat) (L : List qL), px ch n k p L = px ch' n k p L := by
  have c59 : ∀ p', (ch p' = 59) = (ch' p' = 59) := fun p' => by
    rcases hs p' with e | ⟨a, b⟩
    · rw [e]
    · exact propext ⟨fun q => absurd q a.2.2.2.2.2.2.2.2, fun q => absurd q b.2.2.2.2.2.2.2.2⟩
  intro k
  induction k with
  | zero => intro p L; rfl
  | succ k ih =>
    intro p L
    unfold px
    simp only [pli_cg hs, c59, ih]
theorem gd_px (he : ∀ p, n ≤ p → ch p = -1) : ∀ (k p : Nat) (L : List qL), p ≤ n → (∀ x ∈ L, gx x.2 ∧ (x.1 = [] ∨ gx x.1)) → (∀ f, px ch n k p L = .inl f → f ≤ n) ∧ (∀ L', px ch n k p L = .inr L' → ∀ x ∈ L', gx x.2 ∧ (x.1 = [] ∨ gx x.1)) := by
  intro k
  induction k with
  | zero =>
    intro p L hp hL
    exact ⟨fun f e => (by cases e; omega), fun L' e => by cases e⟩
  | succ k ih =>
    intro p L hp hL
    obtain ⟨g1, g2⟩ := gd_pli he hp
    unfold px
    cases eX : pli ch n p with
    | inl f => exact ⟨fun f' e => (by cases e; exact g1 f eX), fun L' e => by cases e⟩
    | inr q =>
      obtain ⟨p1, x⟩ := q
      obtain ⟨a1, a2, a3, a4, a5, a6⟩ := g2 p1 x eX
      have hL' : ∀ y ∈ L ++ [x], gx y.2 ∧ (y.1 = [] ∨ gx y.1) := fun y hy => by
        rcases List.mem_append.mp hy with q | q
        · exact hL y q
        · rw [List.mem_singleton.mp q]
          exact ⟨a5, a6⟩
      dsimp only
      by_cases c : ch p1 = 59
      · rw [if_pos c]
        exact ih (p1 + 1) _ (ch_lt he (fun q => by rw [q] at c; exact absurd c (by decide))) hL'
      · rw [if_neg c]
        by_cases y : p1 < n
        · rw [if_pos y]
          exact ⟨fun f' e => (by cases e; exact a2), fun L' e => by cases e⟩
        · rw [if_neg y]
          refine ⟨fun f' e => (by cases e), fun L' e => ?_⟩
          cases e
          exact hL'
end LIKE
theorem ly_sh {f g f' g' : Nat → Int32} : ∀ (l : List qS) (k k' : Nat), (∀ j, j < l.length → f' (k' + j) = f (k + j) ∧ g' (k' + j) = g (k + j)) → ly f g k l → ly f' g' k' l := by
  intro l
  induction l with
  | nil => intro k k' _ _; trivial
  | cons q l ih =>
    intro k k' h a
    rw [List.length_cons] at h
    have h0 := h 0 (by omega)
    refine ⟨⟨h0.1.trans a.1.1, h0.2.trans a.1.2⟩, ih (k + 1) (k' + 1) (fun j hj => ?_) a.2⟩
    have := h (j + 1) (by omega)
    rw [show k' + (j + 1) = k' + 1 + j by omega, show k + (j + 1) = k + 1 + j by omega] at this
    exact this
theorem ly_all {f g : Nat → Int32} {P : Int32 → Prop} : ∀ (l : List qS) (k : Nat), ly f g k l → (∀ q ∈ l, P q.1) → ∀ j, j < l.length → P (f (k + j)) := by
  intro l
  induction l with
  | nil => intro k _ _ j hj; exact absurd hj (Nat.not_lt_zero j)
  | cons q l ih =>
    intro k a hP j hj
    rw [List.length_cons] at hj
    cases j with
    | zero =>
      show P (f k)
      rw [a.1.1]
      exact hP q List.mem_cons_self
    | succ j =>
      rw [show k + (j + 1) = k + 1 + j by omega]
      exact ih (k + 1) a.2 (fun x hx => hP x (List.mem_cons_of_mem _ hx)) j (by omega)
theorem le_sh {f g f' g' : Nat → Int32} : ∀ (L : List qL) (k k' a : Nat), (∀ j, j < L.length → f' (k' + j) = f (k + j) ∧ g' (k' + j) = g (k + j)) → le_ f g k a L → le_ f' g' k' a L := by
  intro L
  induction L with
  | nil => intro k k' a _ _; trivial
  | cons x r ih =>
    intro k k' a h b
    rw [List.length_cons] at h
    have h0 := h 0 (by omega)
    refine ⟨⟨h0.1.trans b.1.1, h0.2.trans b.1.2⟩, ih (k + 1) (k' + 1) _ (fun j hj => ?_) b.2⟩
    have := h (j + 1) (by omega)
    rw [show k' + (j + 1) = k' + 1 + j by omega, show k + (j + 1) = k + 1 + j by omega] at this
    exact this
theorem le_all {f g : Nat → Int32} : ∀ (L : List qL) (k a : Nat), le_ f g k a L → ∀ j, j < L.length → ∃ b c, b ≤ a + (fr L).length ∧ c ≤ a + (fr L).length ∧ f (k + j) = nI b ∧ g (k + j) = nI c := by
  intro L
  induction L with
  | nil => intro k a _ j hj; exact absurd hj (Nat.not_lt_zero j)
  | cons x r ih =>
    intro k a h j hj
    rw [List.length_cons] at hj
    have e : (fr (x :: r)).length = x.1.length + x.2.length + (fr r).length := by
      show (x.1 ++ (x.2 ++ fr r)).length = _
      rw [List.length_append, List.length_append]
      omega
    cases j with
    | zero => exact ⟨_, _, by omega, by omega, h.1.1, h.1.2⟩
    | succ j =>
      obtain ⟨b, c, h1, h2, h3, h4⟩ := ih (k + 1) _ h.2 j (by omega)
      rw [show k + (j + 1) = k + 1 + j by omega]
      exact ⟨b, c, by omega, by omega, h3, h4⟩
theorem m0 (c : Int32) (i : Nat) : c * 0 + nI i = nI i := by
  rw [Int32.mul_zero, Int32.zero_add]
theorem gx_fr : ∀ {L : List qL}, (∀ x ∈ L, gx x.2 ∧ (x.1 = [] ∨ gx x.1)) → ∀ q ∈ fr L, okq q.1 := by
  intro L
  induction L with
  | nil => intro _ q hq; cases hq
  | cons x r ih =>
    intro h q hq
    have hx := h x List.mem_cons_self
    rcases List.mem_append.mp (show q ∈ x.1 ++ (x.2 ++ fr r) from hq) with a | a
    · rcases hx.2 with e | e
      · rw [e] at a; cases a
      · exact e.1 q a
    · rcases List.mem_append.mp a with b | b
      · exact hx.1.1 q b
      · exact ih (fun y hy => h y (List.mem_cons_of_mem _ hy)) q b
theorem p_copy {h : mH} {Q : Int32 → mH → Prop} {L : List qL} (gL : ∀ x ∈ L, gx x.2 ∧ (x.1 = [] ∨ gx x.1)) (hl : (fr L).length ≤ 120) (hL : L.length ≤ 61) (e28 : gi h 53 28 = nI (fr L).length) (hy : ly (gi h 70) (gi h 71) 130 ((fr L).map rcq)) (e72 : gi h 72 1 = nI L.length) (e73 : le_ (gi h 73) (gi h 74) 61 0 L)
    (K : ∀ h1, Fr (cl [70, 71, 72, 73, 74] []) h h1 → ly (gi h1 70) (gi h1 71) 0 ((fr L).map rcq) → gi h1 72 0 = nI L.length → le_ (gi h1 73) (gi h1 74) 0 0 L → Q (-1) h1) :
    ∃ n27 : Nat, w_X12_readText_L105 (fun h23 => vp_in 0 2 ∧ ∀ h24 : mH, h24 = si h23 72 (0 : Int32).toNatClampNeg (gi h23 72 1) → ∃ n26 : Nat, w_X12_readText_L177 (fun h25 => Q (-1) h25) Q 0 n26 0 h24) Q 0 n27 0 h := by
  have fit : ∀ j, j < (fr L).length → vp_nar .byte (gi h 70 (130 + j)) = gi h 70 (130 + j) := fun j hj => by
    have := ly_all (P := fun c => c.toInt8.toInt32 = c) _ 130 hy (fun q hq => by
      obtain ⟨x, hx, rfl⟩ := List.mem_map.mp hq
      exact rcq_b (gx_fr gL x hx)) j (by rw [List.length_map]; exact hj)
    rw [← this, pk_vb]
  refine loop_0 (σ := mH) (fun n i s => w_X12_readText_L105 _ Q 0 n (nI i) s) (fun i s => Fr (cl [70, 71] []) h s ∧ (∀ j, j < i → gi s 70 j = gi h 70 (130 + j) ∧ gi s 71 j = gi h 71 (130 + j)) ∧ ∀ j, 130 ≤ j → gi s 70 j = gi h 70 j ∧ gi s 71 j = gi h 71 j) (fr L).length h ⟨Fr.rf _ h, fun j hj => absurd hj (Nat.not_lt_zero j), fun j _ => ⟨rfl, rfl⟩⟩ (fun n s e => ?_) (fun n i s hi e nx => ?_)
  · obtain ⟨f, e1, -⟩ := e
    unfold w_X12_readText_L105
    rw [f.i 53 28 rfl, e28]
    refine ⟨fun _ => ⟨vpd (by decide), fun h24 e24 => ?_⟩, fun q => absurd ((nl _ _ (by omega) (by omega)).mpr (Nat.le_refl _)) q⟩
    rw [f.i 72 1 rfl, e72] at e24
    have f4 : Fr (cl [70, 71, 72] []) h h24 := by rw [e24]; exact (f.up rfl).si rfl
    have d72 : gi h24 72 0 = nI L.length := by rw [e24]; rfl
    have dly : ly (gi h24 70) (gi h24 71) 0 ((fr L).map rcq) := ly_sh _ 130 0 (fun j hj => by
      rw [List.length_map] at hj
      rw [e24, Nat.zero_add]
      exact e1 j hj) hy
    refine loop_0 (σ := mH) (fun n i s => w_X12_readText_L177 _ Q 0 n (nI i) s) (fun i s => Fr (cl [73, 74] []) h24 s ∧ (∀ j, j < i → gi s 73 j = gi h24 73 (61 + j) ∧ gi s 74 j = gi h24 74 (61 + j)) ∧ ∀ j, 61 ≤ j → gi s 73 j = gi h24 73 j ∧ gi s 74 j = gi h24 74 j) L.length h24 ⟨Fr.rf _ _, fun j hj => absurd hj (Nat.not_lt_zero j), fun j _ => ⟨rfl, rfl⟩⟩ (fun n t e => ?_) (fun n i t hi e nx => ?_)
    · obtain ⟨g, e3, -⟩ := e
      unfold w_X12_readText_L177
      refine ⟨vpd (by decide), fun _ => ?_, fun q => ?_⟩
      · refine K t ((f4.up rfl).tr (g.up rfl)) ?_ (by rw [g.i 72 0 rfl]; exact d72) (le_sh L 61 0 0 (fun j hj => ?_) e73)
        · rw [show gi t 70 = gi h24 70 from funext fun k => g.i 70 k rfl, show gi t 71 = gi h24 71 from funext fun k => g.i 71 k rfl]
          exact dly
        · rw [Nat.zero_add, (e3 j hj).1, (e3 j hj).2, f4.i 73 _ rfl, f4.i 74 _ rfl]
          exact ⟨rfl, rfl⟩
      · have y : gi t 72 0 = nI L.length := by rw [g.i 72 0 rfl]; exact d72
        rw [show ((0 : Int32).toNatClampNeg) = 0 from rfl, y] at q
        exact absurd ((nl _ _ (by omega) (by omega)).mpr (Nat.le_refl _)) q
    · obtain ⟨g, e3, e4⟩ := e
      have y : gi t 72 0 = nI L.length := by rw [g.i 72 0 rfl]; exact d72
      obtain ⟨b, c, hb, hc, h7, h8⟩ := le_all L 61 0 e73 i hi
      have k73 : gi t 73 (61 + i) = nI b := by rw [(e4 _ (by omega)).1, f4.i 73 _ rfl]; exact h7
      have k74 : gi t 74 (61 + i) = nI c := by rw [(e4 _ (by omega)).2, f4.i 74 _ rfl]; exact h8
      unfold w_X12_readText_L177
      rw [show ((0 : Int32).toNatClampNeg) = 0 from rfl, y, nl _ _ (by omega) (by omega), m0, show (61 : Int32) = nI 61 from rfl, nI_add, nI_1, nI_clamp (show i < 2 ^ 31 by omega), nI_clamp (show 61 + i < 2 ^ 31 by omega), k73, v16 (by omega)]
      refine ⟨vpd (by decide), fun q => absurd q (by omega), fun _ => ⟨vp_nI (by omega) (by decide), vp_nI (by omega) (by decide), fun h17 e17 => ⟨vp_nI (by omega) (by decide), vp_nI (by omega) (by decide), fun h18 e18 => nx h18 ?_⟩⟩⟩
      have k74' : gi h17 74 (61 + i) = nI c := by rw [e17, gi_si, if_neg (by omega)]; exact k74
      rw [k74', v16 (by omega)] at e18
      rw [e18, e17]
      refine ⟨(g.si rfl).si rfl, fun j hj => ?_, fun j hj => ?_⟩
      · by_cases q : j = i
        · subst q
          exact ⟨by rw [gi_si, if_neg (by omega), gi_si, if_pos ⟨rfl, rfl⟩, ← k73]; exact (e4 _ (by omega)).1, by rw [gi_si, if_pos ⟨rfl, rfl⟩, ← k74]; exact (e4 _ (by omega)).2⟩
        · exact ⟨by rw [gi_si, if_neg (by omega), gi_si, if_neg (by omega)]; exact (e3 j (by omega)).1, by rw [gi_si, if_neg (by omega), gi_si, if_neg (by omega)]; exact (e3 j (by omega)).2⟩
      · exact ⟨by rw [gi_si, if_neg (by omega), gi_si, if_neg (by omega)]; exact (e4 j hj).1, by rw [gi_si, if_neg (by omega), gi_si, if_neg (by omega)]; exact (e4 j hj).2⟩
  · obtain ⟨f, e1, e2⟩ := e
    unfold w_X12_readText_L105
    rw [f.i 53 28 rfl, e28, nl _ _ (by omega) (by omega), m0, show (130 : Int32) = nI 130 from rfl, nI_add, nI_1, nI_clamp (show i < 2 ^ 31 by omega), nI_clamp (show 130 + i < 2 ^ 31 by omega), (e2 (130 + i) (by omega)).1, fit i hi]
    refine ⟨fun q => absurd q (by omega), fun _ => ⟨vp_nI (by omega) (by decide), vp_nI (by omega) (by decide), fun h13 e13 => ⟨vp_nI (by omega) (by decide), vp_nI (by omega) (by decide), fun h14 e14 => nx h14 ?_⟩⟩⟩
    have k71 : gi h13 71 (130 + i) = gi h 71 (130 + i) := by rw [e13, gi_si, if_neg (by omega)]; exact (e2 _ (by omega)).2
    rw [k71] at e14
    rw [e14, e13]
    refine ⟨(f.si rfl).si rfl, fun j hj => ?_, fun j hj => ?_⟩
    · by_cases q : j = i
      · subst q
        exact ⟨by rw [gi_si, if_neg (by omega), gi_si, if_pos ⟨rfl, rfl⟩], by rw [gi_si, if_pos ⟨rfl, rfl⟩]⟩
      · exact ⟨by rw [gi_si, if_neg (by omega), gi_si, if_neg (by omega)]; exact (e1 j (by omega)).1, by rw [gi_si, if_neg (by omega), gi_si, if_neg (by omega)]; exact (e1 j (by omega)).2⟩
    · exact ⟨by rw [gi_si, if_neg (by omega), gi_si, if_neg (by omega)]; exact (e2 j hj).1, by rw [gi_si, if_neg (by omega), gi_si, if_neg (by omega)]; exact (e2 j hj).2⟩
