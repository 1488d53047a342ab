/-! PURE: how a text is read, as a function of its bytes -/
abbrev qR : Type := Nat ⊕ (Nat × List qS)
def rb (r : qR) (k : Nat → List qS → qR) : qR := match r with
  | .inl f => .inl f
  | .inr (p, l) => k p l
theorem rb_l (f : Nat) (k : Nat → List qS → qR) : rb (.inl f) k = .inl f := rfl
theorem rb_r (p : Nat) (l : List qS) (k : Nat → List qS → qR) : rb (.inr (p, l)) k = k p l := rfl
abbrev isD (c : Int32) : Prop := ¬ c < 48 ∧ ¬ 57 < c
def rk (c : Int32) : Nat := if c = 124 then 0 else if c = 38 then 1 else if c = 60 ∨ c = 61 ∨ c = 62 then 2 else if c = 43 ∨ c = 45 then 3 else if c = 37 ∨ c = 42 ∨ c = 47 then 4 else 9
def pl (ch : Nat → Int32) (X : Nat → qR) (r : Nat) : Nat → Nat → List qS → qR
  | 0, p, l => .inr (p, l)
  | n + 1, p, l => if rk (ch p) = r then rb (X (p + 1)) (fun p' l' => if r = 2 then .inr (p', l ++ l' ++ [(ch p, 0)]) else pl ch X r n p' (l ++ l' ++ [(ch p, 0)])) else .inr (p, l)
def pj (ch : Nat → Int32) (n : Nat) (X : Nat → qR) (r p : Nat) : qR := rb (X p) (fun p' l => pl ch X r (n - p') p' l)
def pk (ch : Nat → Int32) (n : Nat) (X : Nat → qR) : Nat → Nat → qR
  | 0 => X
  | k + 1 => pj ch n (pk ch n X k) (4 - k)
def pn (ch : Nat → Int32) : Nat → Int32 → Nat → qR
  | 0, v, p => if isD (ch p) then .inl p else .inr (p, [(110, v)])
  | k + 1, v, p => if isD (ch p) then pn ch k (v * 10 + ch p - 48) (p + 1) else .inr (p, [(110, v)])
def po (ch : Nat → Int32) (b : Bool) (E O : Nat → qR) (p : Nat) : qR :=
  if isD (ch p) then pn ch 4 0 p
  else if nm (ch p) then .inr (p + 1, [(ch p, 0)])
  else if ch p = 40 ∧ b = true then rb (E (p + 1)) (fun p' l => if ch p' = 41 then .inr (p' + 1, l) else .inl p')
  else if (ch p = 33 ∨ ch p = 45) ∧ b = true then rb (O (p + 1)) (fun p' l => .inr (p', l ++ [(if ch p = 33 then 33 else 126, 0)]))
  else .inl p
def pv (ch : Nat → Int32) (n : Nat) : Nat → Nat → qR
  | 0 => po ch false (fun p => .inl p) (fun p => .inl p)
  | b + 1 => po ch true (pk ch n (pv ch n b) 5) (pv ch n b)
def pe (ch : Nat → Int32) (n : Nat) : Nat → qR := pk ch n (pv ch n 6) 5
/-- a line: its fault, or its end and its two expressions -/
def pli (ch : Nat → Int32) (n p : Nat) : Nat ⊕ (Nat × qL) := match pe ch n p with
  | .inl f => .inl f
  | .inr (p', l) => if ch p' = 63 then (match pe ch n (p' + 1) with
    | .inl f => .inl f
    | .inr (p2, l2) => .inr (p2, (l, l2))) else .inr (p', ([], l))
def px (ch : Nat → Int32) (n : Nat) : Nat → Nat → List qL → Nat ⊕ List qL
  | 0, _, _ => .inl 0
  | k + 1, p, L => match pli ch n p with
    | .inl f => .inl f
    | .inr (p', x) => if ch p' = 59 then px ch n k (p' + 1) (L ++ [x]) else if p' < n then .inl p' else .inr (L ++ [x])
/-- what can be said of an expression's end -/
def gd (n : Nat) (X : Nat → qR) : Prop := ∀ p, p ≤ n → (∀ f, X p = .inl f → f ≤ n) ∧ (∀ p' l, X p = .inr (p', l) → p < p' ∧ p' ≤ n ∧ l.length ≤ p' - p ∧ gx l)
section TEXT
variable {ch : Nat → Int32} {n : Nat}
theorem rk_bsn {c : Int32} {r : Nat} (hr : r ≤ 4) (h : rk c = r) : bsn c := by
  unfold rk at h
  unfold bsn
  by_cases h1 : c = 124
  · exact Or.inl h1
  · rw [if_neg h1] at h
    by_cases h2 : c = 38
    · exact Or.inr (Or.inl h2)
    · rw [if_neg h2] at h
      by_cases h3 : c = 60 ∨ c = 61 ∨ c = 62
      · rcases h3 with q | q | q <;> simp [q]
      · rw [if_neg h3] at h
        by_cases h4 : c = 43 ∨ c = 45
        · rcases h4 with q | q <;> simp [q]
        · rw [if_neg h4] at h
          by_cases h5 : c = 37 ∨ c = 42 ∨ c = 47
          · rcases h5 with q | q | q <;> simp [q]
          · rw [if_neg h5] at h
            omega
theorem ch_lt (he : ∀ p, n ≤ p → ch p = -1) {p : Nat} (h : ¬ ch p = -1) : p < n := Nat.lt_of_not_le fun q => h (he p q)
theorem gd_pl (he : ∀ p, n ≤ p → ch p = -1) {X : Nat → qR} (gX : gd n X) {r : Nat} (hr : r ≤ 4) : ∀ (k p p0 : Nat) (l : List qS), p0 < p → p ≤ n → l.length ≤ p - p0 → gx l →
    (∀ f, pl ch X r k p l = .inl f → f ≤ n) ∧ (∀ p' l', pl ch X r k p l = .inr (p', l') → p0 < p' ∧ p' ≤ n ∧ l'.length ≤ p' - p0 ∧ gx l') := by
  intro k
  induction k with
  | zero =>
    intro p p0 l h1 h2 h3 h4
    refine ⟨fun f e => (by cases e), fun p' l' e => ?_⟩
    cases e
    exact ⟨h1, h2, h3, h4⟩
  | succ k ih =>
    intro p p0 l h1 h2 h3 h4
    unfold pl
    by_cases c : rk (ch p) = r
    · rw [if_pos c]
      have hp : p < n := ch_lt he (fun q => by rw [q] at c; have : rk (-1) = 9 := by decide
                                               omega)
      obtain ⟨g1, g2⟩ := gX (p + 1) hp
      cases eX : X (p + 1) with
      | inl f =>
        rw [rb_l]
        exact ⟨fun f' e => (by cases e; exact g1 f eX), fun p' l' e => by cases e⟩
      | inr q =>
        obtain ⟨p2, l2⟩ := q
        obtain ⟨a1, a2, a3, a4⟩ := g2 p2 l2 eX
        rw [rb_r]
        have len : (l ++ l2 ++ [(ch p, (0 : Int32))]).length ≤ p2 - p0 := by
          rw [List.length_append, List.length_append, List.length_singleton]
          omega
        have gg := gx_two h4 a4 (rk_bsn hr c)
        by_cases z : r = 2
        · rw [if_pos z]
          refine ⟨fun f e => (by cases e), fun p' l' e => ?_⟩
          cases e
          exact ⟨by omega, a2, len, gg⟩
        · rw [if_neg z]
          exact ih p2 p0 _ (by omega) a2 len gg
    · rw [if_neg c]
      refine ⟨fun f e => (by cases e), fun p' l' e => ?_⟩
      cases e
      exact ⟨h1, h2, h3, h4⟩
theorem gd_pj (he : ∀ p, n ≤ p → ch p = -1) {X : Nat → qR} (gX : gd n X) {r : Nat} (hr : r ≤ 4) : gd n (pj ch n X r) := by
  intro p hp
  unfold pj
  obtain ⟨g1, g2⟩ := gX p hp
  cases eX : X p with
  | inl f =>
    rw [rb_l]
    exact ⟨fun f' e => (by cases e; exact g1 f eX), fun p' l' e => by cases e⟩
  | inr q =>
    obtain ⟨p2, l2⟩ := q
    obtain ⟨a1, a2, a3, a4⟩ := g2 p2 l2 eX
    rw [rb_r]
    exact gd_pl he gX hr _ p2 p l2 a1 a2 a3 a4
theorem gd_pk (he : ∀ p, n ≤ p → ch p = -1) {X : Nat → qR} (gX : gd n X) : ∀ k, gd n (pk ch n X k) := by
  intro k
  induction k with
  | zero => exact gX
  | succ k ih => exact gd_pj he ih (by omega)
theorem gd_pn (he : ∀ p, n ≤ p → ch p = -1) : ∀ (k : Nat) (v : Int32) (p : Nat), p ≤ n → (∀ f, pn ch k v p = .inl f → f ≤ n) ∧ (∀ p' l, pn ch k v p = .inr (p', l) → p ≤ p' ∧ p' ≤ n ∧ ∃ x, l = [(110, x)]) := by
  intro k
  induction k with
  | zero =>
    intro v p hp
    unfold pn
    by_cases c : isD (ch p)
    · rw [if_pos c]
      exact ⟨fun f e => (by cases e; exact hp), fun p' l e => by cases e⟩
    · rw [if_neg c]
      exact ⟨fun f e => (by cases e), fun p' l e => by cases e; exact ⟨Nat.le_refl _, hp, v, rfl⟩⟩
  | succ k ih =>
    intro v p hp
    unfold pn
    by_cases c : isD (ch p)
    · rw [if_pos c]
      have hp2 : p < n := ch_lt he (fun q => by rw [q] at c; exact c.1 (by decide))
      obtain ⟨g1, g2⟩ := ih (v * 10 + ch p - 48) (p + 1) hp2
      exact ⟨g1, fun p' l e => by
        obtain ⟨a1, a2, a3⟩ := g2 p' l e
        exact ⟨by omega, a2, a3⟩⟩
    · rw [if_neg c]
      exact ⟨fun f e => (by cases e), fun p' l e => by cases e; exact ⟨Nat.le_refl _, hp, v, rfl⟩⟩
theorem gd_po (he : ∀ p, n ≤ p → ch p = -1) {b : Bool} {E O : Nat → qR} (gE : b = true → gd n E) (gO : b = true → gd n O) : gd n (po ch b E O) := by
  intro p hp
  unfold po
  by_cases c1 : isD (ch p)
  · rw [if_pos c1]
    have hp2 : p < n := ch_lt he (fun q => by rw [q] at c1; exact c1.1 (by decide))
    show (∀ f, pn ch (3 + 1) 0 p = _ → _) ∧ ∀ p' l, pn ch (3 + 1) 0 p = _ → _
    unfold pn
    rw [if_pos c1]
    obtain ⟨g1, g2⟩ := gd_pn he 3 (0 * 10 + ch p - 48) (p + 1) hp2
    refine ⟨g1, fun p' l e => ?_⟩
    obtain ⟨a1, a2, x, rfl⟩ := g2 p' l e
    exact ⟨by omega, a2, by rw [List.length_singleton]; omega, gx_num x⟩
  · rw [if_neg c1]
    by_cases c2 : nm (ch p)
    · rw [if_pos c2]
      have hp2 : p < n := ch_lt he (fun q => by rw [q] at c2; revert c2; decide)
      exact ⟨fun f e => (by cases e), fun p' l e => by cases e; exact ⟨by omega, hp2, by rw [List.length_singleton]; omega, gx_nm c2⟩⟩
    · rw [if_neg c2]
      by_cases c3 : ch p = 40 ∧ b = true
      · rw [if_pos c3]
        have hp2 : p < n := ch_lt he (fun q => by rw [q] at c3; exact absurd c3.1 (by decide))
        obtain ⟨g1, g2⟩ := gE c3.2 (p + 1) hp2
        cases eX : E (p + 1) with
        | inl f =>
          rw [rb_l]
          exact ⟨fun f' e => (by cases e; exact g1 f eX), fun p' l' e => by cases e⟩
        | inr q =>
          obtain ⟨p2, l2⟩ := q
          obtain ⟨a1, a2, a3, a4⟩ := g2 p2 l2 eX
          rw [rb_r]
          by_cases c4 : ch p2 = 41
          · rw [if_pos c4]
            have hp3 : p2 < n := ch_lt he (fun q => by rw [q] at c4; exact absurd c4 (by decide))
            exact ⟨fun f e => (by cases e), fun p' l e => by cases e; exact ⟨by omega, hp3, by omega, a4⟩⟩
          · rw [if_neg c4]
            exact ⟨fun f e => (by cases e; exact a2), fun p' l e => by cases e⟩
      · rw [if_neg c3]
        by_cases c4 : (ch p = 33 ∨ ch p = 45) ∧ b = true
        · rw [if_pos c4]
          have hp2 : p < n := ch_lt he (fun q => by rw [q] at c4; exact absurd c4.1 (by decide))
          obtain ⟨g1, g2⟩ := gO c4.2 (p + 1) hp2
          cases eX : O (p + 1) with
          | inl f =>
            rw [rb_l]
            exact ⟨fun f' e => (by cases e; exact g1 f eX), fun p' l' e => by cases e⟩
          | inr q =>
            obtain ⟨p2, l2⟩ := q
            obtain ⟨a1, a2, a3, a4⟩ := g2 p2 l2 eX
            rw [rb_r]
            refine ⟨fun f e => (by cases e), fun p' l e => ?_⟩
            cases e
            refine ⟨by omega, a2, by rw [List.length_append, List.length_singleton]; omega, ?_⟩
            by_cases c5 : ch p = 33
            · rw [if_pos c5]
              exact gx_not a4
            · rw [if_neg c5]
              exact gx_neg a4
        · rw [if_neg c4]
          exact ⟨fun f e => (by cases e; exact hp), fun p' l e => by cases e⟩
theorem gd_pv (he : ∀ p, n ≤ p → ch p = -1) : ∀ b, gd n (pv ch n b) := by
  intro b
  induction b with
  | zero => exact gd_po he (fun q => by cases q) (fun q => by cases q)
  | succ b ih => exact gd_po he (fun _ => gd_pk he ih 5) (fun _ => ih)
theorem gd_pe (he : ∀ p, n ≤ p → ch p = -1) : gd n (pe ch n) := gd_pk he (gd_pv he 6) 5
theorem gd_ne {l : List qS} (h : gx l) : ¬ l = [] := by
  rintro rfl
  obtain ⟨x, hx⟩ := h.2 (fun c => c)
  have := hx []
  cases this
end TEXT
