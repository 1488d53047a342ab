/-! PURE: a law as lines of steps; what a line gives -/
abbrev qS : Type := Int32 × Int32
abbrev qL : Type := List qS × List qS
abbrev nm (c : Int32) : Prop := c = 116 ∨ c = 104 ∨ c = 109 ∨ c = 115 ∨ c = 101
abbrev bsn (c : Int32) : Prop := c = 124 ∨ c = 38 ∨ c = 60 ∨ c = 61 ∨ c = 62 ∨ c = 43 ∨ c = 45 ∨ c = 42 ∨ c = 47 ∨ c = 37
def fct (t s e c : Int32) : Int32 := if c = 116 then t else if c = 104 then t / 60 else if c = 109 then irm t 60 else if c = 115 then s else e
def nix (c : Int32) : Nat := if c = 116 then 0 else if c = 104 then 1 else if c = 109 then 2 else if c = 115 then 3 else 4
def two (c a b : Int32) : Int32 :=
  if c = 124 then (if a = 0 then (if b = 0 then 0 else 1) else 1)
  else if c = 38 then (if a = 0 then 0 else if b = 0 then 0 else 1)
  else if c = 60 then (if b ≤ a then 0 else 1)
  else if c = 61 then (if a = b then 1 else 0)
  else if c = 62 then (if a ≤ b then 0 else 1)
  else if c = 43 then a + b else if c = 45 then a - b else if c = 42 then a * b
  else if c = 47 then (if b = 0 then 0 else a / b) else (if b = 0 then 0 else irm a b)
/-- one step over a pile, its top first -/
def ev1 (F : Int32 → Int32) (q : qS) (s : List Int32) : Option (List Int32) :=
  if nm q.1 then some (F q.1 :: s) else if q.1 = 110 then some (q.2 :: s) else
  match s with
  | [] => none
  | b :: s1 => if q.1 = 33 then some ((if b = 0 then 1 else 0) :: s1) else if q.1 = 126 then some (-b :: s1) else
    match s1 with
    | [] => none
    | a :: s2 => some (two q.1 a b :: s2)
def evs (F : Int32 → Int32) : List qS → List Int32 → Option (List Int32)
  | [], s => some s
  | q :: l, s => (ev1 F q s).bind (evs F l)
theorem evs_app (F : Int32 → Int32) : ∀ (l l' : List qS) (s : List Int32), evs F (l ++ l') s = (evs F l s).bind (evs F l') := by
  intro l
  induction l with
  | nil => intro l' s; rfl
  | cons q l ih =>
    intro l' s
    show (ev1 F q s).bind (evs F (l ++ l')) = ((ev1 F q s).bind (evs F l)).bind (evs F l')
    cases ev1 F q s with
    | none => rfl
    | some x => exact ih l' x
def okq (c : Int32) : Prop := nm c ∨ c = 110 ∨ c = 33 ∨ c = 126 ∨ bsn c
/-- a whole expression: known steps, that lay one number onto any pile -/
def gx (l : List qS) : Prop := (∀ q ∈ l, okq q.1) ∧ ∀ F, ∃ x, ∀ s, evs F l s = some (x :: s)
theorem gx_num (x : Int32) : gx [(110, x)] := ⟨fun q hq => by
  rw [List.mem_singleton.mp hq]
  exact Or.inr (Or.inl rfl), fun F => ⟨x, fun s => rfl⟩⟩
theorem gx_nm {c : Int32} (h : nm c) : gx [(c, 0)] := ⟨fun q hq => by
  rw [List.mem_singleton.mp hq]
  exact Or.inl h, fun F => ⟨F c, fun s => by
    show (ev1 F (c, 0) s).bind (evs F []) = _
    unfold ev1
    rw [if_pos h]
    rfl⟩⟩
theorem gx_not {l : List qS} (h : gx l) : gx (l ++ [(33, 0)]) := ⟨fun q hq => by
  rcases List.mem_append.mp hq with a | a
  · exact h.1 q a
  · rw [List.mem_singleton.mp a]
    exact Or.inr (Or.inr (Or.inl rfl)), fun F => by
  obtain ⟨x, hx⟩ := h.2 F
  refine ⟨if x = 0 then 1 else 0, fun s => ?_⟩
  rw [evs_app, hx]
  rfl⟩
theorem gx_neg {l : List qS} (h : gx l) : gx (l ++ [(126, 0)]) := ⟨fun q hq => by
  rcases List.mem_append.mp hq with a | a
  · exact h.1 q a
  · rw [List.mem_singleton.mp a]
    exact Or.inr (Or.inr (Or.inr (Or.inl rfl))), fun F => by
  obtain ⟨x, hx⟩ := h.2 F
  refine ⟨-x, fun s => ?_⟩
  rw [evs_app, hx]
  rfl⟩
theorem bsn_ne {c : Int32} (h : bsn c) : ¬ nm c ∧ ¬ c = 110 ∧ ¬ c = 33 ∧ ¬ c = 126 ∧ ¬ c = 59 ∧ ¬ c = 63 := by
  rcases h with h | h | h | h | h | h | h | h | h | h <;> subst h <;> decide
theorem ev1_two {F : Int32 → Int32} {c a b z : Int32} {s : List Int32} (h : bsn c) : ev1 F (c, z) (b :: a :: s) = some (two c a b :: s) := by
  obtain ⟨h1, h2, h3, h4, -, -⟩ := bsn_ne h
  unfold ev1
  rw [if_neg h1, if_neg h2]
  show (if c = 33 then _ else if c = 126 then _ else _) = _
  rw [if_neg h3, if_neg h4]
theorem gx_two {l l' : List qS} {c : Int32} (h : gx l) (h' : gx l') (hc : bsn c) : gx (l ++ l' ++ [(c, 0)]) := ⟨fun q hq => by
  rcases List.mem_append.mp hq with a | a
  · rcases List.mem_append.mp a with b | b
    · exact h.1 q b
    · exact h'.1 q b
  · rw [List.mem_singleton.mp a]
    exact Or.inr (Or.inr (Or.inr (Or.inr hc))), fun F => by
  obtain ⟨x, hx⟩ := h.2 F
  obtain ⟨y, hy⟩ := h'.2 F
  refine ⟨two c x y, fun s => ?_⟩
  rw [evs_app, evs_app, hx]
  show (evs F l' (x :: s)).bind (evs F [(c, 0)]) = _
  rw [hy]
  show (ev1 F (c, 0) (y :: x :: s)).bind (evs F []) = _
  rw [ev1_two hc]
  rfl⟩
/-- a step as the reference writes it -/
def rcq (q : qS) : qS := if nm q.1 then (2, nI (nix q.1)) else if q.1 = 110 then (1, q.2) else if q.1 = 33 then (3, 0) else if q.1 = 126 then (4, 0) else (q.1, 0)
-- lines, one behind the other: as the class and as the reference write them
def tq : List qS → List qS
  | [] => []
  | a :: t => (a :: t) ++ [(63, 0)]
def fl : List qL → List qS
  | [] => []
  | x :: r => tq x.1 ++ (x.2 ++ (59, 0) :: fl r)
def fr : List qL → List qS
  | [] => []
  | x :: r => x.1 ++ (x.2 ++ fr r)
def ly (f g : Nat → Int32) : Nat → List qS → Prop
  | _, [] => True
  | k, q :: l => (f k = q.1 ∧ g k = q.2) ∧ ly f g (k + 1) l
def le_ (f g : Nat → Int32) : Nat → Nat → List qL → Prop
  | _, _, [] => True
  | k, a, x :: r => (f k = nI (a + x.1.length) ∧ g k = nI (a + x.1.length + x.2.length)) ∧ le_ f g (k + 1) (a + x.1.length + x.2.length) r
theorem fl_app : ∀ (L L' : List qL), fl (L ++ L') = fl L ++ fl L' := by
  intro L
  induction L with
  | nil => intro L'; rfl
  | cons x r ih =>
    intro L'
    show tq x.1 ++ (x.2 ++ (59, 0) :: fl (r ++ L')) = (tq x.1 ++ (x.2 ++ (59, 0) :: fl r)) ++ fl L'
    rw [ih]
    simp
theorem fr_app : ∀ (L L' : List qL), fr (L ++ L') = fr L ++ fr L' := by
  intro L
  induction L with
  | nil => intro L'; rfl
  | cons x r ih =>
    intro L'
    show x.1 ++ (x.2 ++ fr (r ++ L')) = (x.1 ++ (x.2 ++ fr r)) ++ fr L'
    rw [ih]
    simp
theorem ly_app {f g : Nat → Int32} : ∀ (l l' : List qS) (k : Nat), ly f g k (l ++ l') ↔ ly f g k l ∧ ly f g (k + l.length) l' := by
  intro l
  induction l with
  | nil => intro l' k; exact ⟨fun h => ⟨trivial, h⟩, fun h => h.2⟩
  | cons q l ih =>
    intro l' k
    have e : k + (q :: l).length = k + 1 + l.length := by rw [List.length_cons]; omega
    rw [e]
    exact ⟨fun h => ⟨⟨h.1, ((ih l' (k + 1)).mp h.2).1⟩, ((ih l' (k + 1)).mp h.2).2⟩, fun h => ⟨h.1.1, (ih l' (k + 1)).mpr ⟨h.1.2, h.2⟩⟩⟩
theorem ly_co {f g f' g' : Nat → Int32} : ∀ (l : List qS) (k : Nat), (∀ j, k ≤ j → j < k + l.length → f' j = f j ∧ g' j = g j) → ly f g k l → ly f' g' k l := by
  intro l
  induction l with
  | nil => intro k _ _; trivial
  | cons q l ih =>
    intro k h a
    rw [List.length_cons] at h
    have h0 := h k (Nat.le_refl _) (by omega)
    exact ⟨⟨h0.1.trans a.1.1, h0.2.trans a.1.2⟩, ih (k + 1) (fun j h1 h2 => h j (by omega) (by omega)) a.2⟩
theorem ly_at {f g : Nat → Int32} : ∀ (l : List qS) (k j : Nat) (q : qS), l[j]? = some q → ly f g k l → f (k + j) = q.1 ∧ g (k + j) = q.2 := by
  intro l
  induction l with
  | nil => intro k j q h _; cases h
  | cons x l ih =>
    intro k j q h a
    cases j with
    | zero => cases h; exact a.1
    | succ j =>
      have := ih (k + 1) j q h a.2
      rw [show k + (j + 1) = k + 1 + j by omega]
      exact this
theorem le_app {f g : Nat → Int32} : ∀ (L L' : List qL) (k a : Nat), le_ f g k a (L ++ L') ↔ le_ f g k a L ∧ le_ f g (k + L.length) (a + (fr L).length) L' := by
  intro L
  induction L with
  | nil => intro L' k a; exact ⟨fun h => ⟨trivial, h⟩, fun h => h.2⟩
  | cons x r ih =>
    intro L' k a
    have e : k + (x :: r).length = k + 1 + r.length := by rw [List.length_cons]; omega
    have e2 : a + (fr (x :: r)).length = a + x.1.length + x.2.length + (fr r).length := by
      show a + (x.1 ++ (x.2 ++ fr r)).length = _
      rw [List.length_append, List.length_append]
      omega
    rw [e, e2]
    exact ⟨fun h => ⟨⟨h.1, ((ih L' _ _).mp h.2).1⟩, ((ih L' _ _).mp h.2).2⟩, fun h => ⟨h.1.1, (ih L' _ _).mpr ⟨h.1.2, h.2⟩⟩⟩
theorem le_co {f g f' g' : Nat → Int32} : ∀ (L : List qL) (k a : Nat), (∀ j, k ≤ j → j < k + L.length → f' j = f j ∧ g' j = g j) → le_ f g k a L → le_ f' g' k a L := by
  intro L
  induction L with
  | nil => intro k a _ _; trivial
  | cons x r ih =>
    intro k a h b
    rw [List.length_cons] at h
    have h0 := h k (Nat.le_refl _) (by omega)
    exact ⟨⟨h0.1.trans b.1.1, h0.2.trans b.1.2⟩, ih (k + 1) _ (fun j h1 h2 => h j (by omega) (by omega)) b.2⟩
/-- the law that stands: program v of the class, place 0 of the reference -/
def RP (v : Nat) (h : mH) : Prop := ∃ L : List qL, (∀ x ∈ L, gx x.2 ∧ (x.1 = [] ∨ gx x.1)) ∧ (fl L).length ≤ 121 ∧ L.length ≤ 61 ∧ gi h v 2 = nI (fl L).length ∧ ly (gi h (v + 1)) (gi h (v + 2)) 0 (fl L) ∧
  gi h 72 0 = nI L.length ∧ ly (gi h 70) (gi h 71) 0 ((fr L).map rcq) ∧ le_ (gi h 73) (gi h 74) 0 0 L
theorem RP.ag {v : Nat} {h h1 : mH} (hv : v = 13 ∨ v = 16) (g : Ag [9, 13, 14, 15, 16, 17, 18, 70, 71, 72, 73, 74] [(11, 4), (53, 36)] h h1) (r : RP v h) : RP v h1 := by
  have x70 : gi h1 70 = gi h 70 := funext fun k => g.i 70 k rfl
  have x71 : gi h1 71 = gi h 71 := funext fun k => g.i 71 k rfl
  have x72 : gi h1 72 = gi h 72 := funext fun k => g.i 72 k rfl
  have x73 : gi h1 73 = gi h 73 := funext fun k => g.i 73 k rfl
  have x74 : gi h1 74 = gi h 74 := funext fun k => g.i 74 k rfl
  have xv : gi h1 v = gi h v ∧ gi h1 (v + 1) = gi h (v + 1) ∧ gi h1 (v + 2) = gi h (v + 2) := by
    rcases hv with rfl | rfl
    · exact ⟨funext fun k => g.i 13 k rfl, funext fun k => g.i 14 k rfl, funext fun k => g.i 15 k rfl⟩
    · exact ⟨funext fun k => g.i 16 k rfl, funext fun k => g.i 17 k rfl, funext fun k => g.i 18 k rfl⟩
  unfold RP at *
  rw [x70, x71, x72, x73, x74, xv.1, xv.2.1, xv.2.2]
  exact r
