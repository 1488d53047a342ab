/-! PURE: the whole relation -/
def RW (h : mH) : Prop := gi h 9 3 = gi h 53 36 ∧ (gi h 9 3 = 0 ∨ gi h 9 3 = 1) ∧ ((gi h 9 2 = nI 14 ∧ gi h 11 4 = nI 17 ∧ (gi h 9 3 = 1 → RP 13 h)) ∨ (gi h 9 2 = nI 17 ∧ gi h 11 4 = nI 14 ∧ (gi h 9 3 = 1 → RP 16 h)))
theorem RW.ag {h h1 : mH} (g : Ag [9, 13, 14, 15, 16, 17, 18, 70, 71, 72, 73, 74] [(11, 4), (53, 36)] h h1) (r : RW h) : RW h1 := by
  have e1 : gi h1 9 3 = gi h 9 3 := g.i 9 3 rfl
  have e2 : gi h1 9 2 = gi h 9 2 := g.i 9 2 rfl
  have e3 : gi h1 11 4 = gi h 11 4 := g.i 11 4 rfl
  have e4 : gi h1 53 36 = gi h 53 36 := g.i 53 36 rfl
  unfold RW at *
  rw [e1, e2, e3, e4]
  refine ⟨r.1, r.2.1, ?_⟩
  rcases r.2.2 with q | q
  · exact Or.inl ⟨q.1, q.2.1, fun z => (q.2.2 z).ag (Or.inl rfl) g⟩
  · exact Or.inr ⟨q.1, q.2.1, fun z => (q.2.2 z).ag (Or.inr rfl) g⟩
def Inv (i : Nat) (h : mH) : Prop := RA h ∧ RD i h ∧ RS h ∧ RG h ∧ RT h ∧ RW h ∧ RC h ∧ RI i h ∧ RB h ∧ RX h ∧ RH h
theorem Inv.up {i : Nat} {h : mH} (r : Inv i h) : Inv (i + 1) h := ⟨r.1, r.2.1.up (Nat.le_succ i), r.2.2.1, r.2.2.2.1, r.2.2.2.2.1, r.2.2.2.2.2.1, r.2.2.2.2.2.2.1, r.2.2.2.2.2.2.2.1.up (Nat.le_succ i), r.2.2.2.2.2.2.2.2⟩
/-- cells that nothing of the relation speaks of -/
abbrev scr : List Nat := [10, 20, 21, 22, 24, 75, 76, 77, 78, 89]
abbrev scf : List (Nat × Nat) := [(11, 2), (11, 3), (53, 38), (53, 40), (53, 25), (53, 26), (53, 27), (53, 28)]
theorem Inv.fr {i : Nat} {h h1 : mH} (f : Fr (cl scr scf) h h1) (r : Inv i h) : Inv i h1 :=
  ⟨r.1.ag (f.ag rfl), r.2.1.ag (f.ag rfl), r.2.2.1.ag (f.ag rfl), r.2.2.2.1.ag (f.ag rfl), r.2.2.2.2.1.ag (f.ag rfl), r.2.2.2.2.2.1.ag (f.ag rfl), r.2.2.2.2.2.2.1.ag (f.ag rfl), r.2.2.2.2.2.2.2.1.ag (f.ag rfl), r.2.2.2.2.2.2.2.2.1.ag (f.ag rfl), r.2.2.2.2.2.2.2.2.2.1.ag (f.ag rfl), r.2.2.2.2.2.2.2.2.2.2.ag (f.ag rfl)⟩
theorem b0 {p A B : Prop} (f : ¬ p → A) (g : p → B) : (bi p = 0 → A) ∧ (¬ bi p = 0 → B) := ⟨fun z => f (bi_z.mp z), fun z => g (Classical.byContradiction fun q => z (bi_z.mpr q))⟩
theorem b1 {p A B : Prop} (g : p → B) (f : ¬ p → A) : (¬ bi p = 0 → B) ∧ (bi p = 0 → A) := ⟨(b0 f g).2, (b0 f g).1⟩
theorem bT {A B : Prop} {p : Prop} (hp : p) (g : B) : (bi p = 0 → A) ∧ (¬ bi p = 0 → B) := b0 (fun q => absurd hp q) (fun _ => g)
theorem bF {A B : Prop} {p : Prop} (hp : ¬ p) (f : A) : (bi p = 0 → A) ∧ (¬ bi p = 0 → B) := b0 (fun _ => f) (fun q => absurd q hp)
-- the clocks, under the relation
def tim (h : mH) (c t : Int32) : Int32 := shw t (gi h 54 c.toNatClampNeg) (gi h 55 c.toNatClampNeg)
def prt (h : mH) (c t : Int32) : Int32 := ptf c (tim h c t)
theorem prt_in (h : mH) (c t : Int32) : inR (prt h c t) 0 59 := ptf_in _ _ _ _
theorem e_10_off {c : Int32} (hc : inR c 0 1) (h : mH) (Q : Int32 → mH → Prop) : w_X10_off c h Q ↔ Q (gi h 2 c.toNatClampNeg) h := by
  unfold w_X10_off
  rw [e_11_clock, bi_1 hc]
  rcases inR_01 hc with rfl | rfl
  · exact ⟨fun z => (z.2 (by decide)).2, fun z => ⟨fun q => absurd q (by decide), fun _ => ⟨vpd (by decide), z⟩⟩⟩
  · exact ⟨fun z => (z.2 (by decide)).2, fun z => ⟨fun q => absurd q (by decide), fun _ => ⟨vpd (by decide), z⟩⟩⟩
theorem e_10_gain {c : Int32} (hc : inR c 0 1) (h : mH) (Q : Int32 → mH → Prop) : w_X10_gain c h Q ↔ Q (gi h 2 (2 + c.toNatClampNeg)) h := by
  unfold w_X10_gain
  rw [e_11_clock, bi_1 hc]
  rcases inR_01 hc with rfl | rfl
  · exact ⟨fun z => (z.2 (by decide)).2, fun z => ⟨fun q => absurd q (by decide), fun _ => ⟨vpd (by decide), z⟩⟩⟩
  · exact ⟨fun z => (z.2 (by decide)).2, fun z => ⟨fun q => absurd q (by decide), fun _ => ⟨vpd (by decide), z⟩⟩⟩
theorem RA.off {h : mH} (r : RA h) {c : Int32} (hc : inR c 0 1) : gi h 2 c.toNatClampNeg = gi h 54 c.toNatClampNeg := by
  rcases inR_01 hc with rfl | rfl
  · exact r.1.1
  · exact r.1.2.1
theorem RA.gain {h : mH} (r : RA h) {c : Int32} (hc : inR c 0 1) : gi h 2 (2 + c.toNatClampNeg) = gi h 55 c.toNatClampNeg := by
  rcases inR_01 hc with rfl | rfl
  · exact r.1.2.2.1
  · exact r.1.2.2.2.1
theorem RA.err {h : mH} (r : RA h) : gi h 2 4 = gi h 53 3 := r.1.2.2.2.2.1
theorem e_10_time {h : mH} (r : RA h) {c : Int32} (hc : inR c 0 1) (t : Int32) (Q : Int32 → mH → Prop) : w_X10_timeAt c t h Q ↔ Q (tim h c t) h := by
  unfold w_X10_timeAt tim
  rw [e_10_off hc, e_10_gain hc, e_10_timeBy, r.off hc, r.gain hc]
theorem e_10_part {h : mH} (r : RA h) {c : Int32} (hc : inR c 0 1) (t : Int32) (Q : Int32 → mH → Prop) : w_X10_partAt c t h Q ↔ Q (prt h c t) h := by
  unfold w_X10_partAt prt
  rw [e_10_time r hc, e_10_partOf]
theorem vp_01 {c : Int32} (hc : inR c 0 1) : vp_in c 2 := by
  rcases inR_01 hc with rfl | rfl <;> exact vpd (by decide)
theorem e_12_show {c : Int32} (hc : inR c 0 1) (t : Int32) (h : mH) (Q : Int32 → mH → Prop) : w_X12_show c t h Q ↔ Q (tim h c t) h := by
  unfold w_X12_show tim
  rw [e_12_showBy]
  exact ⟨fun z => z.2.2, fun z => ⟨vp_01 hc, vp_01 hc, z⟩⟩
theorem e_12_part {c : Int32} (hc : inR c 0 1) (t : Int32) (h : mH) (Q : Int32 → mH → Prop) : w_X12_partAt c t h Q ↔ Q (prt h c t) h := by
  unfold w_X12_partAt prt
  rw [e_12_show hc, e_12_partOf]
theorem e_10_nearR {h : mH} (r : RA h) {p q : Int32} (hp : inR p 0 59) (hq : inR q 0 59) (Q : Int32 → mH → Prop) : w_X10_isNear p q h Q ↔ Q (bi (nr (gi h 53 3) p q)) h := by
  rw [e_10_near hp hq, r.err]
