/-! PURE: changes laid, undone, redone -/
def ptr : Nat → Nat × Nat
  | 0 => (54, 0)
  | 1 => (54, 1)
  | 2 => (55, 0)
  | 3 => (55, 1)
  | 4 => (53, 3)
  | 5 => (53, 4)
  | _ => (53, 5)
theorem sev {j : Nat} (h : j < 7) : j = 0 ∨ j = 1 ∨ j = 2 ∨ j = 3 ∨ j = 4 ∨ j = 5 ∨ j = 6 := by omega
theorem ptr_inj : ∀ j, j < 7 → ∀ k, k < 7 → (ptr j = ptr k ↔ j = k) := by decide
theorem RA.all {h : mH} : RA h ↔ (∀ j, j < 7 → gi h 2 j = gi h (ptr j).1 (ptr j).2 ∧ okA j (gi h 2 j)) ∧ (gi h 2 5).toInt ≤ (gi h 2 6).toInt := by
  constructor
  · rintro ⟨⟨e0, e1, e2, e3, e4, e5, e6⟩, k0, k1, k2, k3, k4, k5, k6, le⟩
    refine ⟨fun j hj => ?_, le⟩
    rcases sev hj with rfl | rfl | rfl | rfl | rfl | rfl | rfl
    · exact ⟨e0, k0⟩
    · exact ⟨e1, k1⟩
    · exact ⟨e2, k2⟩
    · exact ⟨e3, k3⟩
    · exact ⟨e4, k4⟩
    · exact ⟨e5, k5⟩
    · exact ⟨e6, k6⟩
  · rintro ⟨w, le⟩
    exact ⟨⟨(w 0 (by decide)).1, (w 1 (by decide)).1, (w 2 (by decide)).1, (w 3 (by decide)).1, (w 4 (by decide)).1, (w 5 (by decide)).1, (w 6 (by decide)).1⟩, (w 0 (by decide)).2, (w 1 (by decide)).2, (w 2 (by decide)).2, (w 3 (by decide)).2, (w 4 (by decide)).2, (w 5 (by decide)).2, (w 6 (by decide)).2, le⟩
/-- an amount laid in both halves -/
theorem RA.lay {h hf : mH} (r : RA h) {k : Nat} (hk : k < 7) {x : Int32} (e2 : ∀ j, gi hf 2 j = if j = k then x else gi h 2 j) (ep : ∀ j, j < 7 → gi hf (ptr j).1 (ptr j).2 = if j = k then x else gi h (ptr j).1 (ptr j).2) (ok : okA k x) (le : (gi hf 2 5).toInt ≤ (gi hf 2 6).toInt) : RA hf := by
  obtain ⟨w, -⟩ := RA.all.mp r
  refine RA.all.mpr ⟨fun j hj => ?_, le⟩
  rw [ep j hj, e2 j]
  by_cases q : j = k
  · subst q
    rw [if_pos rfl, if_pos rfl]
    exact ⟨rfl, ok⟩
  · rw [if_neg q, if_neg q]
    exact w j hj
def layH (h : mH) (k : Nat) (x : Int32) : mH := si h (ptr k).1 (ptr k).2 x
theorem okP.k {p a b : Int32} (w : okP p a b) : ∃ k, k < 7 ∧ p = nI k ∧ ∀ (h : mH) (x : Int32) (Q : mH → Prop), Q (layH h k x) → w_X12_lays a b x h Q := by
  unfold w_X12_lays
  rcases w with ⟨rfl, rfl | rfl, rfl⟩ | ⟨rfl, rfl | rfl, rfl⟩ | ⟨rfl, rfl, rfl⟩ | ⟨rfl, rfl, rfl⟩ | ⟨rfl, rfl, rfl⟩
  · exact ⟨0, by decide, rfl, fun h x Q K => ⟨fun q => absurd rfl q, fun _ => ⟨vpd (by decide), fun h5 e5 => by subst e5; exact K⟩⟩⟩
  · exact ⟨1, by decide, rfl, fun h x Q K => ⟨fun q => absurd rfl q, fun _ => ⟨vpd (by decide), fun h5 e5 => by subst e5; exact K⟩⟩⟩
  · exact ⟨2, by decide, rfl, fun h x Q K => ⟨fun _ => ⟨fun q => absurd rfl q, fun _ => ⟨vpd (by decide), fun h5 e5 => by subst e5; exact K⟩⟩, fun q => absurd q (by decide)⟩⟩
  · exact ⟨3, by decide, rfl, fun h x Q K => ⟨fun _ => ⟨fun q => absurd rfl q, fun _ => ⟨vpd (by decide), fun h5 e5 => by subst e5; exact K⟩⟩, fun q => absurd q (by decide)⟩⟩
  · exact ⟨4, by decide, rfl, fun h x Q K => ⟨fun _ => ⟨fun _ => ⟨fun q => absurd rfl q, fun _ h5 e5 => by subst e5; exact K⟩, fun q => absurd q (by decide)⟩, fun q => absurd q (by decide)⟩⟩
  · exact ⟨5, by decide, rfl, fun h x Q K => ⟨fun _ => ⟨fun _ => ⟨fun _ => ⟨fun q => absurd rfl q, fun _ h5 e5 => by subst e5; exact K⟩, fun q => absurd q (by decide)⟩, fun q => absurd q (by decide)⟩, fun q => absurd q (by decide)⟩⟩
  · exact ⟨6, by decide, rfl, fun h x Q K => ⟨fun _ => ⟨fun _ => ⟨fun _ => ⟨fun _ h5 e5 => by subst e5; exact K, fun q => absurd q (by decide)⟩, fun q => absurd q (by decide)⟩, fun q => absurd q (by decide)⟩, fun q => absurd q (by decide)⟩⟩
