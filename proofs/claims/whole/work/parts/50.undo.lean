/-! PURE: changes laid, undone, redone -/
def ptr : Nat → Nat × Nat
  | 0 => (54, 0)
  | 1 => (54, 1)
  | 2 => (55, 0)
  | 3 => (55, 1)
  | 4 => (53, 3)
  | 5 => (53, 4)
  | _ => (53, 5)
theorem sev {j : Nat} (h : j < 7) : j = 0 ∨ j = 1 ∨ j = 2 ∨ j = 3 ∨ j = 4 ∨ j = 5 ∨ j = 6 := by omega
theorem ptr_inj : ∀ j, j < 7 → ∀ k, k < 7 → (ptr j = ptr k ↔ j = k) := by decide
theorem RA.all {h : mH} : RA h ↔ (∀ j, j < 7 → gi h 2 j = gi h (ptr j).1 (ptr j).2 ∧ okA j (gi h 2 j)) ∧ (gi h 2 5).toInt ≤ (gi h 2 6).toInt := by
  constructor
  · rintro ⟨⟨e0, e1, e2, e3, e4, e5, e6⟩, k0, k1, k2, k3, k4, k5, k6, le⟩
    refine ⟨fun j hj => ?_, le⟩
    rcases sev hj with rfl | rfl | rfl | rfl | rfl | rfl | rfl
    · exact ⟨e0, k0⟩
    · exact ⟨e1, k1⟩
    · exact ⟨e2, k2⟩
    · exact ⟨e3, k3⟩
    · exact ⟨e4, k4⟩
    · exact ⟨e5, k5⟩
    · exact ⟨e6, k6⟩
  · rintro ⟨w, le⟩
    exact ⟨⟨(w 0 (by decide)).1, (w 1 (by decide)).1, (w 2 (by decide)).1, (w 3 (by decide)).1, (w 4 (by decide)).1, (w 5 (by decide)).1, (w 6 (by decide)).1⟩, (w 0 (by decide)).2, (w 1 (by decide)).2, (w 2 (by decide)).2, (w 3 (by decide)).2, (w 4 (by decide)).2, (w 5 (by decide)).2, (w 6 (by decide)).2, le⟩
/-- an amount laid in both halves -/
theorem RA.lay {h hf : mH} (r : RA h) {k : Nat} (hk : k < 7) {x : Int32} (e2 : ∀ j, gi hf 2 j = if j = k then x else gi h 2 j) (ep : ∀ j, j < 7 → gi hf (ptr j).1 (ptr j).2 = if j = k then x else gi h (ptr j).1 (ptr j).2) (ok : okA k x) (le : (gi hf 2 5).toInt ≤ (gi hf 2 6).toInt) : RA hf := by
  obtain ⟨w, -⟩ := RA.all.mp r
  refine RA.all.mpr ⟨fun j hj => ?_, le⟩
  rw [ep j hj, e2 j]
  by_cases q : j = k
  · subst q
    rw [if_pos rfl, if_pos rfl]
    exact ⟨rfl, ok⟩
  · rw [if_neg q, if_neg q]
    exact w j hj
def layH (h : mH) (k : Nat) (x : Int32) : mH := si h (ptr k).1 (ptr k).2 x
theorem okP.k {p a b : Int32} (w : okP p a b) : ∃ k, k < 7 ∧ p = nI k ∧ ∀ (h : mH) (x : Int32) (Q : mH → Prop), Q (layH h k x) → w_X12_lays a b x h Q := by
  unfold w_X12_lays
  rcases w with ⟨rfl, rfl | rfl, rfl⟩ | ⟨rfl, rfl | rfl, rfl⟩ | ⟨rfl, rfl, rfl⟩ | ⟨rfl, rfl, rfl⟩ | ⟨rfl, rfl, rfl⟩
  · exact ⟨0, by decide, rfl, fun h x Q K => ⟨fun q => absurd rfl q, fun _ => ⟨vpd (by decide), fun h5 e5 => by subst e5; exact K⟩⟩⟩
  · exact ⟨1, by decide, rfl, fun h x Q K => ⟨fun q => absurd rfl q, fun _ => ⟨vpd (by decide), fun h5 e5 => by subst e5; exact K⟩⟩⟩
  · exact ⟨2, by decide, rfl, fun h x Q K => ⟨fun _ => ⟨fun q => absurd rfl q, fun _ => ⟨vpd (by decide), fun h5 e5 => by subst e5; exact K⟩⟩, fun q => absurd q (by decide)⟩⟩
  · exact ⟨3, by decide, rfl, fun h x Q K => ⟨fun _ => ⟨fun q => absurd rfl q, fun _ => ⟨vpd (by decide), fun h5 e5 => by subst e5; exact K⟩⟩, fun q => absurd q (by decide)⟩⟩
  · exact ⟨4, by decide, rfl, fun h x Q K => ⟨fun _ => ⟨fun _ => ⟨fun q => absurd rfl q, fun _ h5 e5 => by subst e5; exact K⟩, fun q => absurd q (by decide)⟩, fun q => absurd q (by decide)⟩⟩
  · exact ⟨5, by decide, rfl, fun h x Q K => ⟨fun _ => ⟨fun _ => ⟨fun _ => ⟨fun q => absurd rfl q, fun _ h5 e5 => by subst e5; exact K⟩, fun q => absurd q (by decide)⟩, fun q => absurd q (by decide)⟩, fun q => absurd q (by decide)⟩⟩
  · exact ⟨6, by decide, rfl, fun h x Q K => ⟨fun _ => ⟨fun _ => ⟨fun _ => ⟨fun _ h5 e5 => by subst e5; exact K, fun q => absurd q (by decide)⟩, fun q => absurd q (by decide)⟩, fun q => absurd q (by decide)⟩, fun q => absurd q (by decide)⟩⟩
abbrev clL : List Nat := [2, 54, 55]
abbrev clF : List (Nat × Nat) := [(25, 3), (53, 3), (53, 4), (53, 5), (53, 8), (53, 9)]
theorem cl_lay : ∀ k, k < 7 → cl clL clF (ptr k).1 (ptr k).2 = true := by decide
theorem ptr_no : ∀ k, k < 7 → (ptr k).1 = 54 ∨ (ptr k).1 = 55 ∨ ((ptr k).1 = 53 ∧ (ptr k).2 < 8) := by decide
theorem gi_lay {h : mH} {k : Nat} (hk : k < 7) {x : Int32} {o j : Nat} (ho : ¬ o = 54 ∧ ¬ o = 55 ∧ (o = 53 → 8 ≤ j)) : gi (layH h k x) o j = gi h o j := by
  unfold layH
  rw [gi_si, if_neg]
  rintro ⟨rfl, rfl⟩
  rcases ptr_no k hk with q | q | q
  · exact ho.1 q
  · exact ho.2.1 q
  · have := ho.2.2 q.1
    omega
theorem gi_ptr {h : mH} {k : Nat} (hk : k < 7) {x : Int32} {j : Nat} (hj : j < 7) : gi (layH h k x) (ptr j).1 (ptr j).2 = if j = k then x else gi h (ptr j).1 (ptr j).2 := by
  unfold layH
  rw [gi_si]
  by_cases q : j = k
  · subst q
    rw [if_pos ⟨rfl, rfl⟩, if_pos rfl]
  · rw [if_neg q, if_neg]
    rintro ⟨a, b⟩
    exact q ((ptr_inj j hj k hk).mp (Prod.ext a b))
/-- how the walk's ends go on from a change laid -/
theorem okC.wk {k : Nat} (hk : k < 7) {x y wa wb wa2 wb2 a5 a6 : Int32} (c : okC (nI k) x y wa wb wa2 wb2) : (wa2 = a5 → wb2 = a6 → wa = (if 5 = k then x else a5) ∧ wb = (if 6 = k then x else a6)) ∧ (wa = a5 → wb = a6 → wa2 = (if 5 = k then y else a5) ∧ wb2 = (if 6 = k then y else a6)) := by
  obtain ⟨-, -, c5, c6, cn⟩ := c
  have e5 : nI k = 5 ↔ k = 5 := nn k 5 (by omega) (by decide)
  have e6 : nI k = 6 ↔ k = 6 := nn k 6 (by omega) (by decide)
  rw [e5] at c5 cn
  rw [e6] at c6 cn
  by_cases q5 : k = 5
  · subst q5
    obtain ⟨rfl, rfl, rfl⟩ := c5 rfl
    exact ⟨fun h1 h2 => ⟨rfl, h2⟩, fun h1 h2 => ⟨rfl, h2⟩⟩
  · by_cases q6 : k = 6
    · subst q6
      obtain ⟨rfl, rfl, rfl⟩ := c6 rfl
      exact ⟨fun h1 h2 => ⟨h1, rfl⟩, fun h1 h2 => ⟨h1, rfl⟩⟩
    · obtain ⟨rfl, rfl⟩ := cn q5 q6
      rw [if_neg (fun z => q5 z.symm), if_neg (fun z => q6 z.symm), if_neg (fun z => q5 z.symm), if_neg (fun z => q6 z.symm)]
      exact ⟨fun h1 h2 => ⟨h1, h2⟩, fun h1 h2 => ⟨h1, h2⟩⟩
theorem J_undo {i : Nat} {h : mH} (r : Inv i h) : w_X11_undo h (fun v h1 => w_X12_undo h1 (fun w h2 => v = w ∧ Inv (i + 1) h2)) := by
  have u := r.up
  obtain ⟨d, n, wa, wb, hdn, c3, c8, c4, c9, wA, wB, wO, cs⟩ := r.2.2.2.2.2.2.1
  unfold w_X11_undo w_X1_undoIn w_X12_undo
  rw [c3]
  by_cases hd : d = 0
  · subst hd
    refine ⟨fun q => absurd q (by decide), fun _ => ?_⟩
    dsimp only
    rw [c8]
    exact ⟨fun q => absurd rfl q, fun _ => ⟨rfl, u⟩⟩
  · obtain ⟨d', rfl⟩ : ∃ d', d = d' + 1 := ⟨d - 1, by omega⟩
    obtain ⟨oP, e27, e28, oC⟩ := cs d' (by omega)
    obtain ⟨k, hk, ek, lay⟩ := oP.k
    refine ⟨fun _ h1 y1 => ?_, fun q => absurd ((nlt 0 (d' + 1) (by decide) (by omega)).mpr (by omega)) q⟩
    subst y1
    rw [nI_pred]
    have g25 : gi (si h 25 3 (nI d')) 25 3 = nI d' := by rw [gi_si, if_pos ⟨rfl, rfl⟩]
    have g26 : gi (si h 25 3 (nI d')) 26 d' = nI k := by rw [gi_si, if_neg (fun z => absurd z.1 (by decide))]; exact ek
    have g27 : gi (si h 25 3 (nI d')) 27 d' = gi h 27 d' := by rw [gi_si, if_neg (fun z => absurd z.1 (by decide))]
    rw [g25, nI_clamp (by omega), g26, g27, nI_clamp (by omega)]
    have v40 : vp_in (nI d') 40 := vp_nI (by omega) (by decide)
    refine ⟨v40, v40, vp_nI hk (by decide), fun h2 y2 => ?_⟩
    have f2 : Fr (cl clL clF) h h2 := by rw [y2]; exact ((Fr.rf _ h).si rfl).si rfl
    have t2 : ∀ j, gi h2 2 j = if j = k then gi h 27 d' else gi h 2 j := fun j => by
      rw [y2, gi_si]
      by_cases q : j = k
      · rw [if_pos ⟨rfl, q⟩, if_pos q]
      · rw [if_neg (fun z => q z.2), if_neg q, gi_si, if_neg (fun z => absurd z.1 (by decide))]
    have t53 : ∀ o j, ¬ o = 2 → ¬ o = 25 → gi h2 o j = gi h o j := fun o j h1 h3 => by
      rw [y2, gi_si, if_neg (fun z => h1 z.1), gi_si, if_neg (fun z => h3 z.1)]
    have t25 : gi h2 25 3 = nI d' ∧ gi h2 25 4 = gi h 25 4 := by
      rw [y2]
      exact ⟨rfl, rfl⟩
    clear y2
    dsimp only
    rw [t53 53 8 (by decide) (by decide), c8, t25.1]
    refine ⟨fun _ h3 y3 h4 y4 => ?_, fun q => absurd q (nI_ne0 (by omega) (by omega))⟩
    rw [nI_pred] at y3
    have t4 : ∀ o j, ¬ o = 53 → gi h4 o j = gi h2 o j := fun o j h1 => by
      rw [y4, gi_si, if_neg (fun z => h1 z.1), y3, gi_si, if_neg (fun z => h1 z.1)]
    have t4' : ∀ j, j < 8 → gi h4 53 j = gi h 53 j := fun j hj => by
      rw [y4, gi_si, if_neg (fun z => by omega), y3, gi_si, if_neg (fun z => by omega), t53 _ _ (by decide) (by decide)]
    have t48 : gi h4 53 8 = nI d' := by rw [y4, gi_si, if_neg (fun z => by omega), y3, gi_si, if_pos ⟨rfl, rfl⟩]
    have t49 : gi h4 53 9 = nI (n + 1) := by
      rw [y4, gi_si, if_pos ⟨rfl, rfl⟩, y3, gi_si, if_neg (fun z => by omega), t53 _ _ (by decide) (by decide), c9, nI_1]
    have f4 : Fr (cl clL clF) h h4 := by rw [y4, y3]; exact (f2.si rfl).si rfl
    clear y4 y3
    rw [t48, nI_clamp (by omega), t4 58 _ (by decide), t4 59 _ (by decide), t4 60 _ (by decide), t53 58 _ (by decide) (by decide), t53 59 _ (by decide) (by decide), t53 60 _ (by decide) (by decide), ← e27]
    refine ⟨v40, v40, v40, lay h4 _ _ ⟨?_, ?_⟩⟩
    · rw [gi_lay hk ⟨by decide, by decide, fun _ => by decide⟩, t48]
    · have f : Fr (cl clL clF) h (layH h4 k (gi h 27 d')) := f4.si (cl_lay k hk)
      have k2 : ∀ j, gi (layH h4 k (gi h 27 d')) 2 j = if j = k then gi h 27 d' else gi h 2 j := fun j => by rw [gi_lay hk ⟨by decide, by decide, fun q => absurd q (by decide)⟩, t4 2 _ (by decide), t2]
      have kp : ∀ j, j < 7 → gi (layH h4 k (gi h 27 d')) (ptr j).1 (ptr j).2 = if j = k then gi h 27 d' else gi h (ptr j).1 (ptr j).2 := fun j hj => by
        rw [gi_ptr hk hj]
        by_cases q : j = k
        · rw [if_pos q, if_pos q]
        · rw [if_neg q, if_neg q]
          rcases sev hj with rfl | rfl | rfl | rfl | rfl | rfl | rfl
          · exact (t4 54 0 (by decide)).trans (t53 54 0 (by decide) (by decide))
          · exact (t4 54 1 (by decide)).trans (t53 54 1 (by decide) (by decide))
          · exact (t4 55 0 (by decide)).trans (t53 55 0 (by decide) (by decide))
          · exact (t4 55 1 (by decide)).trans (t53 55 1 (by decide) (by decide))
          · exact t4' 3 (by decide)
          · exact t4' 4 (by decide)
          · exact t4' 5 (by decide)
      rw [ek] at oC
      have wk := (okC.wk hk (a5 := gi h 2 5) (a6 := gi h 2 6) oC).1 wA wB
      have w5 : wa d' = gi (layH h4 k (gi h 27 d')) 2 5 := by rw [k2]; exact wk.1
      have w6 : wb d' = gi (layH h4 k (gi h 27 d')) 2 6 := by rw [k2]; exact wk.2
      have oA : okA k (gi h 27 d') := by
        have := oC.1
        rw [nI_clamp (by omega)] at this
        exact this
      have rA : RA (layH h4 k (gi h 27 d')) := r.1.lay hk k2 kp oA (by rw [← w5, ← w6]; exact (wO d' (by omega)).2.1)
      have rC : RC (layH h4 k (gi h 27 d')) := by
        refine ⟨d', n + 1, wa, wb, by omega, ?_, ?_, ?_, ?_, w5, w6, fun j hj => wO j (by omega), fun j hj => ?_⟩
        · rw [gi_lay hk ⟨by decide, by decide, fun q => absurd q (by decide)⟩, t4 25 _ (by decide)]
          exact t25.1
        · rw [gi_lay hk ⟨by decide, by decide, fun _ => by decide⟩, t48]
        · rw [gi_lay hk ⟨by decide, by decide, fun q => absurd q (by decide)⟩, t4 25 _ (by decide), t25.2, c4, show d' + 1 + n = d' + (n + 1) by omega]
        · rw [gi_lay hk ⟨by decide, by decide, fun _ => by decide⟩, t49]
        · rw [f.i 26 j rfl, f.i 58 j rfl, f.i 59 j rfl, f.i 27 j rfl, f.i 60 j rfl, f.i 28 j rfl, f.i 61 j rfl]
          exact cs j (by omega)
      exact ⟨rA, (r.2.1.up (Nat.le_succ i)).ag (Fr.ag f rfl), r.2.2.1.ag (Fr.ag f rfl), r.2.2.2.1.ag (Fr.ag f rfl), r.2.2.2.2.1.ag (Fr.ag f rfl), r.2.2.2.2.2.1.ag (Fr.ag f rfl), rC, (r.2.2.2.2.2.2.2.1.up (Nat.le_succ i)).ag (Fr.ag f rfl), r.2.2.2.2.2.2.2.2.1.ag (Fr.ag f rfl), r.2.2.2.2.2.2.2.2.2.1.ag (Fr.ag f rfl), r.2.2.2.2.2.2.2.2.2.2.ag (Fr.ag f rfl)⟩
