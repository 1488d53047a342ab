/-! PURE: redo -/
theorem J_redo {i : Nat} {h : mH} (r : Inv i h) : w_X11_redo h (fun v h1 => w_X12_redo h1 (fun w h2 => v = w ∧ Inv (i + 1) h2)) := by
  have u := r.up
  obtain ⟨d, n, wa, wb, hdn, c3, c8, c4, c9, wA, wB, wO, cs⟩ := r.2.2.2.2.2.2.1
  unfold w_X11_redo w_X1_redoIn w_X12_redo
  rw [c3, c4, nlt _ _ (by omega) (by omega)]
  by_cases hn : n = 0
  · subst hn
    refine ⟨fun q => absurd q (by omega), fun _ => ?_⟩
    dsimp only
    rw [c9]
    exact ⟨fun q => absurd rfl q, fun _ => ⟨rfl, u⟩⟩
  · obtain ⟨n', rfl⟩ : ∃ n', n = n' + 1 := ⟨n - 1, by omega⟩
    obtain ⟨oP, e27, e28, oC⟩ := cs d (by omega)
    obtain ⟨k, hk, ek, lay⟩ := oP.k
    refine ⟨fun _ => ?_, fun q => absurd (by omega) q⟩
    rw [nI_clamp (by omega), ek, nI_clamp (by omega)]
    have v40 : vp_in (nI d) 40 := vp_nI (by omega) (by decide)
    refine ⟨v40, v40, vp_nI hk (by decide), fun h1 y1 h2 y2 => ?_⟩
    have f2 : Fr (cl clL clF) h h2 := by rw [y2, y1]; exact ((Fr.rf _ h).si rfl).si rfl
    have t2 : ∀ j, gi h2 2 j = if j = k then gi h 28 d else gi h 2 j := fun j => by
      rw [y2, gi_si, if_neg (fun z => absurd z.1 (by decide)), y1, gi_si]
      by_cases q : j = k
      · rw [if_pos ⟨rfl, q⟩, if_pos q]
      · rw [if_neg (fun z => q z.2), if_neg q]
    have t53 : ∀ o j, ¬ o = 2 → ¬ o = 25 → gi h2 o j = gi h o j := fun o j h1 h3 => by
      rw [y2, gi_si, if_neg (fun z => h3 z.1), y1, gi_si, if_neg (fun z => h1 z.1)]
    have t25 : gi h2 25 3 = nI (d + 1) ∧ gi h2 25 4 = nI (d + (n' + 1)) := by
      rw [y2, y1]
      refine ⟨?_, c4⟩
      rw [gi_si, if_pos ⟨rfl, rfl⟩, gi_si, if_neg (fun z => absurd z.1 (by decide)), c3, nI_1]
    clear y2 y1
    dsimp only
    rw [t25.1, t25.2, t53 53 8 (by decide) (by decide), t53 53 9 (by decide) (by decide), c8, c9, nI_clamp (by omega), t53 58 _ (by decide) (by decide), t53 59 _ (by decide) (by decide), t53 61 _ (by decide) (by decide), ← e28, pk_sub (by omega)]
    refine ⟨fun _ => ⟨v40, v40, v40, lay h2 _ _ (fun h3 y3 h4 y4 => ?_)⟩, fun q => absurd q (nI_ne0 (by omega) (by omega))⟩
    have g8 : gi (layH h2 k (gi h 28 d)) 53 8 = nI d := by rw [gi_lay hk ⟨by decide, by decide, fun _ => by decide⟩, t53 _ _ (by decide) (by decide), c8]
    have g9 : gi (layH h2 k (gi h 28 d)) 53 9 = nI (n' + 1) := by rw [gi_lay hk ⟨by decide, by decide, fun _ => by decide⟩, t53 _ _ (by decide) (by decide), c9]
    have f3 : Fr (cl clL clF) h (layH h2 k (gi h 28 d)) := f2.si (cl_lay k hk)
    have t4 : ∀ o j, ¬ o = 53 → gi h4 o j = gi (layH h2 k (gi h 28 d)) o j := fun o j h1 => by
      rw [y4, gi_si, if_neg (fun z => h1 z.1), y3, gi_si, if_neg (fun z => h1 z.1)]
    have t4' : ∀ j, j < 8 → gi h4 53 j = gi (layH h2 k (gi h 28 d)) 53 j := fun j hj => by
      rw [y4, gi_si, if_neg (fun z => by omega), y3, gi_si, if_neg (fun z => by omega)]
    have t48 : gi h4 53 8 = nI (d + 1) := by rw [y4, gi_si, if_neg (fun z => by omega), y3, gi_si, if_pos ⟨rfl, rfl⟩, g8, nI_1]
    have t49 : gi h4 53 9 = nI n' := by
      rw [y4, gi_si, if_pos ⟨rfl, rfl⟩, y3, gi_si, if_neg (fun z => by omega), g9, nI_pred]
    have f : Fr (cl clL clF) h h4 := by rw [y4, y3]; exact (f3.si rfl).si rfl
    clear y4 y3
    refine ⟨?_, ?_⟩
    · rw [t49]
      congr 1
      omega
    · have k2 : ∀ j, gi h4 2 j = if j = k then gi h 28 d else gi h 2 j := fun j => by rw [t4 2 _ (by decide), gi_lay hk ⟨by decide, by decide, fun q => absurd q (by decide)⟩, t2]
      have kp : ∀ j, j < 7 → gi h4 (ptr j).1 (ptr j).2 = if j = k then gi h 28 d else gi h (ptr j).1 (ptr j).2 := fun j hj => by
        have e : gi h4 (ptr j).1 (ptr j).2 = gi (layH h2 k (gi h 28 d)) (ptr j).1 (ptr j).2 := by
          rcases sev hj with rfl | rfl | rfl | rfl | rfl | rfl | rfl
          · exact t4 54 0 (by decide)
          · exact t4 54 1 (by decide)
          · exact t4 55 0 (by decide)
          · exact t4 55 1 (by decide)
          · exact t4' 3 (by decide)
          · exact t4' 4 (by decide)
          · exact t4' 5 (by decide)
        rw [e, gi_ptr hk hj]
        by_cases q : j = k
        · rw [if_pos q, if_pos q]
        · rw [if_neg q, if_neg q]
          rcases sev hj with rfl | rfl | rfl | rfl | rfl | rfl | rfl <;> exact t53 _ _ (by decide) (by decide)
      rw [ek] at oC
      have wk := (okC.wk hk (a5 := gi h 2 5) (a6 := gi h 2 6) oC).2 wA wB
      have w5 : wa (d + 1) = gi h4 2 5 := by rw [k2]; exact wk.1
      have w6 : wb (d + 1) = gi h4 2 6 := by rw [k2]; exact wk.2
      have oA : okA k (gi h 28 d) := by
        have := oC.2.1
        rw [nI_clamp (by omega)] at this
        exact this
      have rA : RA h4 := r.1.lay hk k2 kp oA (by rw [← w5, ← w6]; exact (wO (d + 1) (by omega)).2.1)
      have rC : RC h4 := by
        refine ⟨d + 1, n', wa, wb, by omega, ?_, t48, ?_, t49, w5, w6, fun j hj => wO j (by omega), fun j hj => ?_⟩
        · rw [t4 25 _ (by decide), gi_lay hk ⟨by decide, by decide, fun q => absurd q (by decide)⟩]
          exact t25.1
        · rw [t4 25 _ (by decide), gi_lay hk ⟨by decide, by decide, fun q => absurd q (by decide)⟩, t25.2, show d + (n' + 1) = d + 1 + n' by omega]
        · rw [f.i 26 j rfl, f.i 58 j rfl, f.i 59 j rfl, f.i 27 j rfl, f.i 60 j rfl, f.i 28 j rfl, f.i 61 j rfl]
          exact cs j (by omega)
      exact ⟨rA, (r.2.1.up (Nat.le_succ i)).ag (Fr.ag f rfl), r.2.2.1.ag (Fr.ag f rfl), r.2.2.2.1.ag (Fr.ag f rfl), r.2.2.2.2.1.ag (Fr.ag f rfl), r.2.2.2.2.2.1.ag (Fr.ag f rfl), rC, (r.2.2.2.2.2.2.2.1.up (Nat.le_succ i)).ag (Fr.ag f rfl), r.2.2.2.2.2.2.2.2.1.ag (Fr.ag f rfl), r.2.2.2.2.2.2.2.2.2.1.ag (Fr.ag f rfl), r.2.2.2.2.2.2.2.2.2.2.ag (Fr.ag f rfl)⟩
