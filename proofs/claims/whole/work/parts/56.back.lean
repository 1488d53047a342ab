/-! PURE: image and back, both halves -/
theorem J_image {i : Nat} {h : mH} (r : Inv i h) : w_X11_image h (fun v h1 => w_X12_image h1 (fun w h2 => v = w ∧ Inv (i + 1) h2)) := by
  have u := r.up
  obtain ⟨k8, k4, n, hn, c1, d1, e1⟩ := r.2.2.1
  obtain ⟨g10, g3, m, hm, c2, d2, e2⟩ := r.2.2.2.1
  obtain ⟨ia, i8, i4, i10, i3, -, -⟩ := r.2.2.2.2.2.2.2.1
  unfold w_X11_image
  intro h1 y1
  have f1 : Fr (cl [31, 33, 34, 35, 36] [(29, 5), (30, 3), (32, 3)]) h h1 := by rw [y1]; exact (Fr.rf _ h).si rfl
  have a1 : gi h1 29 5 = 1 := by rw [y1, gi_si, if_pos ⟨rfl, rfl⟩]
  clear y1
  refine p_become (ra := 31) (rb := 6) (n := 32) rfl rfl rfl rfl (by decide) (by decide) (fun h2 y2 => ?_)
  have f2 : Fr (cl [31, 33, 34, 35, 36] [(29, 5), (30, 3), (32, 3)]) h h2 := by rw [y2]; exact (f1.cpi (fun _ => rfl)).si rfl
  have a2 : gi h2 29 5 = 1 := by rw [y2, gi_si, if_neg (by omega), gi_cpi, if_neg (by omega), a1]
  have b2 : gi h2 30 3 = nI n := by rw [y2, gi_si, if_pos ⟨rfl, rfl⟩, f1.i 5 3 rfl, c1]
  have s2 : ∀ j, j < 32 → gi h2 31 j = gi h 6 j := fun j hj => by rw [y2, gi_si, if_neg (by omega), gi_cpi, if_pos ⟨rfl, by omega, by omega⟩, f1.i 6 _ rfl, Nat.zero_add, Nat.sub_zero]
  clear y2
  refine p_become (ra := 33) (rb := 8) (n := 30) rfl rfl rfl rfl (by decide) (by decide) (fun h3 y3 => ?_)
  have f3 : Fr (cl [31, 33, 34, 35, 36] [(29, 5), (30, 3), (32, 3)]) h h3 := by rw [y3]; exact (f2.cpi (fun _ => rfl)).si rfl
  have a3 : gi h3 29 5 = 1 := by rw [y3, gi_si, if_neg (by omega), gi_cpi, if_neg (by omega), a2]
  have b3 : gi h3 30 3 = nI n := by rw [y3, gi_si, if_neg (by omega), gi_cpi, if_neg (by omega), b2]
  have s3 : ∀ j, j < 32 → gi h3 31 j = gi h 6 j := fun j hj => by rw [y3, gi_si, if_neg (by omega), gi_cpi, if_neg (by omega), s2 j hj]
  have b3' : gi h3 32 3 = nI m := by rw [y3, gi_si, if_pos ⟨rfl, rfl⟩, f2.i 7 3 rfl, c2]
  have s3' : ∀ j, j < 30 → gi h3 33 j = gi h 8 j := fun j hj => by rw [y3, gi_si, if_neg (by omega), gi_cpi, if_pos ⟨rfl, by omega, by omega⟩, f2.i 8 _ rfl, Nat.zero_add, Nat.sub_zero]
  clear y3
  refine p_im11 (fun h4 f4 w4 => ?_)
  have F4 : Fr (cl [31, 33, 34, 35, 36] [(29, 5), (30, 3), (32, 3)]) h h4 := f3.tr (f4.up rfl)
  unfold w_X12_image
  intro g1 y1 g2 y2 g3' y3
  have e1' : gi g1 53 14 = nI n := by rw [y1, gi_si, if_neg (by omega), F4.i 53 14 rfl, d1]
  have e2' : gi g2 53 19 = nI m := by rw [y2, gi_si, if_neg (by omega), y1, gi_si, if_neg (by omega), F4.i 53 19 rfl, d2]
  rw [e1'] at y2
  rw [e2'] at y3
  have F5 : Fr (cl [31, 33, 34, 35, 36, 79, 80, 81, 82, 83] [(29, 5), (30, 3), (32, 3), (53, 41), (53, 42), (53, 43)]) h g3' := by rw [y3, y2, y1]; exact (((F4.up rfl).si rfl).si rfl).si rfl
  have q5 : gi g3' 53 41 = 1 ∧ gi g3' 53 42 = nI n ∧ gi g3' 53 43 = nI m := by
    rw [y3, y2, y1]
    exact ⟨rfl, rfl, rfl⟩
  have o5 : ∀ o j, ¬ o = 53 → gi g3' o j = gi h4 o j := fun o j ho => by rw [y3, gi_si, if_neg (fun z => ho z.1), y2, gi_si, if_neg (fun z => ho z.1), y1, gi_si, if_neg (fun z => ho z.1)]
  clear y3 y2 y1
  refine p_im12 (fun h6 f6 w6 => ?_)
  have F6 : Fr (cl [31, 33, 34, 35, 36, 79, 80, 81, 82, 83] [(29, 5), (30, 3), (32, 3), (53, 41), (53, 42), (53, 43)]) h h6 := F5.tr (f6.up rfl)
  refine p_im12s (N := n) (by rw [F6.i 53 14 rfl, d1]) hn (fun h7 f7 w7 => ?_)
  have F7 : Fr (cl [31, 33, 34, 35, 36, 79, 80, 81, 82, 83] [(29, 5), (30, 3), (32, 3), (53, 41), (53, 42), (53, 43)]) h h7 := F6.tr (f7.up rfl)
  refine p_im12g (N := m) (by rw [F7.i 53 19 rfl, d2]) hm (fun h8 f8 w8 => ?_)
  have F8 : Fr (cl [31, 33, 34, 35, 36, 79, 80, 81, 82, 83] [(29, 5), (30, 3), (32, 3), (53, 41), (53, 42), (53, 43)]) h h8 := F7.tr (f8.up rfl)
  have z53 : ∀ j, gi h8 53 j = gi g3' 53 j := fun j => by rw [f8.i 53 j rfl, f7.i 53 j rfl, f6.i 53 j rfl]
  have zc : ∀ o j, o = 29 ∨ o = 30 ∨ o = 31 ∨ o = 32 ∨ o = 33 ∨ o = 34 ∨ o = 35 ∨ o = 36 → gi h8 o j = gi h4 o j := fun o j q => by
    rcases q with rfl | rfl | rfl | rfl | rfl | rfl | rfl | rfl <;> exact (f8.i _ _ rfl).trans ((f7.i _ _ rfl).trans ((f6.i _ _ rfl).trans (o5 _ _ (by decide))))
  have zd : ∀ o j, o = 29 ∨ o = 30 ∨ o = 31 ∨ o = 32 ∨ o = 33 → gi h8 o j = gi h3 o j := fun o j q => by
    rcases q with rfl | rfl | rfl | rfl | rfl <;> exact (zc _ _ (by decide)).trans (f4.i _ _ rfl)
  have z30 : ∀ j, ¬ j = 3 → gi h8 30 j = gi h 30 j := fun j hj => F8.i 30 j (by unfold cl; simp; omega)
  have z32 : ∀ j, ¬ j = 3 → gi h8 32 j = gi h 32 j := fun j hj => F8.i 32 j (by unfold cl; simp; omega)
  have z79 : ∀ o j, o = 79 ∨ o = 80 ∨ o = 81 → gi h8 o j = gi h6 o j := fun o j q => by
    rcases q with rfl | rfl | rfl <;> exact (f8.i _ _ rfl).trans (f7.i _ _ rfl)
  have z82 : ∀ j, gi h8 82 j = gi h7 82 j := fun j => f8.i 82 j rfl
  have z6 : ∀ o j, o = 54 ∨ o = 56 ∨ o = 57 → gi g3' o j = gi h o j := fun o j q => by
    rcases q with rfl | rfl | rfl <;> exact F5.i _ _ rfl
  refine ⟨by rw [F4.i 5 3 rfl, F8.i 53 14 rfl, c1, d1], ?_⟩
  have k4 : ∀ o j, o = 2 ∨ o = 3 ∨ o = 4 → gi h3 o j = gi h o j := fun o j q => by
    rcases q with rfl | rfl | rfl <;> exact f3.i _ _ rfl
  have rI : RI (i + 1) h8 := by
    refine ⟨?_, ?_, ?_, ?_, ?_, Or.inr ?_, fun _ => ⟨⟨n, hn, ?_, ?_, fun j hj => ?_⟩, ⟨m, hm, ?_, ?_, fun j hj => ?_⟩, ⟨?_, ?_, ?_, ?_⟩, ?_, ?_⟩⟩
    · rw [zd 29 5 (by decide), a3, z53, q5.1]
    · rw [z30 0 (by decide), i8]
    · rw [z30 1 (by decide), i4]
    · rw [z32 0 (by decide), i10]
    · rw [z32 1 (by decide), i3]
    · rw [zd 29 5 (by decide), a3]
    · rw [zd 30 3 (by decide), b3]
    · rw [z53, q5.2.1]
    · obtain ⟨x1, x2, x3, x4, x5⟩ := e1 j hj
      obtain ⟨v1, v2, v3, v4⟩ := w7 j hj
      rw [zd 31 _ (by decide), zd 31 _ (by decide), zd 31 _ (by decide), zd 31 _ (by decide), z82, z82, z82, z82, v1, v2, v3, v4, s3 _ (by omega), s3 _ (by omega), s3 _ (by omega), s3 _ (by omega), F6.i 62 j rfl, F6.i 63 j rfl, F6.i 64 j rfl, F6.i 65 j rfl]
      exact ⟨x1, x2, x3, x4, x5⟩
    · rw [zd 32 3 (by decide), b3']
    · rw [z53, q5.2.2]
    · obtain ⟨x1, x2, x3, x5⟩ := e2 j hj
      obtain ⟨v1, v2, v3⟩ := w8 j hj
      rw [zd 33 _ (by decide), zd 33 _ (by decide), zd 33 _ (by decide), v1, v2, v3, s3' _ (by omega), s3' _ (by omega), s3' _ (by omega), F7.i 66 j rfl, F7.i 67 j rfl, F7.i 68 j rfl]
      exact ⟨x1, x2, x3, x5⟩
    · rw [zc 34 0 (by decide), (w4 0 (by decide)).1, k4 2 0 (by decide), z79 79 0 (by decide), (w6 0 (by decide)).1, z6 54 0 (by decide)]
      exact r.1.1.1
    · rw [zc 34 1 (by decide), (w4 1 (by decide)).1, k4 2 1 (by decide), z79 79 1 (by decide), (w6 1 (by decide)).1, z6 54 1 (by decide)]
      exact r.1.1.2.1
    · rw [zc 34 0 (by decide), (w4 0 (by decide)).1, k4 2 0 (by decide)]
      exact r.1.2.1
    · rw [zc 34 1 (by decide), (w4 1 (by decide)).1, k4 2 1 (by decide)]
      exact r.1.2.2.1
    · rw [zc 35 0 (by decide), (w4 0 (by decide)).2.1, k4 3 0 (by decide), zc 36 0 (by decide), (w4 0 (by decide)).2.2, k4 4 0 (by decide), z79 81 0 (by decide), (w6 0 (by decide)).2.2, z6 57 0 (by decide), z79 80 0 (by decide), (w6 0 (by decide)).2.1, z6 56 0 (by decide)]
      exact u.2.1.1
    · rw [zc 35 1 (by decide), (w4 1 (by decide)).2.1, k4 3 1 (by decide), zc 36 1 (by decide), (w4 1 (by decide)).2.2, k4 4 1 (by decide), z79 81 1 (by decide), (w6 1 (by decide)).2.2, z6 57 1 (by decide), z79 80 1 (by decide), (w6 1 (by decide)).2.1, z6 56 1 (by decide)]
      exact u.2.1.2
  exact ⟨r.1.ag (Fr.ag F8 rfl), (r.2.1.up (Nat.le_succ i)).ag (Fr.ag F8 rfl), r.2.2.1.ag (Fr.ag F8 rfl), r.2.2.2.1.ag (Fr.ag F8 rfl), r.2.2.2.2.1.ag (Fr.ag F8 rfl), r.2.2.2.2.2.1.ag (Fr.ag F8 rfl), r.2.2.2.2.2.2.1.ag (Fr.ag F8 rfl), rI, r.2.2.2.2.2.2.2.2.1.ag (Fr.ag F8 rfl), r.2.2.2.2.2.2.2.2.2.1.ag (Fr.ag F8 rfl), r.2.2.2.2.2.2.2.2.2.2.ag (Fr.ag F8 rfl)⟩
theorem J_back {i : Nat} {h : mH} (r : Inv i h) : w_X11_back h (fun v h1 => w_X12_back h1 (fun w h2 => v = w ∧ Inv (i + 1) h2)) := by
  have u := r.up
  obtain ⟨k8, k4, -⟩ := r.2.2.1
  obtain ⟨g10, g3, -⟩ := r.2.2.2.1
  obtain ⟨ia, i8, i4, i10, i3, i01, rest⟩ := r.2.2.2.2.2.2.2.1
  unfold w_X11_back w_X12_back
  refine ⟨fun q => ?_, fun q => ?_⟩
  · obtain ⟨⟨n, hn, c1, d1, e1⟩, ⟨m, hm, c2, d2, e2⟩, ⟨o0, o1, ok0, ok1⟩, l0, l1⟩ := rest q
    refine p_become (ra := 6) (rb := 31) (n := 32) rfl rfl rfl rfl (by decide) (by decide) (fun h2 y2 => ?_)
    have f2 : Fr (cl [3, 4, 6, 8] [(2, 0), (2, 1), (5, 3), (7, 3)]) h h2 := by rw [y2]; exact ((Fr.rf _ h).cpi (fun _ => rfl)).si rfl
    have b2 : gi h2 5 3 = nI n := by rw [y2, gi_si, if_pos ⟨rfl, rfl⟩, c1]
    have s2 : ∀ j, j < 32 → gi h2 6 j = gi h 31 j := fun j hj => by rw [y2, gi_si, if_neg (by omega), gi_cpi, if_pos ⟨rfl, by omega, by omega⟩, Nat.zero_add, Nat.sub_zero]
    clear y2
    refine p_become (ra := 8) (rb := 33) (n := 30) rfl rfl rfl rfl (by decide) (by decide) (fun h3 y3 => ?_)
    have f3 : Fr (cl [3, 4, 6, 8] [(2, 0), (2, 1), (5, 3), (7, 3)]) h h3 := by rw [y3]; exact (f2.cpi (fun _ => rfl)).si rfl
    have b3 : gi h3 5 3 = nI n := by rw [y3, gi_si, if_neg (by omega), gi_cpi, if_neg (by omega), b2]
    have s3 : ∀ j, j < 32 → gi h3 6 j = gi h 31 j := fun j hj => by rw [y3, gi_si, if_neg (by omega), gi_cpi, if_neg (by omega), s2 j hj]
    have b3' : gi h3 7 3 = nI m := by rw [y3, gi_si, if_pos ⟨rfl, rfl⟩, f2.i 32 3 rfl, c2]
    have s3' : ∀ j, j < 30 → gi h3 8 j = gi h 33 j := fun j hj => by rw [y3, gi_si, if_neg (by omega), gi_cpi, if_pos ⟨rfl, by omega, by omega⟩, f2.i 33 _ rfl, Nat.zero_add, Nat.sub_zero]
    clear y3
    refine p_ba11 (fun h4 f4 w4 => ?_)
    have F4 : Fr (cl [3, 4, 6, 8] [(2, 0), (2, 1), (5, 3), (7, 3)]) h h4 := f3.tr (f4.up rfl)
    refine ⟨fun _ => ?_, fun z => absurd (by rw [ia, ← F4.i 53 41 rfl]; exact z) q⟩
    intro g1 y1 g2 y2
    have e0' : gi h4 53 42 = nI n := (F4.i 53 42 rfl).trans d1
    rw [e0'] at y1
    have e1' : gi g1 53 43 = nI m := by rw [y1, gi_si, if_neg (by omega), F4.i 53 43 rfl, d2]
    rw [e1'] at y2
    have F5 : Fr (cl [3, 4, 6, 8, 54, 56, 57, 62, 63, 64, 65, 66, 67, 68] [(2, 0), (2, 1), (5, 3), (7, 3), (53, 14), (53, 19)]) h g2 := by rw [y2, y1]; exact ((F4.up rfl).si rfl).si rfl
    have q5 : gi g2 53 14 = nI n ∧ gi g2 53 19 = nI m := by
      rw [y2, y1]
      exact ⟨rfl, rfl⟩
    have o5 : ∀ o j, ¬ o = 53 → gi g2 o j = gi h4 o j := fun o j ho => by rw [y2, gi_si, if_neg (fun z => ho z.1), y1, gi_si, if_neg (fun z => ho z.1)]
    clear y2 y1
    refine p_ba12 (fun h6 f6 w6 => ?_)
    have F6 : Fr (cl [3, 4, 6, 8, 54, 56, 57, 62, 63, 64, 65, 66, 67, 68] [(2, 0), (2, 1), (5, 3), (7, 3), (53, 14), (53, 19)]) h h6 := F5.tr (f6.up rfl)
    refine p_ba12s (N := n) (by rw [f6.i 53 14 rfl, q5.1]) hn (fun h7 f7 w7 => ?_)
    have F7 : Fr (cl [3, 4, 6, 8, 54, 56, 57, 62, 63, 64, 65, 66, 67, 68] [(2, 0), (2, 1), (5, 3), (7, 3), (53, 14), (53, 19)]) h h7 := F6.tr (f7.up rfl)
    refine p_ba12g (N := m) (by rw [f7.i 53 19 rfl, f6.i 53 19 rfl, q5.2]) hm (fun h8 f8 w8 => ?_)
    have F8 : Fr (cl [3, 4, 6, 8, 54, 56, 57, 62, 63, 64, 65, 66, 67, 68] [(2, 0), (2, 1), (5, 3), (7, 3), (53, 14), (53, 19)]) h h8 := F7.tr (f8.up rfl)
    have z53 : ∀ j, gi h8 53 j = gi g2 53 j := fun j => by rw [f8.i 53 j rfl, f7.i 53 j rfl, f6.i 53 j rfl]
    have zc : ∀ o j, o = 2 ∨ o = 3 ∨ o = 4 ∨ o = 5 ∨ o = 6 ∨ o = 7 ∨ o = 8 → gi h8 o j = gi h4 o j := fun o j q => by
      rcases q with rfl | rfl | rfl | rfl | rfl | rfl | rfl <;> exact (f8.i _ _ rfl).trans ((f7.i _ _ rfl).trans ((f6.i _ _ rfl).trans (o5 _ _ (by decide))))
    have zd : ∀ o j, o = 5 ∨ o = 6 ∨ o = 7 ∨ o = 8 → gi h8 o j = gi h3 o j := fun o j q => by
      rcases q with rfl | rfl | rfl | rfl <;> exact (zc _ _ (by decide)).trans (f4.i _ _ rfl)
    have z5 : ∀ j, ¬ j = 3 → gi h8 5 j = gi h 5 j := fun j hj => F8.i 5 j (by unfold cl; simp; omega)
    have z7 : ∀ j, ¬ j = 3 → gi h8 7 j = gi h 7 j := fun j hj => F8.i 7 j (by unfold cl; simp; omega)
    have z54 : ∀ o j, o = 54 ∨ o = 56 ∨ o = 57 → gi h8 o j = gi h6 o j := fun o j q => by
      rcases q with rfl | rfl | rfl <;> exact (f8.i _ _ rfl).trans (f7.i _ _ rfl)
    have z62 : ∀ o j, o = 62 ∨ o = 63 ∨ o = 64 ∨ o = 65 → gi h8 o j = gi h7 o j := fun o j q => by
      rcases q with rfl | rfl | rfl | rfl <;> exact f8.i _ _ rfl
    have z6 : ∀ o j, o = 79 ∨ o = 80 ∨ o = 81 → gi g2 o j = gi h o j := fun o j q => by
      rcases q with rfl | rfl | rfl <;> exact F5.i _ _ rfl
    have z3 : ∀ o j, o = 34 ∨ o = 35 ∨ o = 36 → gi h3 o j = gi h o j := fun o j q => by
      rcases q with rfl | rfl | rfl <;> exact f3.i _ _ rfl
    refine ⟨by rw [f4.i 5 3 rfl, b3, z53, q5.1], ?_⟩
    have rS : RS h8 := by
      refine ⟨?_, ?_, n, hn, ?_, ?_, fun j hj => ?_⟩
      · rw [z5 0 (by decide), k8]
      · rw [z5 1 (by decide), k4]
      · rw [zd 5 3 (by decide), b3]
      · rw [z53, q5.1]
      · obtain ⟨x1, x2, x3, x4, x5⟩ := e1 j hj
        obtain ⟨v1, v2, v3, v4⟩ := w7 j hj
        rw [zd 6 _ (by decide), zd 6 _ (by decide), zd 6 _ (by decide), zd 6 _ (by decide), z62 62 _ (by decide), z62 63 _ (by decide), z62 64 _ (by decide), z62 65 _ (by decide), v1, v2, v3, v4, s3 _ (by omega), s3 _ (by omega), s3 _ (by omega), s3 _ (by omega), F6.i 82 _ rfl, F6.i 82 _ rfl, F6.i 82 _ rfl, F6.i 82 _ rfl]
        exact ⟨x1, x2, x3, x4, x5⟩
    have rG : RG h8 := by
      refine ⟨?_, ?_, m, hm, ?_, ?_, fun j hj => ?_⟩
      · rw [z7 0 (by decide), g10]
      · rw [z7 1 (by decide), g3]
      · rw [zd 7 3 (by decide), b3']
      · rw [z53, q5.2]
      · obtain ⟨x1, x2, x3, x5⟩ := e2 j hj
        obtain ⟨v1, v2, v3⟩ := w8 j hj
        rw [zd 8 _ (by decide), zd 8 _ (by decide), zd 8 _ (by decide), v1, v2, v3, s3' _ (by omega), s3' _ (by omega), s3' _ (by omega), F7.i 83 _ rfl, F7.i 83 _ rfl, F7.i 83 _ rfl]
        exact ⟨x1, x2, x3, x5⟩
    have rD : RD (i + 1) h8 := by
      refine ⟨?_, ?_⟩
      · rw [zc 3 0 (by decide), (w4 0 (by decide)).2.1, z3 35 0 (by decide), zc 4 0 (by decide), (w4 0 (by decide)).2.2, z3 36 0 (by decide), z54 57 0 (by decide), (w6 0 (by decide)).2.2, z6 81 0 (by decide), z54 56 0 (by decide), (w6 0 (by decide)).2.1, z6 80 0 (by decide)]
        exact l0.up (Nat.le_succ i)
      · rw [zc 3 1 (by decide), (w4 1 (by decide)).2.1, z3 35 1 (by decide), zc 4 1 (by decide), (w4 1 (by decide)).2.2, z3 36 1 (by decide), z54 57 1 (by decide), (w6 1 (by decide)).2.2, z6 81 1 (by decide), z54 56 1 (by decide), (w6 1 (by decide)).2.1, z6 80 1 (by decide)]
        exact l1.up (Nat.le_succ i)
    have rA : RA h8 := by
      obtain ⟨⟨a0, a1, a2, a3, a4, a5, a6⟩, k0, k1, k2⟩ := r.1
      have t2 : ∀ x, 2 ≤ x → gi h8 2 x = gi h 2 x := fun x hx => F8.i 2 x (by unfold cl; simp; omega)
      have t5 : ∀ x, gi h8 55 x = gi h 55 x := fun x => F8.i 55 x rfl
      unfold RA
      rw [t2 2 (by decide), t2 3 (by decide), t2 4 (by decide), t2 5 (by decide), t2 6 (by decide), t5, t5, F8.i 53 3 rfl, F8.i 53 4 rfl, F8.i 53 5 rfl, zc 2 0 (by decide), (w4 0 (by decide)).1, z3 34 0 (by decide), zc 2 1 (by decide), (w4 1 (by decide)).1, z3 34 1 (by decide), z54 54 0 (by decide), (w6 0 (by decide)).1, z6 79 0 (by decide), z54 54 1 (by decide), (w6 1 (by decide)).1, z6 79 1 (by decide)]
      exact ⟨⟨o0, o1, a2, a3, a4, a5, a6⟩, ok0, ok1, k2⟩
    exact ⟨rA, rD, rS, rG, r.2.2.2.2.1.ag (Fr.ag F8 rfl), r.2.2.2.2.2.1.ag (Fr.ag F8 rfl), r.2.2.2.2.2.2.1.ag (Fr.ag F8 rfl), (r.2.2.2.2.2.2.2.1.up (Nat.le_succ i)).ag (Fr.ag F8 rfl), r.2.2.2.2.2.2.2.2.1.ag (Fr.ag F8 rfl), r.2.2.2.2.2.2.2.2.2.1.ag (Fr.ag F8 rfl), r.2.2.2.2.2.2.2.2.2.2.ag (Fr.ag F8 rfl)⟩
  · dsimp only
    refine ⟨fun z => absurd (by rw [← ia]; exact q) z, fun _ => ⟨rfl, u⟩⟩
