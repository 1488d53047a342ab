/-! PURE: mend, both halves -/
theorem okP.un {p q a b : Int32} (ok : okP p a b) (oj : okP q a b) : p = q := by
  rcases ok with ⟨y, -, z⟩ | ⟨y, -, z⟩ | ⟨y, -, z⟩ | ⟨y, -, z⟩ | ⟨y, -, z⟩ <;> rcases oj with ⟨y2, -, z2⟩ | ⟨y2, -, z2⟩ | ⟨y2, -, z2⟩ | ⟨y2, -, z2⟩ | ⟨y2, -, z2⟩ <;> first | exact z.trans z2.symm | exact absurd (y.symm.trans y2) (by decide)
theorem p_value {k : Nat} (hk : k < 7) {a b : Int32} (w : okP (nI k) a b) {h : mH} {Q : Int32 → mH → Prop} (K : Q (gi h (ptr k).1 (ptr k).2) h) : w_X12_valueAt a b h Q := by
  unfold w_X12_valueAt
  have n : ∀ j, j < 7 → nI k = nI j → k = j := fun j hj => (nn k j (by omega) (by omega)).mp
  rcases w with ⟨rfl, rfl | rfl, e⟩ | ⟨rfl, rfl | rfl, e⟩ | ⟨rfl, rfl, e⟩ | ⟨rfl, rfl, e⟩ | ⟨rfl, rfl, e⟩
  · have := n 0 (by decide) e
    subst this
    exact ⟨fun q => absurd rfl q, fun _ => ⟨vpd (by decide), K⟩⟩
  · have := n 1 (by decide) e
    subst this
    exact ⟨fun q => absurd rfl q, fun _ => ⟨vpd (by decide), K⟩⟩
  · have := n 2 (by decide) e
    subst this
    exact ⟨fun _ => ⟨fun q => absurd rfl q, fun _ => ⟨vpd (by decide), K⟩⟩, fun q => absurd q (by decide)⟩
  · have := n 3 (by decide) e
    subst this
    exact ⟨fun _ => ⟨fun q => absurd rfl q, fun _ => ⟨vpd (by decide), K⟩⟩, fun q => absurd q (by decide)⟩
  · have := n 4 (by decide) e
    subst this
    exact ⟨fun _ => ⟨fun _ => ⟨fun q => absurd rfl q, fun _ => K⟩, fun q => absurd q (by decide)⟩, fun q => absurd q (by decide)⟩
  · have := n 5 (by decide) e
    subst this
    exact ⟨fun _ => ⟨fun _ => ⟨fun _ => ⟨fun q => absurd rfl q, fun _ => K⟩, fun q => absurd q (by decide)⟩, fun q => absurd q (by decide)⟩, fun q => absurd q (by decide)⟩
  · have := n 6 (by decide) e
    subst this
    exact ⟨fun _ => ⟨fun _ => ⟨fun _ => ⟨fun _ => K, fun q => absurd q (by decide)⟩, fun q => absurd q (by decide)⟩, fun q => absurd q (by decide)⟩, fun q => absurd q (by decide)⟩
def ntd (h s : mH) (o K d : Nat) (x : Int32) : Prop := (∀ j, j < d → gi s o j = gi h o (j + K)) ∧ gi s o d = x
theorem p_j19 {s : mH} {d : Nat} {Q : mH → Prop} {l1 l2 l3 : Int32} (e : gi s 25 3 = nI d) (hd : d < 40) (g : ∀ t, Fr (cl [25, 26, 27, 28] []) s t → gi t 25 3 = nI (d + 1) → gi t 25 4 = nI (d + 1) → (∀ j, gi t 26 j = if j = d then l1 else gi s 26 j) → (∀ j, gi t 27 j = if j = d then l2 else gi s 27 j) → (∀ j, gi t 28 j = if j = d then l3 else gi s 28 j) → Q t) : w_X1_add_J19 Q l1 l2 l3 s := by
  unfold w_X1_add_J19
  have v40 : vp_in (nI d) 40 := vp_nI hd (by decide)
  rw [e]
  refine ⟨fun q => absurd ((nl 40 d (by decide) (by omega)).mp q) (by omega), fun _ => ⟨v40, fun h2 y2 => ?_⟩⟩
  rw [nI_clamp (by omega)] at y2
  have e2 : gi h2 25 3 = nI d := by rw [y2, gi_si, if_neg (by omega), e]
  rw [e2]
  refine ⟨v40, fun h3 y3 => ?_⟩
  rw [nI_clamp (by omega)] at y3
  have e3 : gi h3 25 3 = nI d := by rw [y3, gi_si, if_neg (by omega), e2]
  rw [e3]
  refine ⟨v40, fun h4 y4 h5 y5 h6 y6 => ?_⟩
  rw [nI_clamp (by omega)] at y4
  have e4 : gi h4 25 3 = nI d := by rw [y4, gi_si, if_neg (by omega), e3]
  rw [e4, nI_1] at y5
  have e5 : gi h5 25 3 = nI (d + 1) := by rw [y5, gi_si, if_pos ⟨rfl, rfl⟩]
  rw [e5] at y6
  refine g h6 ?_ ?_ ?_ (fun j => ?_) (fun j => ?_) (fun j => ?_)
  · rw [y6, y5, y4, y3, y2]
    exact (((((Fr.rf _ s).si rfl).si rfl).si rfl).si rfl).si rfl
  · rw [y6, gi_si, if_neg (by omega), e5]
  · rw [y6, gi_si, if_pos ⟨rfl, rfl⟩]
  · rw [y6, gi_si, if_neg (by omega), y5, gi_si, if_neg (by omega), y4, gi_si, if_neg (by omega), y3, gi_si, if_neg (by omega), y2, gi_si]
    by_cases q : j = d
    · rw [if_pos ⟨rfl, q⟩, if_pos q]
    · rw [if_neg (fun z => q z.2), if_neg q]
  · rw [y6, gi_si, if_neg (by omega), y5, gi_si, if_neg (by omega), y4, gi_si, if_neg (by omega), y3, gi_si]
    by_cases q : j = d
    · rw [if_pos ⟨rfl, q⟩, if_pos q]
    · rw [if_neg (fun z => q z.2), if_neg q, y2, gi_si, if_neg (by omega)]
  · rw [y6, gi_si, if_neg (by omega), y5, gi_si, if_neg (by omega), y4, gi_si]
    by_cases q : j = d
    · rw [if_pos ⟨rfl, q⟩, if_pos q]
    · rw [if_neg (fun z => q z.2), if_neg q, y3, gi_si, if_neg (by omega), y2, gi_si, if_neg (by omega)]
theorem p_add11 {h : mH} {d K : Nat} {Q : mH → Prop} {p x y : Int32} (e : gi h 25 3 = nI (d + K)) (hd : d < 40) (hK : (K = 0) ∨ (K = 1 ∧ d = 39)) (ne : ¬ x = y) (g : ∀ t, Fr (cl [25, 26, 27, 28] []) h t → gi t 25 3 = nI (d + 1) → gi t 25 4 = nI (d + 1) → ntd h t 26 K d p → ntd h t 27 K d x → ntd h t 28 K d y → Q t) : w_X1_add p x y h Q := by
  unfold w_X1_add
  refine ⟨fun _ => ?_, fun q => absurd q ne⟩
  rw [e]
  rcases hK with rfl | ⟨rfl, rfl⟩
  · refine ⟨fun _ => p_j19 (d := d) e hd (fun t f a b r6 r7 r8 => g t f a b ⟨fun j hj => ?_, ?_⟩ ⟨fun j hj => ?_, ?_⟩ ⟨fun j hj => ?_, ?_⟩), fun q => absurd ((nlt (d + 0) 40 (by omega) (by decide)).mpr (by omega)) q⟩
    · rw [r6, if_neg (by omega)]; rfl
    · rw [r6, if_pos rfl]
    · rw [r7, if_neg (by omega)]; rfl
    · rw [r7, if_pos rfl]
    · rw [r8, if_neg (by omega)]; rfl
    · rw [r8, if_pos rfl]
  · refine ⟨fun q => absurd ((nlt (39 + 1) 40 (by omega) (by decide)).mp q) (by omega), fun _ => p_drop11 (fun s fs m6 m7 m8 => p_j19 (d := 39) (by rw [gi_si, if_pos ⟨rfl, rfl⟩]; rfl) (by decide) (fun t f a b r6 r7 r8 => g t ?_ a b ⟨fun j hj => ?_, ?_⟩ ⟨fun j hj => ?_, ?_⟩ ⟨fun j hj => ?_, ?_⟩))⟩
    · exact ((fs.up rfl).si rfl).tr f
    · rw [r6, if_neg (by omega), gi_si, if_neg (by omega), m6, if_pos hj]
    · rw [r6, if_pos rfl]
    · rw [r7, if_neg (by omega), gi_si, if_neg (by omega), m7, if_pos hj]
    · rw [r7, if_pos rfl]
    · rw [r8, if_neg (by omega), gi_si, if_neg (by omega), m8, if_pos hj]
    · rw [r8, if_pos rfl]
theorem p_j121 {s : mH} {d : Nat} {Q : Int32 → mH → Prop} {l1 l2 l3 l4 : Int32} (e : gi s 53 8 = nI d) (hd : d < 40) (g : ∀ t, Fr (cl [58, 59, 60, 61] [(53, 8)]) s t → gi t 53 8 = nI (d + 1) → (∀ j, gi t 58 j = if j = d then l1 else gi s 58 j) → (∀ j, gi t 59 j = if j = d then l2 else gi s 59 j) → (∀ j, gi t 60 j = if j = d then l4 else gi s 60 j) → (∀ j, gi t 61 j = if j = d then l3 else gi s 61 j) → w_X12_lays l1 l2 l3 t (fun h9 => Q l4 h9)) : w_X12_changes_J121 Q l1 l2 l3 l4 s := by
  unfold w_X12_changes_J121
  have v40 : vp_in (nI d) 40 := vp_nI hd (by decide)
  rw [e]
  refine ⟨v40, fun h2 y2 => ?_⟩
  rw [nI_clamp (by omega)] at y2
  have e2 : gi h2 53 8 = nI d := by rw [y2, gi_si, if_neg (by omega), e]
  rw [e2]
  refine ⟨v40, fun h3 y3 => ?_⟩
  rw [nI_clamp (by omega)] at y3
  have e3 : gi h3 53 8 = nI d := by rw [y3, gi_si, if_neg (by omega), e2]
  rw [e3]
  refine ⟨v40, fun h4 y4 => ?_⟩
  rw [nI_clamp (by omega)] at y4
  have e4 : gi h4 53 8 = nI d := by rw [y4, gi_si, if_neg (by omega), e3]
  rw [e4]
  refine ⟨v40, fun h5 y5 h6 y6 => ?_⟩
  rw [nI_clamp (by omega)] at y5
  have e5 : gi h5 53 8 = nI d := by rw [y5, gi_si, if_neg (by omega), e4]
  rw [e5, nI_1] at y6
  refine g h6 ?_ ?_ (fun j => ?_) (fun j => ?_) (fun j => ?_) (fun j => ?_)
  · rw [y6, y5, y4, y3, y2]
    exact (((((Fr.rf _ s).si rfl).si rfl).si rfl).si rfl).si rfl
  · rw [y6, gi_si, if_pos ⟨rfl, rfl⟩]
  · rw [y6, gi_si, if_neg (by omega), y5, gi_si, if_neg (by omega), y4, gi_si, if_neg (by omega), y3, gi_si, if_neg (by omega), y2, gi_si]
    by_cases q : j = d
    · rw [if_pos ⟨rfl, q⟩, if_pos q]
    · rw [if_neg (fun z => q z.2), if_neg q]
  · rw [y6, gi_si, if_neg (by omega), y5, gi_si, if_neg (by omega), y4, gi_si, if_neg (by omega), y3, gi_si]
    by_cases q : j = d
    · rw [if_pos ⟨rfl, q⟩, if_pos q]
    · rw [if_neg (fun z => q z.2), if_neg q, y2, gi_si, if_neg (by omega)]
  · rw [y6, gi_si, if_neg (by omega), y5, gi_si, if_neg (by omega), y4, gi_si]
    by_cases q : j = d
    · rw [if_pos ⟨rfl, q⟩, if_pos q]
    · rw [if_neg (fun z => q z.2), if_neg q, y3, gi_si, if_neg (by omega), y2, gi_si, if_neg (by omega)]
  · rw [y6, gi_si, if_neg (by omega), y5, gi_si]
    by_cases q : j = d
    · rw [if_pos ⟨rfl, q⟩, if_pos q]
    · rw [if_neg (fun z => q z.2), if_neg q, y4, gi_si, if_neg (by omega), y3, gi_si, if_neg (by omega), y2, gi_si, if_neg (by omega)]
theorem p_change12 {h : mH} {d K k : Nat} {Q : Int32 → mH → Prop} {a b x y : Int32} (hk : k < 7) (w : okP (nI k) a b) (ev : gi h (ptr k).1 (ptr k).2 = x) (e : gi h 53 8 = nI (d + K)) (hd : d < 40) (hK : (K = 0) ∨ (K = 1 ∧ d = 39)) (ne : ¬ x = y) (g : ∀ t, Fr (cl [58, 59, 60, 61] [(53, 8), (53, 9)]) h t → gi t 53 8 = nI (d + 1) → gi t 53 9 = 0 → ntd h t 58 K d a → ntd h t 59 K d b → ntd h t 60 K d x → ntd h t 61 K d y → w_X12_lays a b y t (fun h9 => Q x h9)) : w_X12_changes a b y h Q := by
  unfold w_X12_changes
  refine p_value hk w ?_
  rw [ev]
  refine ⟨fun _ h3 y3 => ?_, fun q => absurd q ne⟩
  have e3 : gi h3 53 8 = nI (d + K) := by rw [y3, gi_si, if_neg (by omega), e]
  have f3 : Fr (cl [58, 59, 60, 61] [(53, 8), (53, 9)]) h h3 := by rw [y3]; exact (Fr.rf _ h).si rfl
  have e9 : gi h3 53 9 = 0 := by rw [y3, gi_si, if_pos ⟨rfl, rfl⟩]
  have er : ∀ o j, ¬ o = 53 → gi h3 o j = gi h o j := fun o j ho => by rw [y3, gi_si, if_neg (fun z => ho z.1)]
  clear y3
  rw [e3]
  have n40 : nI (d + K) = 40 ↔ d + K = 40 := nn (d + K) 40 (by omega) (by decide)
  rcases hK with rfl | ⟨rfl, rfl⟩
  · refine ⟨fun _ => p_j121 (d := d) e3 hd (fun t f a' r6 r7 r8 r9 => g t (f3.tr (f.up rfl)) a' (by rw [f.i 53 9 rfl, e9]) ⟨fun j hj => ?_, ?_⟩ ⟨fun j hj => ?_, ?_⟩ ⟨fun j hj => ?_, ?_⟩ ⟨fun j hj => ?_, ?_⟩), fun q => absurd (n40.mp q) (by omega)⟩
    · rw [r6, if_neg (by omega)]; exact er _ _ (by decide)
    · rw [r6, if_pos rfl]
    · rw [r7, if_neg (by omega)]; exact er _ _ (by decide)
    · rw [r7, if_pos rfl]
    · rw [r8, if_neg (by omega)]; exact er _ _ (by decide)
    · rw [r8, if_pos rfl]
    · rw [r9, if_neg (by omega)]; exact er _ _ (by decide)
    · rw [r9, if_pos rfl]
  · refine ⟨fun q => absurd (n40.mpr rfl) q, fun _ => p_drop12 (fun s fs m6 m7 m8 m9 h15 y15 => p_j121 (d := 39) ?_ (by decide) (fun t f a' r6 r7 r8 r9 => g t ?_ a' ?_ ⟨fun j hj => ?_, ?_⟩ ⟨fun j hj => ?_, ?_⟩ ⟨fun j hj => ?_, ?_⟩ ⟨fun j hj => ?_, ?_⟩))⟩
    · rw [y15, gi_si, if_pos ⟨rfl, rfl⟩, fs.i 53 8 rfl, e3, nI_pred]
    · rw [y15] at f
      exact (f3.tr ((fs.up rfl).si rfl)).tr (f.up rfl)
    · rw [f.i 53 9 rfl, y15, gi_si, if_neg (by omega), fs.i 53 9 rfl, e9]
    · rw [r6, if_neg (by omega), y15, gi_si, if_neg (by omega), m6, if_pos hj, er _ _ (by decide)]
    · rw [r6, if_pos rfl]
    · rw [r7, if_neg (by omega), y15, gi_si, if_neg (by omega), m7, if_pos hj, er _ _ (by decide)]
    · rw [r7, if_pos rfl]
    · rw [r8, if_neg (by omega), y15, gi_si, if_neg (by omega), m8, if_pos hj, er _ _ (by decide)]
    · rw [r8, if_pos rfl]
    · rw [r9, if_neg (by omega), y15, gi_si, if_neg (by omega), m9, if_pos hj, er _ _ (by decide)]
    · rw [r9, if_pos rfl]
theorem alw.ok {h : mH} (rA : RA h) {k : Nat} (hk : k < 7) {x : Int32} (w : alw h k x) : okA k x := by
  obtain ⟨w0, w2, w4, w5, w6⟩ := w
  have e4 := rA.1.2.2.2.2.2.1
  have e5 := rA.1.2.2.2.2.2.2
  have k5 := rA.2.2.2.2.2.2.1.2.2.2 (by decide)
  have k6 := rA.2.2.2.2.2.2.2.1.2.2.2 (by decide)
  rw [e4] at k5
  rw [e5] at k6
  refine ⟨fun q => ?_, fun q => ?_, fun q => ?_, fun q => ?_⟩
  · exact inR_i.mp (w0 q)
  · exact inR_i.mp (w2 q)
  · exact inR_i.mp (w4 q)
  · rcases (show k = 5 ∨ k = 6 by omega) with rfl | rfl
    · have := inR_i.mp (w5 rfl)
      have z : (0 : Int32).toInt = 0 := rfl
      omega
    · have := inR_i.mp (w6 rfl)
      have z : (99 : Int32).toInt = 99 := rfl
      omega
theorem alw.le {h : mH} (rA : RA h) {k : Nat} (hk : k < 7) {x : Int32} (w : alw h k x) : (if 5 = k then x else gi h 2 5).toInt ≤ (if 6 = k then x else gi h 2 6).toInt := by
  obtain ⟨w0, w2, w4, w5, w6⟩ := w
  have e4 := rA.1.2.2.2.2.2.1
  have e5 := rA.1.2.2.2.2.2.2
  by_cases q5 : 5 = k
  · rw [if_pos q5, if_neg (by omega), e5]
    exact (inR_i.mp (w5 q5.symm)).2
  · rw [if_neg q5]
    by_cases q6 : 6 = k
    · rw [if_pos q6, e4]
      exact (inR_i.mp (w6 q6.symm)).1
    · rw [if_neg q6]
      exact rA.2.2.2.2.2.2.2.2
theorem J_mend {i : Nat} {h : mH} (r : Inv i h) (a b x : Int32) : w_X11_mend a b x h (fun v h1 => w_X12_mend a b x h1 (fun w h2 => v = w ∧ Inv (i + 1) h2)) := by
  have u := r.up
  unfold w_X11_mend
  refine p_place (fun p w => ?_) (fun no v hv => ⟨fun _ => p_mend12 (fun k _ ok _ => absurd ok (no _)) (fun _ => ⟨rfl, u⟩), fun q => absurd hv q⟩)
  obtain ⟨k, hk, rfl, lay⟩ := w.k
  refine ⟨fun q => absurd q (nI_pos (by omega)), fun _ => ?_⟩
  refine e_allows r.1 hk (b1 (fun al => ?_) (fun al => p_mend12 (fun k2 hk2 ok2 al2 => absurd al2 ?_) (fun _ => ⟨rfl, u⟩)))
  · have v7 : vp_in (nI k) 7 := vp_nI hk (by decide)
    refine ⟨v7, fun x5 y5 => ?_⟩
    rw [nI_clamp (by omega)] at y5
    have ep : gi h (ptr k).1 (ptr k).2 = x5 := by rw [y5]; exact ((RA.all.mp r.1).1 k hk).1.symm
    have ok5 : okA k x5 := by rw [y5]; exact ((RA.all.mp r.1).1 k hk).2
    have okx : okA k x := al.ok r.1 hk
    rw [nI_clamp (by omega)]
    have fin : ∀ (h1 : mH) (Q : Int32 → mH → Prop), gi h1 53 4 = gi h 53 4 → gi h1 53 5 = gi h 53 5 → w_X12_changes b a x h1 (fun v h => Q v h) → w_X12_mend a b x h1 Q := fun h1 Q e4 e5 K => p_mend12 (fun k2 hk2 ok2 _ => K) (fun no => absurd (by
      unfold alw at al ⊢
      rw [e4, e5]
      exact al) (no k hk w))
    by_cases same : x5 = x
    · unfold w_X1_add
      refine ⟨fun q => absurd same q, fun _ => ⟨v7, fun h7 y7 => ?_⟩⟩
      have i7 : Inv (i + 1) h7 := by
        have e7 : ∀ o j, gi h7 o j = gi h o j ∧ gl h7 o j = gl h o j := fun o j => by
          rw [y7]
          refine ⟨?_, gl_si⟩
          rw [gi_si]
          by_cases q : o = 2 ∧ j = k
          · rw [if_pos q, q.1, q.2, ← same, y5]
          · rw [if_neg q]
        exact u.fr (fun o j _ => e7 o j)
      have ep7 : gi h7 (ptr k).1 (ptr k).2 = x5 := by
        rw [y7, gi_si, if_neg, ep]
        rintro ⟨q, -⟩
        rcases ptr_no k hk with z | z | z <;> omega
      refine fin h7 _ (by rw [y7, gi_si, if_neg (by omega)]) (by rw [y7, gi_si, if_neg (by omega)]) ?_
      unfold w_X12_changes
      refine p_value hk w ?_
      dsimp only
      rw [ep7]
      exact ⟨fun q => absurd same q, fun _ => ⟨rfl, i7⟩⟩
    · obtain ⟨d0, n, wa, wb, hdn, c3, c8, c4, c9, wA, wB, wO, cs⟩ := r.2.2.2.2.2.2.1
      obtain ⟨d, K, rfl, hd, hK⟩ : ∃ d K, d0 = d + K ∧ d < 40 ∧ ((K = 0) ∨ (K = 1 ∧ d = 39)) := by
        by_cases q : d0 = 40
        · exact ⟨39, 1, q, by decide, Or.inr ⟨rfl, rfl⟩⟩
        · exact ⟨d0, 0, rfl, by omega, Or.inl rfl⟩
      refine p_add11 c3 hd hK same (fun t ft t3 t4 n6 n7 n8 => ⟨v7, fun h7 y7 => ?_⟩)
      have f7 : Fr (cl [2, 25, 26, 27, 28] []) h h7 := by rw [y7]; exact (ft.up rfl).si rfl
      have e72 : ∀ j, gi h7 2 j = if j = k then x else gi h 2 j := fun j => by
        rw [y7, gi_si]
        by_cases q : j = k
        · rw [if_pos ⟨rfl, q⟩, if_pos q]
        · rw [if_neg (fun z => q z.2), if_neg q, ft.i 2 j rfl]
      have e7o : ∀ o j, ¬ o = 2 → gi h7 o j = gi t o j := fun o j ho => by rw [y7, gi_si, if_neg (fun z => ho z.1)]
      clear y7
      have ep7 : gi h7 (ptr k).1 (ptr k).2 = x5 := by
        rw [← ep]
        rcases sev hk with rfl | rfl | rfl | rfl | rfl | rfl | rfl
        · exact f7.i 54 0 rfl
        · exact f7.i 54 1 rfl
        · exact f7.i 55 0 rfl
        · exact f7.i 55 1 rfl
        · exact f7.i 53 3 rfl
        · exact f7.i 53 4 rfl
        · exact f7.i 53 5 rfl
      refine fin h7 _ (f7.i 53 4 rfl) (f7.i 53 5 rfl) ?_
      refine p_change12 hk w ep7 (by rw [f7.i 53 8 rfl]; exact c8) hd hK same (fun s fs s8 s9 m8 m9 m0 m1 => lay s x _ ⟨rfl, ?_⟩)
      have f : Fr (cl [2, 25, 26, 27, 28, 54, 55, 58, 59, 60, 61] [(53, 3), (53, 4), (53, 5), (53, 8), (53, 9)]) h (layH s k x) := ((f7.up rfl).tr (fs.up rfl)).si (by
        rcases sev hk with rfl | rfl | rfl | rfl | rfl | rfl | rfl <;> rfl)
      have k2 : ∀ j, gi (layH s k x) 2 j = if j = k then x else gi h 2 j := fun j => by rw [gi_lay hk ⟨by decide, by decide, fun q => absurd q (by decide)⟩, fs.i 2 j rfl, e72]
      have kp : ∀ j, j < 7 → gi (layH s k x) (ptr j).1 (ptr j).2 = if j = k then x else gi h (ptr j).1 (ptr j).2 := fun j hj => by
        rw [gi_ptr hk hj]
        by_cases q : j = k
        · rw [if_pos q, if_pos q]
        · rw [if_neg q, if_neg q]
          rcases sev hj with rfl | rfl | rfl | rfl | rfl | rfl | rfl
          · exact (fs.i 54 0 rfl).trans (f7.i 54 0 rfl)
          · exact (fs.i 54 1 rfl).trans (f7.i 54 1 rfl)
          · exact (fs.i 55 0 rfl).trans (f7.i 55 0 rfl)
          · exact (fs.i 55 1 rfl).trans (f7.i 55 1 rfl)
          · exact (fs.i 53 3 rfl).trans (f7.i 53 3 rfl)
          · exact (fs.i 53 4 rfl).trans (f7.i 53 4 rfl)
          · exact (fs.i 53 5 rfl).trans (f7.i 53 5 rfl)
      have rA : RA (layH s k x) := r.1.lay hk k2 kp okx (by rw [k2, k2]; exact al.le r.1 hk)
      have g58 : ∀ o j, ¬ o = 53 ∧ ¬ o = 54 ∧ ¬ o = 55 → gi (layH s k x) o j = gi s o j := fun o j q => gi_lay hk ⟨q.2.1, q.2.2, fun z => absurd z q.1⟩
      have g26 : ∀ o j, o = 25 ∨ o = 26 ∨ o = 27 ∨ o = 28 → gi (layH s k x) o j = gi t o j := fun o j q => by
        rcases q with rfl | rfl | rfl | rfl
        · rw [g58 _ _ (by decide), fs.i 25 j rfl, e7o _ _ (by decide)]
        · rw [g58 _ _ (by decide), fs.i 26 j rfl, e7o _ _ (by decide)]
        · rw [g58 _ _ (by decide), fs.i 27 j rfl, e7o _ _ (by decide)]
        · rw [g58 _ _ (by decide), fs.i 28 j rfl, e7o _ _ (by decide)]
      have rC : RC (layH s k x) := by
        refine ⟨d + 1, 0, fun j => if j = d + 1 then gi (layH s k x) 2 5 else wa (j + K), fun j => if j = d + 1 then gi (layH s k x) 2 6 else wb (j + K), by omega, ?_, ?_, ?_, ?_, if_pos rfl, if_pos rfl, fun j hj => ?_, fun j hj => ?_⟩
        · rw [g26 25 3 (by decide), t3]
        · rw [gi_lay hk ⟨by decide, by decide, fun _ => by decide⟩, s8]
        · rw [g26 25 4 (by decide), t4]
        · rw [gi_lay hk ⟨by decide, by decide, fun _ => by decide⟩, s9]; rfl
        · dsimp only
          by_cases q : j = d + 1
          · rw [if_pos q, if_pos q]
            exact ⟨(rA.2.2.2.2.2.2.1.2.2.2 (by decide)).1, rA.2.2.2.2.2.2.2.2, (rA.2.2.2.2.2.2.2.1.2.2.2 (by decide)).2⟩
          · rw [if_neg q, if_neg q]
            exact wO (j + K) (by omega)
        · dsimp only
          rw [if_neg (show ¬ j = d + 1 by omega), if_neg (show ¬ j = d + 1 by omega), g26 26 j (by decide), g26 27 j (by decide), g26 28 j (by decide), g58 58 j (by decide), g58 59 j (by decide), g58 60 j (by decide), g58 61 j (by decide)]
          by_cases q : j = d
          · subst q
            rw [if_pos rfl, if_pos rfl, n6.2, n7.2, n8.2, m8.2, m9.2, m0.2, m1.2]
            refine ⟨w, rfl, rfl, ?_⟩
            unfold okC
            rw [nI_clamp (by omega), k2, k2, wA, wB]
            have e5 : nI k = 5 ↔ k = 5 := nn k 5 (by omega) (by decide)
            have e6 : nI k = 6 ↔ k = 6 := nn k 6 (by omega) (by decide)
            rw [e5, e6]
            refine ⟨ok5, okx, fun z => ?_, fun z => ?_, fun z z2 => ?_⟩
            · subst z
              exact ⟨y5, rfl, rfl⟩
            · subst z
              exact ⟨y5, rfl, rfl⟩
            · rw [if_neg (fun q => z q.symm), if_neg (fun q => z2 q.symm)]
              exact ⟨rfl, rfl⟩
          · rw [if_neg (show ¬ j + 1 = d + 1 by omega), if_neg (show ¬ j + 1 = d + 1 by omega), n6.1 j (by omega), n7.1 j (by omega), n8.1 j (by omega), m8.1 j (by omega), m9.1 j (by omega), m0.1 j (by omega), m1.1 j (by omega), f7.i 58 _ rfl, f7.i 59 _ rfl, f7.i 60 _ rfl, f7.i 61 _ rfl, show j + 1 + K = j + K + 1 by omega]
            exact cs (j + K) (by omega)
      exact ⟨rA, (r.2.1.up (Nat.le_succ i)).ag (Fr.ag f rfl), r.2.2.1.ag (Fr.ag f rfl), r.2.2.2.1.ag (Fr.ag f rfl), r.2.2.2.2.1.ag (Fr.ag f rfl), r.2.2.2.2.2.1.ag (Fr.ag f rfl), rC, (r.2.2.2.2.2.2.2.1.up (Nat.le_succ i)).ag (Fr.ag f rfl), r.2.2.2.2.2.2.2.2.1.ag (Fr.ag f rfl), r.2.2.2.2.2.2.2.2.2.1.ag (Fr.ag f rfl), r.2.2.2.2.2.2.2.2.2.2.ag (Fr.ag f rfl)⟩
  · have : k2 = k := (nn k2 k (by omega) (by omega)).mp (ok2.un w)
    subst this
    exact al
