/-! PURE: image and back: the copies -/
theorem gi_cpi {h : mH} {o q sp dp n a b : Nat} : gi (cpi h o q sp dp n) a b = if a = q ∧ dp ≤ b ∧ b < dp + n then gi h o (sp + (b - dp)) else gi h a b := by
  unfold gi cpi va_cpy
  simp only
  by_cases q1 : a = q
  · subst q1
    simp
  · rw [if_neg q1, if_neg (fun z => q1 z.1)]
theorem gl_cpi {h : mH} {o q sp dp n a b : Nat} : gl (cpi h o q sp dp n) a b = gl h a b := rfl
theorem Fr.cpi {P : Nat → Nat → Bool} {h h1 : mH} {o q n : Nat} (a : Fr P h h1) (hp : ∀ k, P q k = true) : Fr P h (cpi h1 o q 0 0 n) := by
  intro b j hb
  refine ⟨?_, (a b j hb).2⟩
  rw [gi_cpi, if_neg]
  · exact (a b j hb).1
  · rintro ⟨rfl, -⟩
    rw [hp] at hb
    cases hb
theorem p_become {h : mH} {a b ra rb n : Nat} {Q : mH → Prop} (ea : rf a 2 = ra) (eb : rf b 2 = rb) (na : lenOf ra = n) (nb : lenOf rb = n) (hn : n < 100) (hb : ¬ b = ra) (g : ∀ t, t = si (cpi h rb ra 0 0 n) a 3 (gi h b 3) → Q t) : w_X2_become a b h Q := by
  unfold w_X2_become
  rw [ea, eb, na, nb]
  refine ⟨fun q => absurd rfl q, fun _ => ⟨⟨by decide, by decide, nI_pos (by omega), ?_, ?_⟩, fun h1 y1 h2 y2 => g h2 ?_⟩⟩
  · rw [nI_clamp (by omega)]
    exact Nat.le_of_eq (Nat.zero_add n)
  · rw [nI_clamp (by omega)]
    exact Nat.le_of_eq (Nat.zero_add n)
  · rw [nI_clamp (by omega)] at y1
    rw [y2, y1]
    have e : gi (cpi h rb ra (0 : Int32).toNatClampNeg (0 : Int32).toNatClampNeg n) b 3 = gi h b 3 := by rw [gi_cpi, if_neg (fun z => hb z.1)]
    rw [e]
    rfl
theorem p_im11 {h : mH}  {K Q : _} (g : ∀ s, Fr (cl [34, 35, 36] []) h s → (∀ j, j < 2 → gi s 34 j = gi h 2 j ∧ gi s 35 j = gi h 3 j ∧ gi s 36 j = gi h 4 j) → K s) : ∃ n, w_X11_image_L38 K Q n 0 h := by
  refine loop_0 (σ := mH) (fun n i s => w_X11_image_L38 K Q n (nI i) s) (fun i s => Fr (cl [34, 35, 36] []) h s ∧ ∀ j, j < i → gi s 34 j = gi h 2 j ∧ gi s 35 j = gi h 3 j ∧ gi s 36 j = gi h 4 j) 2 h ⟨Fr.rf _ h, fun j hj => absurd hj (Nat.not_lt_zero j)⟩ (fun n s e => ?_) (fun n i s hi e nx => ?_)
  · unfold w_X11_image_L38
    exact ⟨fun _ => g s e.1 e.2, fun q => absurd ((nl 2 2 (by omega) (by omega)).mpr (Nat.le_refl _)) q⟩
  · obtain ⟨f0, w⟩ := e
    unfold w_X11_image_L38
    rw [show (2 : Int32) = nI 2 from rfl, nl 2 i (by omega) (by omega), nI_1]
    refine ⟨fun q => absurd q (by omega), fun _ => ?_⟩
    have hc : inR (nI i) 0 1 := by
      rcases (show i = 0 ∨ i = 1 by omega) with rfl | rfl
      · exact i01
      · exact i11
    rw [e_10_off hc]
    rw [nI_clamp (show i < 2 ^ 31 by omega)]
    refine ⟨(vp_nI hi (by decide)), fun h1 y1 => ?_⟩
    rw [f0.i 2 _ rfl] at y1
    have f1 : Fr (cl [34, 35, 36] []) h h1 := by rw [y1]; exact f0.si rfl
    refine ⟨(vp_nI hi (by decide)), ⟨(vp_nI hi (by decide)), fun h2 y2 => ?_⟩⟩
    rw [f1.i 3 _ rfl] at y2
    have f2 : Fr (cl [34, 35, 36] []) h h2 := by rw [y2]; exact f1.si rfl
    refine ⟨(vp_nI hi (by decide)), ⟨(vp_nI hi (by decide)), fun h3 y3 => ?_⟩⟩
    rw [f2.i 4 _ rfl] at y3
    have f3 : Fr (cl [34, 35, 36] []) h h3 := by rw [y3]; exact f2.si rfl
    refine nx h3 ⟨f3, fun j hj => ⟨?_, ?_, ?_⟩⟩
    · by_cases q : j = i
      · subst q
        rw [y3, gi_si, if_neg (by omega), y2, gi_si, if_neg (by omega), y1, gi_si, if_pos ⟨rfl, rfl⟩]
      · rw [y3, gi_si, if_neg (by omega), y2, gi_si, if_neg (by omega), y1, gi_si, if_neg (by omega)]
        exact (w j (by omega)).1
    · by_cases q : j = i
      · subst q
        rw [y3, gi_si, if_neg (by omega), y2, gi_si, if_pos ⟨rfl, rfl⟩]
      · rw [y3, gi_si, if_neg (by omega), y2, gi_si, if_neg (by omega), y1, gi_si, if_neg (by omega)]
        exact (w j (by omega)).2.1
    · by_cases q : j = i
      · subst q
        rw [y3, gi_si, if_pos ⟨rfl, rfl⟩]
      · rw [y3, gi_si, if_neg (by omega), y2, gi_si, if_neg (by omega), y1, gi_si, if_neg (by omega)]
        exact (w j (by omega)).2.2
theorem p_im12 {h : mH}  {K Q : _} (g : ∀ s, Fr (cl [79, 80, 81] []) h s → (∀ j, j < 2 → gi s 79 j = gi h 54 j ∧ gi s 80 j = gi h 56 j ∧ gi s 81 j = gi h 57 j) → K s) : ∃ n, w_X12_image_L23 K Q n 0 h := by
  refine loop_0 (σ := mH) (fun n i s => w_X12_image_L23 K Q n (nI i) s) (fun i s => Fr (cl [79, 80, 81] []) h s ∧ ∀ j, j < i → gi s 79 j = gi h 54 j ∧ gi s 80 j = gi h 56 j ∧ gi s 81 j = gi h 57 j) 2 h ⟨Fr.rf _ h, fun j hj => absurd hj (Nat.not_lt_zero j)⟩ (fun n s e => ?_) (fun n i s hi e nx => ?_)
  · unfold w_X12_image_L23
    exact ⟨fun _ => g s e.1 e.2, fun q => absurd ((nl 2 2 (by omega) (by omega)).mpr (Nat.le_refl _)) q⟩
  · obtain ⟨f0, w⟩ := e
    unfold w_X12_image_L23
    rw [show (2 : Int32) = nI 2 from rfl, nl 2 i (by omega) (by omega), nI_1]
    refine ⟨fun q => absurd q (by omega), fun _ => ?_⟩
    rw [nI_clamp (show i < 2 ^ 31 by omega)]
    refine ⟨(vp_nI hi (by decide)), ⟨(vp_nI hi (by decide)), fun h1 y1 => ?_⟩⟩
    rw [f0.i 54 _ rfl] at y1
    have f1 : Fr (cl [79, 80, 81] []) h h1 := by rw [y1]; exact f0.si rfl
    refine ⟨(vp_nI hi (by decide)), ⟨(vp_nI hi (by decide)), fun h2 y2 => ?_⟩⟩
    rw [f1.i 56 _ rfl] at y2
    have f2 : Fr (cl [79, 80, 81] []) h h2 := by rw [y2]; exact f1.si rfl
    refine ⟨(vp_nI hi (by decide)), ⟨(vp_nI hi (by decide)), fun h3 y3 => ?_⟩⟩
    rw [f2.i 57 _ rfl] at y3
    have f3 : Fr (cl [79, 80, 81] []) h h3 := by rw [y3]; exact f2.si rfl
    refine nx h3 ⟨f3, fun j hj => ⟨?_, ?_, ?_⟩⟩
    · by_cases q : j = i
      · subst q
        rw [y3, gi_si, if_neg (by omega), y2, gi_si, if_neg (by omega), y1, gi_si, if_pos ⟨rfl, rfl⟩]
      · rw [y3, gi_si, if_neg (by omega), y2, gi_si, if_neg (by omega), y1, gi_si, if_neg (by omega)]
        exact (w j (by omega)).1
    · by_cases q : j = i
      · subst q
        rw [y3, gi_si, if_neg (by omega), y2, gi_si, if_pos ⟨rfl, rfl⟩]
      · rw [y3, gi_si, if_neg (by omega), y2, gi_si, if_neg (by omega), y1, gi_si, if_neg (by omega)]
        exact (w j (by omega)).2.1
    · by_cases q : j = i
      · subst q
        rw [y3, gi_si, if_pos ⟨rfl, rfl⟩]
      · rw [y3, gi_si, if_neg (by omega), y2, gi_si, if_neg (by omega), y1, gi_si, if_neg (by omega)]
        exact (w j (by omega)).2.2
theorem p_im12s {h : mH} {N : Nat} (hN : gi h 53 14 = nI N) (h8 : N ≤ 8) {K Q : _} (g : ∀ s, Fr (cl [82] []) h s → (∀ j, j < N → gi s 82 (4 * j) = gi h 62 j ∧ gi s 82 (4 * j + 1) = gi h 63 j ∧ gi s 82 (4 * j + 2) = gi h 64 j ∧ gi s 82 (4 * j + 3) = gi h 65 j) → K s) : ∃ n, w_X12_image_L72 K Q n 0 h := by
  refine loop_0 (σ := mH) (fun n i s => w_X12_image_L72 K Q n (nI i) s) (fun i s => Fr (cl [82] []) h s ∧ ∀ j, j < i → gi s 82 (4 * j) = gi h 62 j ∧ gi s 82 (4 * j + 1) = gi h 63 j ∧ gi s 82 (4 * j + 2) = gi h 64 j ∧ gi s 82 (4 * j + 3) = gi h 65 j) N h ⟨Fr.rf _ h, fun j hj => absurd hj (Nat.not_lt_zero j)⟩ (fun n s e => ?_) (fun n i s hi e nx => ?_)
  · unfold w_X12_image_L72
    rw [e.1.i 53 14 rfl, hN]
    exact ⟨fun _ => g s e.1 e.2, fun q => absurd ((nl N N (by omega) (by omega)).mpr (Nat.le_refl _)) q⟩
  · obtain ⟨f0, w⟩ := e
    unfold w_X12_image_L72
    rw [f0.i 53 14 rfl, hN, nl N i (by omega) (by omega), show (4 : Int32) = nI 4 from rfl, pk_mul, nI_1, show (2 : Int32) = nI 2 from rfl, nI_add, show (3 : Int32) = nI 3 from rfl, nI_add, nI_1]
    refine ⟨fun q => absurd q (by omega), fun _ => ?_⟩
    rw [nI_clamp (show i < 2 ^ 31 by omega), nI_clamp (show 4 * i < 2 ^ 31 by omega), nI_clamp (show 4 * i + 1 < 2 ^ 31 by omega), nI_clamp (show 4 * i + 2 < 2 ^ 31 by omega), nI_clamp (show 4 * i + 3 < 2 ^ 31 by omega)]
    refine ⟨(vp_nI (n := 8) (by omega) (by decide)), ⟨(vp_nI (n := 32) (by omega) (by decide)), fun h1 y1 => ?_⟩⟩
    rw [f0.i 62 _ rfl] at y1
    have f1 : Fr (cl [82] []) h h1 := by rw [y1]; exact f0.si rfl
    refine ⟨(vp_nI (n := 8) (by omega) (by decide)), ⟨(vp_nI (n := 32) (by omega) (by decide)), fun h2 y2 => ?_⟩⟩
    rw [f1.i 63 _ rfl] at y2
    have f2 : Fr (cl [82] []) h h2 := by rw [y2]; exact f1.si rfl
    refine ⟨(vp_nI (n := 8) (by omega) (by decide)), ⟨(vp_nI (n := 32) (by omega) (by decide)), fun h3 y3 => ?_⟩⟩
    rw [f2.i 64 _ rfl] at y3
    have f3 : Fr (cl [82] []) h h3 := by rw [y3]; exact f2.si rfl
    refine ⟨(vp_nI (n := 8) (by omega) (by decide)), ⟨(vp_nI (n := 32) (by omega) (by decide)), fun h4 y4 => ?_⟩⟩
    rw [f3.i 65 _ rfl] at y4
    have f4 : Fr (cl [82] []) h h4 := by rw [y4]; exact f3.si rfl
    refine nx h4 ⟨f4, fun j hj => ⟨?_, ?_, ?_, ?_⟩⟩
    · by_cases q : j = i
      · subst q
        rw [y4, gi_si, if_neg (by omega), y3, gi_si, if_neg (by omega), y2, gi_si, if_neg (by omega), y1, gi_si, if_pos ⟨rfl, rfl⟩]
      · rw [y4, gi_si, if_neg (by omega), y3, gi_si, if_neg (by omega), y2, gi_si, if_neg (by omega), y1, gi_si, if_neg (by omega)]
        exact (w j (by omega)).1
    · by_cases q : j = i
      · subst q
        rw [y4, gi_si, if_neg (by omega), y3, gi_si, if_neg (by omega), y2, gi_si, if_pos ⟨rfl, rfl⟩]
      · rw [y4, gi_si, if_neg (by omega), y3, gi_si, if_neg (by omega), y2, gi_si, if_neg (by omega), y1, gi_si, if_neg (by omega)]
        exact (w j (by omega)).2.1
    · by_cases q : j = i
      · subst q
        rw [y4, gi_si, if_neg (by omega), y3, gi_si, if_pos ⟨rfl, rfl⟩]
      · rw [y4, gi_si, if_neg (by omega), y3, gi_si, if_neg (by omega), y2, gi_si, if_neg (by omega), y1, gi_si, if_neg (by omega)]
        exact (w j (by omega)).2.2.1
    · by_cases q : j = i
      · subst q
        rw [y4, gi_si, if_pos ⟨rfl, rfl⟩]
      · rw [y4, gi_si, if_neg (by omega), y3, gi_si, if_neg (by omega), y2, gi_si, if_neg (by omega), y1, gi_si, if_neg (by omega)]
        exact (w j (by omega)).2.2.2
theorem p_im12g {h : mH} {N : Nat} (hN : gi h 53 19 = nI N) (h8 : N ≤ 10) {K Q : _} (g : ∀ s, Fr (cl [83] []) h s → (∀ j, j < N → gi s 83 (3 * j) = gi h 66 j ∧ gi s 83 (3 * j + 1) = gi h 67 j ∧ gi s 83 (3 * j + 2) = gi h 68 j) → K s) : ∃ n, w_X12_image_L150 K Q n 0 h := by
  refine loop_0 (σ := mH) (fun n i s => w_X12_image_L150 K Q n (nI i) s) (fun i s => Fr (cl [83] []) h s ∧ ∀ j, j < i → gi s 83 (3 * j) = gi h 66 j ∧ gi s 83 (3 * j + 1) = gi h 67 j ∧ gi s 83 (3 * j + 2) = gi h 68 j) N h ⟨Fr.rf _ h, fun j hj => absurd hj (Nat.not_lt_zero j)⟩ (fun n s e => ?_) (fun n i s hi e nx => ?_)
  · unfold w_X12_image_L150
    rw [e.1.i 53 19 rfl, hN]
    exact ⟨fun _ => g s e.1 e.2, fun q => absurd ((nl N N (by omega) (by omega)).mpr (Nat.le_refl _)) q⟩
  · obtain ⟨f0, w⟩ := e
    unfold w_X12_image_L150
    rw [f0.i 53 19 rfl, hN, nl N i (by omega) (by omega), show (3 : Int32) = nI 3 from rfl, pk_mul, nI_1, show (2 : Int32) = nI 2 from rfl, nI_add, nI_1]
    refine ⟨fun q => absurd q (by omega), fun _ => ?_⟩
    rw [nI_clamp (show i < 2 ^ 31 by omega), nI_clamp (show 3 * i < 2 ^ 31 by omega), nI_clamp (show 3 * i + 1 < 2 ^ 31 by omega), nI_clamp (show 3 * i + 2 < 2 ^ 31 by omega)]
    refine ⟨(vp_nI (n := 10) (by omega) (by decide)), ⟨(vp_nI (n := 30) (by omega) (by decide)), fun h1 y1 => ?_⟩⟩
    rw [f0.i 66 _ rfl] at y1
    have f1 : Fr (cl [83] []) h h1 := by rw [y1]; exact f0.si rfl
    refine ⟨(vp_nI (n := 10) (by omega) (by decide)), ⟨(vp_nI (n := 30) (by omega) (by decide)), fun h2 y2 => ?_⟩⟩
    rw [f1.i 67 _ rfl] at y2
    have f2 : Fr (cl [83] []) h h2 := by rw [y2]; exact f1.si rfl
    refine ⟨(vp_nI (n := 10) (by omega) (by decide)), ⟨(vp_nI (n := 30) (by omega) (by decide)), fun h3 y3 => ?_⟩⟩
    rw [f2.i 68 _ rfl] at y3
    have f3 : Fr (cl [83] []) h h3 := by rw [y3]; exact f2.si rfl
    refine nx h3 ⟨f3, fun j hj => ⟨?_, ?_, ?_⟩⟩
    · by_cases q : j = i
      · subst q
        rw [y3, gi_si, if_neg (by omega), y2, gi_si, if_neg (by omega), y1, gi_si, if_pos ⟨rfl, rfl⟩]
      · rw [y3, gi_si, if_neg (by omega), y2, gi_si, if_neg (by omega), y1, gi_si, if_neg (by omega)]
        exact (w j (by omega)).1
    · by_cases q : j = i
      · subst q
        rw [y3, gi_si, if_neg (by omega), y2, gi_si, if_pos ⟨rfl, rfl⟩]
      · rw [y3, gi_si, if_neg (by omega), y2, gi_si, if_neg (by omega), y1, gi_si, if_neg (by omega)]
        exact (w j (by omega)).2.1
    · by_cases q : j = i
      · subst q
        rw [y3, gi_si, if_pos ⟨rfl, rfl⟩]
      · rw [y3, gi_si, if_neg (by omega), y2, gi_si, if_neg (by omega), y1, gi_si, if_neg (by omega)]
        exact (w j (by omega)).2.2
theorem clTwo {i : Nat} (hi : i < 2) : cl [3, 4] [(2, 0), (2, 1)] 2 i = true := by
  rcases (show i = 0 ∨ i = 1 by omega) with rfl | rfl <;> rfl
theorem p_ba11 {h : mH}  {K Q : _} (g : ∀ s, Fr (cl [3, 4] [(2, 0), (2, 1)]) h s → (∀ j, j < 2 → gi s 2 j = gi h 34 j ∧ gi s 3 j = gi h 35 j ∧ gi s 4 j = gi h 36 j) → K s) : ∃ n, w_X11_back_L43 K Q n 0 h := by
  refine loop_0 (σ := mH) (fun n i s => w_X11_back_L43 K Q n (nI i) s) (fun i s => Fr (cl [3, 4] [(2, 0), (2, 1)]) h s ∧ ∀ j, j < i → gi s 2 j = gi h 34 j ∧ gi s 3 j = gi h 35 j ∧ gi s 4 j = gi h 36 j) 2 h ⟨Fr.rf _ h, fun j hj => absurd hj (Nat.not_lt_zero j)⟩ (fun n s e => ?_) (fun n i s hi e nx => ?_)
  · unfold w_X11_back_L43
    exact ⟨fun _ => g s e.1 e.2, fun q => absurd ((nl 2 2 (by omega) (by omega)).mpr (Nat.le_refl _)) q⟩
  · obtain ⟨f0, w⟩ := e
    unfold w_X11_back_L43
    rw [show (2 : Int32) = nI 2 from rfl, nl 2 i (by omega) (by omega), nI_1, Int32.zero_add]
    refine ⟨fun q => absurd q (by omega), fun _ => ?_⟩
    rw [nI_clamp (show i < 2 ^ 31 by omega)]
    refine ⟨(vp_nI hi (by decide)), ⟨(vp_nI (n := 7) (by omega) (by decide)), fun h1 y1 => ?_⟩⟩
    rw [f0.i 34 _ rfl] at y1
    have f1 : Fr (cl [3, 4] [(2, 0), (2, 1)]) h h1 := by rw [y1]; exact f0.si (clTwo hi)
    refine ⟨(vp_nI hi (by decide)), ⟨(vp_nI hi (by decide)), fun h2 y2 => ?_⟩⟩
    rw [f1.i 35 _ rfl] at y2
    have f2 : Fr (cl [3, 4] [(2, 0), (2, 1)]) h h2 := by rw [y2]; exact f1.si rfl
    refine ⟨(vp_nI hi (by decide)), ⟨(vp_nI hi (by decide)), fun h3 y3 => ?_⟩⟩
    rw [f2.i 36 _ rfl] at y3
    have f3 : Fr (cl [3, 4] [(2, 0), (2, 1)]) h h3 := by rw [y3]; exact f2.si rfl
    refine nx h3 ⟨f3, fun j hj => ⟨?_, ?_, ?_⟩⟩
    · by_cases q : j = i
      · subst q
        rw [y3, gi_si, if_neg (by omega), y2, gi_si, if_neg (by omega), y1, gi_si, if_pos ⟨rfl, rfl⟩]
      · rw [y3, gi_si, if_neg (by omega), y2, gi_si, if_neg (by omega), y1, gi_si, if_neg (by omega)]
        exact (w j (by omega)).1
    · by_cases q : j = i
      · subst q
        rw [y3, gi_si, if_neg (by omega), y2, gi_si, if_pos ⟨rfl, rfl⟩]
      · rw [y3, gi_si, if_neg (by omega), y2, gi_si, if_neg (by omega), y1, gi_si, if_neg (by omega)]
        exact (w j (by omega)).2.1
    · by_cases q : j = i
      · subst q
        rw [y3, gi_si, if_pos ⟨rfl, rfl⟩]
      · rw [y3, gi_si, if_neg (by omega), y2, gi_si, if_neg (by omega), y1, gi_si, if_neg (by omega)]
        exact (w j (by omega)).2.2
theorem p_ba12 {h : mH}  {K Q : _} (g : ∀ s, Fr (cl [54, 56, 57] []) h s → (∀ j, j < 2 → gi s 54 j = gi h 79 j ∧ gi s 56 j = gi h 80 j ∧ gi s 57 j = gi h 81 j) → K s) : ∃ n, w_X12_back_L28 K Q n 0 h := by
  refine loop_0 (σ := mH) (fun n i s => w_X12_back_L28 K Q n (nI i) s) (fun i s => Fr (cl [54, 56, 57] []) h s ∧ ∀ j, j < i → gi s 54 j = gi h 79 j ∧ gi s 56 j = gi h 80 j ∧ gi s 57 j = gi h 81 j) 2 h ⟨Fr.rf _ h, fun j hj => absurd hj (Nat.not_lt_zero j)⟩ (fun n s e => ?_) (fun n i s hi e nx => ?_)
  · unfold w_X12_back_L28
    exact ⟨fun _ => g s e.1 e.2, fun q => absurd ((nl 2 2 (by omega) (by omega)).mpr (Nat.le_refl _)) q⟩
  · obtain ⟨f0, w⟩ := e
    unfold w_X12_back_L28
    rw [show (2 : Int32) = nI 2 from rfl, nl 2 i (by omega) (by omega), nI_1]
    refine ⟨fun q => absurd q (by omega), fun _ => ?_⟩
    rw [nI_clamp (show i < 2 ^ 31 by omega)]
    refine ⟨(vp_nI hi (by decide)), ⟨(vp_nI hi (by decide)), fun h1 y1 => ?_⟩⟩
    rw [f0.i 79 _ rfl] at y1
    have f1 : Fr (cl [54, 56, 57] []) h h1 := by rw [y1]; exact f0.si rfl
    refine ⟨(vp_nI hi (by decide)), ⟨(vp_nI hi (by decide)), fun h2 y2 => ?_⟩⟩
    rw [f1.i 80 _ rfl] at y2
    have f2 : Fr (cl [54, 56, 57] []) h h2 := by rw [y2]; exact f1.si rfl
    refine ⟨(vp_nI hi (by decide)), ⟨(vp_nI hi (by decide)), fun h3 y3 => ?_⟩⟩
    rw [f2.i 81 _ rfl] at y3
    have f3 : Fr (cl [54, 56, 57] []) h h3 := by rw [y3]; exact f2.si rfl
    refine nx h3 ⟨f3, fun j hj => ⟨?_, ?_, ?_⟩⟩
    · by_cases q : j = i
      · subst q
        rw [y3, gi_si, if_neg (by omega), y2, gi_si, if_neg (by omega), y1, gi_si, if_pos ⟨rfl, rfl⟩]
      · rw [y3, gi_si, if_neg (by omega), y2, gi_si, if_neg (by omega), y1, gi_si, if_neg (by omega)]
        exact (w j (by omega)).1
    · by_cases q : j = i
      · subst q
        rw [y3, gi_si, if_neg (by omega), y2, gi_si, if_pos ⟨rfl, rfl⟩]
      · rw [y3, gi_si, if_neg (by omega), y2, gi_si, if_neg (by omega), y1, gi_si, if_neg (by omega)]
        exact (w j (by omega)).2.1
    · by_cases q : j = i
      · subst q
        rw [y3, gi_si, if_pos ⟨rfl, rfl⟩]
      · rw [y3, gi_si, if_neg (by omega), y2, gi_si, if_neg (by omega), y1, gi_si, if_neg (by omega)]
        exact (w j (by omega)).2.2
theorem p_ba12s {h : mH} {N : Nat} (hN : gi h 53 14 = nI N) (h8 : N ≤ 8) {K Q : _} (g : ∀ s, Fr (cl [62, 63, 64, 65] []) h s → (∀ j, j < N → gi s 62 j = gi h 82 (4 * j) ∧ gi s 63 j = gi h 82 (4 * j + 1) ∧ gi s 64 j = gi h 82 (4 * j + 2) ∧ gi s 65 j = gi h 82 (4 * j + 3)) → K s) : ∃ n, w_X12_back_L77 K Q n 0 h := by
  refine loop_0 (σ := mH) (fun n i s => w_X12_back_L77 K Q n (nI i) s) (fun i s => Fr (cl [62, 63, 64, 65] []) h s ∧ ∀ j, j < i → gi s 62 j = gi h 82 (4 * j) ∧ gi s 63 j = gi h 82 (4 * j + 1) ∧ gi s 64 j = gi h 82 (4 * j + 2) ∧ gi s 65 j = gi h 82 (4 * j + 3)) N h ⟨Fr.rf _ h, fun j hj => absurd hj (Nat.not_lt_zero j)⟩ (fun n s e => ?_) (fun n i s hi e nx => ?_)
  · unfold w_X12_back_L77
    rw [e.1.i 53 14 rfl, hN]
    exact ⟨fun _ => g s e.1 e.2, fun q => absurd ((nl N N (by omega) (by omega)).mpr (Nat.le_refl _)) q⟩
  · obtain ⟨f0, w⟩ := e
    unfold w_X12_back_L77
    rw [f0.i 53 14 rfl, hN, nl N i (by omega) (by omega), show (4 : Int32) = nI 4 from rfl, pk_mul, nI_1, show (2 : Int32) = nI 2 from rfl, nI_add, show (3 : Int32) = nI 3 from rfl, nI_add, nI_1]
    refine ⟨fun q => absurd q (by omega), fun _ => ?_⟩
    rw [nI_clamp (show i < 2 ^ 31 by omega), nI_clamp (show 4 * i < 2 ^ 31 by omega), nI_clamp (show 4 * i + 1 < 2 ^ 31 by omega), nI_clamp (show 4 * i + 2 < 2 ^ 31 by omega), nI_clamp (show 4 * i + 3 < 2 ^ 31 by omega)]
    refine ⟨(vp_nI (n := 32) (by omega) (by decide)), ⟨(vp_nI (n := 8) (by omega) (by decide)), fun h1 y1 => ?_⟩⟩
    rw [f0.i 82 _ rfl] at y1
    have f1 : Fr (cl [62, 63, 64, 65] []) h h1 := by rw [y1]; exact f0.si rfl
    refine ⟨(vp_nI (n := 32) (by omega) (by decide)), ⟨(vp_nI (n := 8) (by omega) (by decide)), fun h2 y2 => ?_⟩⟩
    rw [f1.i 82 _ rfl] at y2
    have f2 : Fr (cl [62, 63, 64, 65] []) h h2 := by rw [y2]; exact f1.si rfl
    refine ⟨(vp_nI (n := 32) (by omega) (by decide)), ⟨(vp_nI (n := 8) (by omega) (by decide)), fun h3 y3 => ?_⟩⟩
    rw [f2.i 82 _ rfl] at y3
    have f3 : Fr (cl [62, 63, 64, 65] []) h h3 := by rw [y3]; exact f2.si rfl
    refine ⟨(vp_nI (n := 32) (by omega) (by decide)), ⟨(vp_nI (n := 8) (by omega) (by decide)), fun h4 y4 => ?_⟩⟩
    rw [f3.i 82 _ rfl] at y4
    have f4 : Fr (cl [62, 63, 64, 65] []) h h4 := by rw [y4]; exact f3.si rfl
    refine nx h4 ⟨f4, fun j hj => ⟨?_, ?_, ?_, ?_⟩⟩
    · by_cases q : j = i
      · subst q
        rw [y4, gi_si, if_neg (by omega), y3, gi_si, if_neg (by omega), y2, gi_si, if_neg (by omega), y1, gi_si, if_pos ⟨rfl, rfl⟩]
      · rw [y4, gi_si, if_neg (by omega), y3, gi_si, if_neg (by omega), y2, gi_si, if_neg (by omega), y1, gi_si, if_neg (by omega)]
        exact (w j (by omega)).1
    · by_cases q : j = i
      · subst q
        rw [y4, gi_si, if_neg (by omega), y3, gi_si, if_neg (by omega), y2, gi_si, if_pos ⟨rfl, rfl⟩]
      · rw [y4, gi_si, if_neg (by omega), y3, gi_si, if_neg (by omega), y2, gi_si, if_neg (by omega), y1, gi_si, if_neg (by omega)]
        exact (w j (by omega)).2.1
    · by_cases q : j = i
      · subst q
        rw [y4, gi_si, if_neg (by omega), y3, gi_si, if_pos ⟨rfl, rfl⟩]
      · rw [y4, gi_si, if_neg (by omega), y3, gi_si, if_neg (by omega), y2, gi_si, if_neg (by omega), y1, gi_si, if_neg (by omega)]
        exact (w j (by omega)).2.2.1
    · by_cases q : j = i
      · subst q
        rw [y4, gi_si, if_pos ⟨rfl, rfl⟩]
      · rw [y4, gi_si, if_neg (by omega), y3, gi_si, if_neg (by omega), y2, gi_si, if_neg (by omega), y1, gi_si, if_neg (by omega)]
        exact (w j (by omega)).2.2.2
theorem p_ba12g {h : mH} {N : Nat} (hN : gi h 53 19 = nI N) (h8 : N ≤ 10) {K Q : _} (g : ∀ s, Fr (cl [66, 67, 68] []) h s → (∀ j, j < N → gi s 66 j = gi h 83 (3 * j) ∧ gi s 67 j = gi h 83 (3 * j + 1) ∧ gi s 68 j = gi h 83 (3 * j + 2)) → K s) : ∃ n, w_X12_back_L155 K Q n 0 h := by
  refine loop_0 (σ := mH) (fun n i s => w_X12_back_L155 K Q n (nI i) s) (fun i s => Fr (cl [66, 67, 68] []) h s ∧ ∀ j, j < i → gi s 66 j = gi h 83 (3 * j) ∧ gi s 67 j = gi h 83 (3 * j + 1) ∧ gi s 68 j = gi h 83 (3 * j + 2)) N h ⟨Fr.rf _ h, fun j hj => absurd hj (Nat.not_lt_zero j)⟩ (fun n s e => ?_) (fun n i s hi e nx => ?_)
  · unfold w_X12_back_L155
    rw [e.1.i 53 19 rfl, hN]
    exact ⟨fun _ => g s e.1 e.2, fun q => absurd ((nl N N (by omega) (by omega)).mpr (Nat.le_refl _)) q⟩
  · obtain ⟨f0, w⟩ := e
    unfold w_X12_back_L155
    rw [f0.i 53 19 rfl, hN, nl N i (by omega) (by omega), show (3 : Int32) = nI 3 from rfl, pk_mul, nI_1, show (2 : Int32) = nI 2 from rfl, nI_add, nI_1]
    refine ⟨fun q => absurd q (by omega), fun _ => ?_⟩
    rw [nI_clamp (show i < 2 ^ 31 by omega), nI_clamp (show 3 * i < 2 ^ 31 by omega), nI_clamp (show 3 * i + 1 < 2 ^ 31 by omega), nI_clamp (show 3 * i + 2 < 2 ^ 31 by omega)]
    refine ⟨(vp_nI (n := 30) (by omega) (by decide)), ⟨(vp_nI (n := 10) (by omega) (by decide)), fun h1 y1 => ?_⟩⟩
    rw [f0.i 83 _ rfl] at y1
    have f1 : Fr (cl [66, 67, 68] []) h h1 := by rw [y1]; exact f0.si rfl
    refine ⟨(vp_nI (n := 30) (by omega) (by decide)), ⟨(vp_nI (n := 10) (by omega) (by decide)), fun h2 y2 => ?_⟩⟩
    rw [f1.i 83 _ rfl] at y2
    have f2 : Fr (cl [66, 67, 68] []) h h2 := by rw [y2]; exact f1.si rfl
    refine ⟨(vp_nI (n := 30) (by omega) (by decide)), ⟨(vp_nI (n := 10) (by omega) (by decide)), fun h3 y3 => ?_⟩⟩
    rw [f2.i 83 _ rfl] at y3
    have f3 : Fr (cl [66, 67, 68] []) h h3 := by rw [y3]; exact f2.si rfl
    refine nx h3 ⟨f3, fun j hj => ⟨?_, ?_, ?_⟩⟩
    · by_cases q : j = i
      · subst q
        rw [y3, gi_si, if_neg (by omega), y2, gi_si, if_neg (by omega), y1, gi_si, if_pos ⟨rfl, rfl⟩]
      · rw [y3, gi_si, if_neg (by omega), y2, gi_si, if_neg (by omega), y1, gi_si, if_neg (by omega)]
        exact (w j (by omega)).1
    · by_cases q : j = i
      · subst q
        rw [y3, gi_si, if_neg (by omega), y2, gi_si, if_pos ⟨rfl, rfl⟩]
      · rw [y3, gi_si, if_neg (by omega), y2, gi_si, if_neg (by omega), y1, gi_si, if_neg (by omega)]
        exact (w j (by omega)).2.1
    · by_cases q : j = i
      · subst q
        rw [y3, gi_si, if_pos ⟨rfl, rfl⟩]
      · rw [y3, gi_si, if_neg (by omega), y2, gi_si, if_neg (by omega), y1, gi_si, if_neg (by omega)]
        exact (w j (by omega)).2.2
