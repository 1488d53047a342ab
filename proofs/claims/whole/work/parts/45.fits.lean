/-! PURE: which minutes fit -/
def snum (h : mH) : Nat := (gi h 53 14).toNatClampNeg
def seesI (h : mH) (i m : Nat) : Prop := sees h (gi h 62 i) (gi h 63 i) (gi h 64 i).toNatClampNeg (gi h 65 i).toNatClampNeg m
def fitP (h : mH) (a : Int32) (m : Nat) : Prop := ∀ j, j < snum h → a = nI j ∨ seesI h j m
def fitU (h : mH) (a : Int32) (i m : Nat) : Prop := ∀ j, j < i → a = nI j ∨ seesI h j m
theorem nv_fr {P : Nat → Nat → Bool} {h s : mH} (f : Fr P h s) (d4 : ∀ k, P 54 k = false) (d5 : ∀ k, P 55 k = false) (d3 : P 53 3 = false) (c p : Int32) (j : Nat) : nv s c p j = nv h c p j := by
  unfold nv
  rw [prt_fr f d4 d5, f.i 53 3 d3]
theorem sees_fr {P : Nat → Nat → Bool} {h s : mH} (f : Fr P h s) (d4 : ∀ k, P 54 k = false) (d5 : ∀ k, P 55 k = false) (d3 : P 53 3 = false) (c p : Int32) (x y m : Nat) : sees s c p x y m = sees h c p x y m := by
  unfold sees
  simp only [nv_fr f d4 d5 d3]
theorem seesI_fr {P : Nat → Nat → Bool} {h s : mH} (f : Fr P h s) (d : ∀ k, (P 54 k || P 55 k || P 62 k || P 63 k || P 64 k || P 65 k || P 53 3 || P 53 14) = false) (i m : Nat) : seesI s i m = seesI h i m := by
  have d1 : ∀ k, P 54 k = false ∧ P 55 k = false ∧ P 62 k = false ∧ P 63 k = false ∧ P 64 k = false ∧ P 65 k = false ∧ P 53 3 = false := fun k => by
    have := d k
    simp only [Bool.or_eq_false_iff] at this
    exact ⟨this.1.1.1.1.1.1.1, this.1.1.1.1.1.1.2, this.1.1.1.1.1.2, this.1.1.1.1.2, this.1.1.1.2, this.1.1.2, this.1.2⟩
  unfold seesI
  rw [sees_fr f (fun k => (d1 k).1) (fun k => (d1 k).2.1) (d1 0).2.2.2.2.2.2, f.i 62 i (d1 i).2.2.1, f.i 63 i (d1 i).2.2.2.1, f.i 64 i (d1 i).2.2.2.2.1, f.i 65 i (d1 i).2.2.2.2.2.1]
theorem fitP_fr {P : Nat → Nat → Bool} {h s : mH} (f : Fr P h s) (d : ∀ k, (P 54 k || P 55 k || P 62 k || P 63 k || P 64 k || P 65 k || P 53 3 || P 53 14) = false) (a : Int32) : fitP s a = fitP h a := by
  funext m
  have d1 : P 53 14 = false := by
    have := d 0
    simp only [Bool.or_eq_false_iff] at this
    exact this.2
  unfold fitP snum
  simp only [seesI_fr f d, f.i 53 14 d1]
/-- the sights of the relation, as numbers -/
theorem RS.nth {h : mH} (r : RS h) {i : Nat} (hi : i < snum h) : ∃ n f t, n ≤ 8 ∧ gi h 5 3 = nI n ∧ gi h 53 14 = nI n ∧ i < n ∧ gi h 6 (4 * i) = gi h 62 i ∧ gi h 6 (4 * i + 1) = gi h 63 i ∧ gi h 6 (4 * i + 2) = nI f ∧ gi h 6 (4 * i + 3) = nI t ∧ gi h 64 i = nI f ∧ gi h 65 i = nI t ∧ f ≤ t ∧ t ≤ 99 ∧ inR (gi h 62 i) 0 1 ∧ inR (gi h 63 i) 0 59 := by
  obtain ⟨-, -, n, hn, c1, d1, e1⟩ := r
  have hi' : i < n := by
    unfold snum at hi
    rw [d1, nI_clamp (by omega)] at hi
    exact hi
  obtain ⟨a1, a2, a3, a4, s1, s2, s3, s4⟩ := e1 i hi'
  obtain ⟨f, hf, ef⟩ := inR_nI (N := 99) rfl (by decide) s3
  have h99 : (99 : Int32).toInt = 99 := rfl
  rw [ef, inR_i, nI_toInt (by omega), h99] at s4
  have et : gi h 65 i = nI (gi h 65 i).toInt.toNat := nI_of_i (by omega)
  exact ⟨n, f, (gi h 65 i).toInt.toNat, hn, c1, d1, hi', a1, a2, by rw [a3, ef], by rw [a4]; exact et, ef, et, by omega, by omega, s1, s2⟩
theorem RS.num {h : mH} (r : RS h) : snum h ≤ 8 ∧ gi h 5 3 = nI (snum h) ∧ gi h 53 14 = nI (snum h) := by
  obtain ⟨-, -, n, hn, c1, d1, e1⟩ := r
  have : snum h = n := by
    unfold snum
    rw [d1, nI_clamp (by omega)]
  rw [this]
  exact ⟨hn, c1, d1⟩
theorem e_told {h : mH} {i t n : Nat} (h1 : gi h 5 1 = 4) (h3 : gi h 5 3 = nI n) (hn : n ≤ 8) (hi : i < n) (ht : t < 4) {Q : Int32 → mH → Prop} (K : Q (gi h 6 (4 * i + t)) h) : w_X2_told 5 (nI i) (nI t) h Q := by
  unfold w_X2_told
  have r5 : rf 5 2 = 6 := by decide
  have l6 : lenOf 6 = 32 := by decide
  rw [e_11_one, h3, bi_1 ⟨nI_pos (by omega), (nlt i n (by omega) (by omega)).mpr hi⟩]
  refine ⟨fun q => absurd q (by decide), fun _ => ?_⟩
  rw [e_11_one, h1, show (4 : Int32) = nI 4 from rfl, bi_1 ⟨nI_pos (by omega), (nlt t 4 (by omega) (by decide)).mpr ht⟩]
  refine ⟨fun q => absurd q (by decide), fun _ => ?_⟩
  rw [r5, l6, pk_mul, nI_add, nI_clamp (by omega), Nat.mul_comm i 4]
  exact ⟨vp_nI (by omega) (by decide), K⟩
noncomputable def bn (p : Prop) : Int32 := bi p
theorem p_anew {h : mH} {Q : mH → Prop} (g : ∀ s, Fr (cl [20, 21] []) h s → (∀ m, m < 720 → gi s 20 m = 1) → Q s) : w_X3_startAnew h Q := by
  unfold w_X3_startAnew
  refine loop_0 (σ := mH) (fun n i s => w_X3_startAnew_L2 _ _ n (nI i) s) (fun i s => Fr (cl [20, 21] []) h s ∧ ∀ m, m < i → gi s 20 m = 1) 720 h ⟨Fr.rf _ h, fun m hm => absurd hm (Nat.not_lt_zero m)⟩ (fun n s e => ?_) (fun n i s hi e nx => ?_)
  · unfold w_X3_startAnew_L2
    exact ⟨fun _ => g s e.1 e.2, fun q => absurd ((nl 720 720 (by decide) (by decide)).mpr (Nat.le_refl _)) q⟩
  · unfold w_X3_startAnew_L2
    rw [show (720 : Int32) = nI 720 from rfl, nl 720 i (by decide) (by omega), nI_1, nI_clamp (by omega)]
    refine ⟨fun q => absurd q (by omega), fun _ => ⟨vp_nI (by omega) (by decide), fun h1 e1 => nx h1 ?_⟩⟩
    subst e1
    refine ⟨e.1.si rfl, fun m hm => ?_⟩
    rw [gi_si]
    by_cases q : m = i
    · rw [if_pos ⟨rfl, q⟩]
      rfl
    · rw [if_neg (fun z => q z.2)]
      exact e.2 m (by omega)
theorem p_findAll {h : mH} {Q : mH → Prop} (rA : RA h) (rS : RS h) {a : Int32} (g : ∀ s, Fr (cl [20, 21] []) h s → (∀ m, m < 720 → gi s 20 m = bi (fitP h a m)) → Q s) : w_X3_findAll 5 a h Q := by
  unfold w_X3_findAll
  obtain ⟨hn, n1, n2⟩ := rS.num
  refine p_anew (fun s0 f0 e0 => ?_)
  refine loop_0 (σ := mH) (fun n i s => w_X3_findAll_L7 _ _ 5 a n (nI i) s) (fun i s => Fr (cl [20, 21] []) h s ∧ ∀ m, m < 720 → gi s 20 m = bi (fitU h a i m)) (snum h) s0 ⟨f0, fun m hm => by rw [e0 m hm, bi_1 (p := fitU h a 0 m) (fun j hj => absurd hj (Nat.not_lt_zero j))]⟩ (fun n s e => ?_) (fun n i s hi e nx => ?_)
  · unfold w_X3_findAll_L7
    rw [e.1.i 5 3 rfl, n1]
    exact ⟨fun _ => g s e.1 e.2, fun q => absurd ((nl _ _ (by omega) (by omega)).mpr (Nat.le_refl _)) q⟩
  · obtain ⟨n', f, t, -, -, -, -, a1, a2, a3, a4, b3, b4, hft, ht, c1, c2⟩ := rS.nth hi
    have k1 : gi s 5 1 = 4 := by rw [e.1.i 5 1 rfl]; exact rS.2.1
    have k3 : gi s 5 3 = nI (snum h) := by rw [e.1.i 5 3 rfl]; exact n1
    have fitS : ∀ m, fitU h a (i + 1) m ↔ fitU h a i m ∧ (a = nI i ∨ seesI h i m) := fun m => ⟨fun w => ⟨fun j hj => w j (by omega), w i (by omega)⟩, fun w j hj => by
      by_cases q : j = i
      · subst q
        exact w.2
      · exact w.1 j (by omega)⟩
    unfold w_X3_findAll_L7
    rw [k3, nl _ _ (by omega) (by omega), nI_1]
    refine ⟨fun q => absurd q (by omega), fun _ => ⟨fun q => nx s ⟨e.1, fun m hm => ?_⟩, fun q => ?_⟩⟩
    · rw [e.2 m hm]
      exact bi_i ((fitS m).trans ⟨fun w => w.1, fun w => ⟨w, Or.inl q.symm⟩⟩).symm
    · refine e_told (t := 0) k1 k3 hn hi (by decide) (e_told (t := 1) k1 k3 hn hi (by decide) (e_told (t := 2) k1 k3 hn hi (by decide) (e_told (t := 3) k1 k3 hn hi (by decide) ?_)))
      rw [e.1.i 6 _ rfl, e.1.i 6 _ rfl, e.1.i 6 _ rfl, e.1.i 6 _ rfl, Nat.add_zero, a1, a2, a3, a4]
      refine p_strike (rA.ag (e.1.ag rfl)) c1 c2 hft ht (fun s2 f2 e2 => nx s2 ⟨e.1.tr f2, fun m hm => ?_⟩)
      have e3 := e2 m hm
      rw [sees_fr e.1 (fun _ => rfl) (fun _ => rfl) rfl] at e3
      have sE : seesI h i m ↔ sees h (gi h 62 i) (gi h 63 i) f t m := by
        unfold seesI
        rw [b3, b4, nI_clamp (by omega), nI_clamp (by omega)]
      by_cases w : sees h (gi h 62 i) (gi h 63 i) f t m
      · rw [e3.1 w, e.2 m hm]
        exact bi_i ((fitS m).trans ⟨fun y => y.1, fun y => ⟨y, Or.inr (sE.mpr w)⟩⟩).symm
      · rw [e3.2 w, bi_0]
        intro y
        rcases ((fitS m).mp y).2 with y | y
        · exact q y.symm
        · exact w (sE.mp y)
theorem p_howMany {h : mH} {Q : Int32 → mH → Prop} {p : Nat → Prop} (e : ∀ m, m < 720 → gi h 20 m = bi (p m)) (g : Q (nI (cnU p 720)) h) : w_X3_howMany h Q := by
  unfold w_X3_howMany
  have := loop_0 (σ := Int32 × mH) (fun n i s => w_X3_howMany_L4 (fun l1_4 h5 => Q l1_4 h5) Q n s.1 (nI i) s.2) (fun i s => s.2 = h ∧ s.1 = nI (cnU p i)) 720 (0, h) ⟨rfl, rfl⟩ (fun n s e1 => ?_) (fun n i s hi e1 nx => ?_)
  · exact this
  · obtain ⟨x, t⟩ := s
    obtain ⟨rfl, e2⟩ := e1
    have e3 : x = nI (cnU p 720) := e2
    subst e3
    unfold w_X3_howMany_L4
    exact ⟨fun _ => g, fun q => absurd ((nl 720 720 (by decide) (by decide)).mpr (Nat.le_refl _)) q⟩
  · obtain ⟨x, t⟩ := s
    obtain ⟨e0, e2⟩ := e1
    have e0' : t = h := e0
    subst e0'
    have e3 : x = nI (cnU p i) := e2
    subst e3
    unfold w_X3_howMany_L4
    rw [show (720 : Int32) = nI 720 from rfl, nl 720 i (by decide) (by omega), nI_clamp (by omega), e i hi, nI_1]
    refine ⟨fun q => absurd q (by omega), fun _ => ⟨vp_nI (by omega) (by decide), fun x1 y1 x2 y2 => nx (x2, t) ⟨rfl, ?_⟩⟩⟩
    subst y1
    show x2 = _
    rw [y2]
    by_cases q : p i
    · rw [cnU_y q, bi_1 q, if_neg (by decide), nI_1]
    · rw [cnU_n q, bi_0 q, if_pos rfl]
      rw [show (0 : Int32) = nI 0 from rfl, nI_add, Nat.add_zero]
/-- the reference: is one sight seen at a minute -/
theorem e_12_seen {h : mH} {Q : Int32 → mH → Prop} (rS : RS h) {i m : Nat} (hi : i < snum h) (hm : m < 720) (K : Q (bi (seesI h i m)) h) : w_X12_isSeen (nI i) (nI m) h Q := by
  obtain ⟨n', f, t, hn', -, -, hi', -, -, -, -, b3, b4, hft, ht, c1, c2⟩ := rS.nth hi
  have hv : vp_in (nI i) 8 := vp_nI (by omega) (by decide)
  have ci : (nI i).toNatClampNeg = i := nI_clamp (by omega)
  unfold w_X12_isSeen
  refine ⟨hv, fun x1 e1 => ?_⟩
  rw [ci, b3] at e1
  subst e1
  have sE : seesI h i m ↔ sees h (gi h 62 i) (gi h 63 i) f t m := by
    unfold seesI
    rw [b3, b4, nI_clamp (by omega), nI_clamp (by omega)]
  -- the first index at which it is seen, or past the end
  obtain ⟨J, hJ, st, go⟩ := least (p := fun j => t < f + j ∨ nv h (gi h 62 i) (gi h 63 i) (m + (f + j))) (t + 1 - f) (Or.inl (by omega))
  have := loop_0 (σ := mH) (fun n j s => w_X12_isSeen_L7 (fun h6 => Q 0 h6) Q (nI i) (nI m) n (nI (f + j)) s) (fun j s => s = h) J h rfl (fun n s e => ?_) (fun n j s hj e nx => ?_)
  · exact this
  · subst e
    unfold w_X12_isSeen_L7
    rw [ci, b4, nlt _ _ (by omega) (by omega)]
    refine ⟨hv, fun q => ?_, fun q => ⟨hv, ?_⟩⟩
    · rw [bi_0 (fun w => ?_)] at K
      · exact K
      · obtain ⟨x, h1, h2, h3⟩ := sE.mp w
        refine go (x - f) (by omega) (Or.inr ?_)
        rw [show f + (x - f) = x by omega]
        exact h3
    · have y : nv s (gi s 62 i) (gi s 63 i) (m + (f + J)) := st.resolve_left q
      rw [e_12_part c1, nI_add]
      refine ⟨hv, ?_⟩
      rw [e_12_near]
      rw [bi_1 (sE.mpr ⟨f + J, by omega, by omega, y⟩)] at K
      rw [show nr (gi s 53 3) (prt s (gi s 62 i) (nI (m + (f + J)))) (gi s 63 i) = nv s (gi s 62 i) (gi s 63 i) (m + (f + J)) from rfl, bi_1 y]
      exact ⟨fun q => absurd q (by decide), fun _ => K⟩
  · subst e
    have hj2 := go j hj
    unfold w_X12_isSeen_L7
    rw [ci, b4, nlt _ _ (by omega) (by omega)]
    refine ⟨hv, fun q => absurd (Or.inl q) hj2, fun q => ⟨hv, ?_⟩⟩
    rw [e_12_part c1, nI_add]
    refine ⟨hv, ?_⟩
    rw [e_12_near, nI_1]
    have y : ¬ nv s (gi s 62 i) (gi s 63 i) (m + (f + j)) := fun w => hj2 (Or.inr w)
    rw [show nr (gi s 53 3) (prt s (gi s 62 i) (nI (m + (f + j)))) (gi s 63 i) = nv s (gi s 62 i) (gi s 63 i) (m + (f + j)) from rfl, bi_0 y]
    exact ⟨fun _ => nx _ rfl, fun w => absurd rfl w⟩
theorem p_ff19 {h : mH} {K Q : _} (rS : RS h) {a : Int32} {m : Nat} (hm : m < 720) (g : ∀ v, v = bi (fitP h a m) → K v h) : ∃ n, w_X12_findFits_L19 K Q a (nI m) n 1 0 h := by
  obtain ⟨hn, n1, n2⟩ := rS.num
  have fitS : ∀ i, fitU h a (i + 1) m ↔ fitU h a i m ∧ (a = nI i ∨ seesI h i m) := fun i => ⟨fun w => ⟨fun j hj => w j (by omega), w i (by omega)⟩, fun w j hj => by
    by_cases q : j = i
    · subst q
      exact w.2
    · exact w.1 j (by omega)⟩
  have := loop_0 (σ := Int32 × mH) (fun n j s => w_X12_findFits_L19 K Q a (nI m) n s.1 (nI j) s.2) (fun j x => x.2 = h ∧ x.1 = bi (fitU h a j m)) (snum h) (1, h) ⟨rfl, (bi_1 (p := fitU h a 0 m) (fun j hj => absurd hj (Nat.not_lt_zero j))).symm⟩ (fun n x ex => ?_) (fun n j x hj ex nx => ?_)
  · exact this
  · obtain ⟨v, x⟩ := x
    obtain ⟨e0, e1⟩ := ex
    have e0' : x = h := e0
    subst e0'
    unfold w_X12_findFits_L19
    rw [n2]
    exact ⟨fun _ => g v e1, fun q => absurd ((nl _ _ (by omega) (by omega)).mpr (Nat.le_refl _)) q⟩
  · obtain ⟨v, x⟩ := x
    obtain ⟨e0, e1⟩ := ex
    have e0' : x = h := e0
    subst e0'
    have e1' : v = bi (fitU x a j m) := e1
    subst e1'
    unfold w_X12_findFits_L19
    rw [n2, nl _ _ (by omega) (by omega)]
    refine ⟨fun q => absurd q (by omega), fun _ => ⟨fun q => ?_, fun q => ⟨fun q2 => ?_, fun q2 => e_12_seen rS hj hm (fun x4 e4 => ?_)⟩⟩⟩
    · have q' := bi_z.mp q
      rw [nI_1]
      exact nx (0, x) ⟨rfl, (bi_0 (fun w => q' ((fitS j).mp w).1)).symm⟩
    · have q' : fitU x a j m := Classical.byContradiction fun w => q (bi_z.mpr w)
      rw [nI_1]
      exact nx (1, x) ⟨rfl, (bi_1 ((fitS j).mpr ⟨q', Or.inl q2.symm⟩)).symm⟩
    · have q' : fitU x a j m := Classical.byContradiction fun w => q (bi_z.mpr w)
      rw [nI_1]
      refine nx (x4, x) ⟨rfl, ?_⟩
      show x4 = _
      rw [e4]
      by_cases w : seesI x j m
      · rw [bi_1 w, if_neg (by decide), bi_1 ((fitS j).mpr ⟨q', Or.inr w⟩)]
      · rw [bi_0 w, if_pos rfl, bi_0 (fun y => (((fitS j).mp y).2.elim (fun z => q2 z.symm) w))]
theorem p_findFits {h : mH} {Q : mH → Prop} (rS : RS h) {a : Int32} (g : ∀ s, Fr (cl [77] [(53, 38)]) h s → (∀ m, m < 720 → gi s 77 m = bi (fitP h a m)) → gi s 53 38 = nI (cnU (fitP h a) 720) → Q s) : w_X12_findFits a h Q := by
  unfold w_X12_findFits
  intro h1 e1
  subst e1
  refine loop_0 (σ := mH) (fun n i s => w_X12_findFits_L7 _ _ a n (nI i) s) (fun i s => Fr (cl [77] [(53, 38)]) h s ∧ (∀ m, m < i → gi s 77 m = bi (fitP h a m)) ∧ gi s 53 38 = nI (cnU (fitP h a) i)) 720 (si h 53 38 0) ⟨(Fr.rf _ h).si rfl, fun m hm => absurd hm (Nat.not_lt_zero m), rfl⟩ (fun n s e => ?_) (fun n i s hi e nx => ?_)
  · unfold w_X12_findFits_L7
    exact ⟨fun _ => g s e.1 e.2.1 e.2.2, fun q => absurd ((nl 720 720 (by decide) (by decide)).mpr (Nat.le_refl _)) q⟩
  · unfold w_X12_findFits_L7
    rw [show (720 : Int32) = nI 720 from rfl, nl 720 i (by decide) (by omega)]
    refine ⟨fun q => absurd q (by omega), fun _ => p_ff19 (rS.ag (e.1.ag rfl)) hi (fun v ev => ⟨vp_nI (by omega) (by decide), fun h8 e8 => ?_⟩)⟩
    rw [fitP_fr e.1 (fun _ => rfl)] at ev
    rw [nI_1, nI_clamp (by omega)] at *
    subst e8
    have nv' : vp_nar .boolean v = v := by
      rw [ev]
      rcases bi_01 (fitP h a i) with y | y <;> rw [y] <;> rfl
    rw [nv']
    have row : ∀ x, ∀ m, m < i + 1 → gi (si (si s 77 i v) 53 38 x) 77 m = bi (fitP h a m) ∧ gi (si s 77 i v) 77 m = bi (fitP h a m) := fun x m hm => by
      have : gi (si s 77 i v) 77 m = bi (fitP h a m) := by
        rw [gi_si]
        by_cases q : m = i
        · subst q
          rw [if_pos ⟨rfl, rfl⟩]
          exact ev
        · rw [if_neg (fun z => q z.2)]
          exact e.2.1 m (by omega)
      refine ⟨?_, this⟩
      rw [gi_si, if_neg (fun z => absurd z.1 (by decide))]
      exact this
    refine ⟨fun q => nx _ ⟨e.1.si rfl, fun m hm => (row 0 m hm).2, ?_⟩, fun q h9 e9 => nx h9 ?_⟩
    · rw [ev] at q
      rw [cnU_n (bi_z.mp q)]
      exact e.2.2
    · subst e9
      refine ⟨(e.1.si rfl).si rfl, fun m hm => (row _ m hm).1, ?_⟩
      rw [ev] at q
      have q' : fitP h a i := Classical.byContradiction fun w => q (bi_z.mpr w)
      rw [cnU_y q', gi_si, if_pos ⟨rfl, rfl⟩, gi_si, if_neg (fun z => absurd z.1 (by decide)), e.2.2, nI_1]
