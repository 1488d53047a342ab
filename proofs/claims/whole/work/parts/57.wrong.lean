/-! PURE: which readings at the gun are wrong -/
def gnum (h : mH) : Nat := (gi h 53 19).toNatClampNeg
theorem RG.num {h : mH} (r : RG h) : gnum h ≤ 10 ∧ gi h 7 3 = nI (gnum h) ∧ gi h 53 19 = nI (gnum h) := by
  obtain ⟨-, -, n, hn, c1, d1, e1⟩ := r
  have : gnum h = n := by
    unfold gnum
    rw [d1, nI_clamp (by omega)]
  rw [this]
  exact ⟨hn, c1, d1⟩
theorem RG.nth {h : mH} (r : RG h) {i : Nat} (hi : i < gnum h) : gi h 8 (3 * i) = gi h 66 i ∧ gi h 8 (3 * i + 1) = gi h 67 i ∧ gi h 8 (3 * i + 2) = gi h 68 i ∧ inR (gi h 68 i) 0 59 := by
  obtain ⟨-, -, n, hn, c1, d1, e1⟩ := r
  have hi' : i < n := by
    unfold gnum at hi
    rw [d1, nI_clamp (by omega)] at hi
    exact hi
  obtain ⟨a1, a2, a3, s1, s2, s3⟩ := e1 i hi'
  exact ⟨a1, a2, a3, s3⟩
theorem e_toldG {h : mH} {i t n : Nat} (h1 : gi h 7 1 = 3) (h3 : gi h 7 3 = nI n) (hn : n ≤ 10) (hi : i < n) (ht : t < 3) {Q : Int32 → mH → Prop} (K : Q (gi h 8 (3 * i + t)) h) : w_X2_told 7 (nI i) (nI t) h Q := by
  unfold w_X2_told
  have r5 : rf 7 2 = 8 := by decide
  have l6 : lenOf 8 = 30 := by decide
  rw [e_11_one, h3, bi_1 ⟨nI_pos (by omega), (nlt i n (by omega) (by omega)).mpr hi⟩]
  refine ⟨fun q => absurd q (by decide), fun _ => ?_⟩
  rw [e_11_one, h1, show (3 : Int32) = nI 3 from rfl, bi_1 ⟨nI_pos (by omega), (nlt t 3 (by omega) (by decide)).mpr ht⟩]
  refine ⟨fun q => absurd q (by decide), fun _ => ?_⟩
  rw [r5, l6, pk_mul, nI_add, nI_clamp (by omega), Nat.mul_comm i 3]
  exact ⟨vp_nI (by omega) (by decide), K⟩
def wrg (h : mH) (c o g : Int32) (i : Nat) : Prop := gi h 66 i = c ∧ ¬ nr (gi h 53 3) (ptf c (shw (720 * gi h 67 i) o g)) (gi h 68 i)
noncomputable def wbm (h : mH) (c o g : Int32) : Nat → Nat
  | 0 => 0
  | n + 1 => wbm h c o g n + @ite Nat (wrg h c o g n) (Classical.propDecidable _) (2 ^ n) 0
theorem wbm_y {h : mH} {c o g : Int32} {n : Nat} (q : wrg h c o g n) : wbm h c o g (n + 1) = wbm h c o g n + 2 ^ n := by rw [wbm, if_pos q]
theorem wbm_n {h : mH} {c o g : Int32} {n : Nat} (q : ¬ wrg h c o g n) : wbm h c o g (n + 1) = wbm h c o g n := by rw [wbm, if_neg q, Nat.add_zero]
theorem wbm_lt {h : mH} {c o g : Int32} (n : Nat) : wbm h c o g n < 2 ^ n := by
  induction n with
  | zero => exact Nat.zero_lt_one
  | succ n ih =>
    have := Nat.pow_succ 2 n
    by_cases q : wrg h c o g n
    · rw [wbm_y q]
      omega
    · rw [wbm_n q]
      omega
theorem or_bit : ∀ n, n < 10 → ∀ a, a < 2 ^ n → (nI a ||| ishl 1 (nI n)) = nI (a + 2 ^ n) := by decide +kernel
theorem p_wrong12 {h : mH} (rG : RG h) {c o g : Int32} {Q : Int32 → mH → Prop} (K : Q (nI (wbm h c o g (gnum h))) h) : w_X12_wrongBy c o g h Q := by
  unfold w_X12_wrongBy
  obtain ⟨hn, c1, d1⟩ := rG.num
  refine loop_0 (σ := Nat) (fun n i b => w_X12_wrongBy_L6 (fun l4_8 h9 => Q l4_8 h9) Q c o g n (nI b) (nI i) h) (fun i b => b = wbm h c o g i) (gnum h) 0 rfl (fun n b e => ?_) (fun n i b hi e nx => ?_)
  · subst e
    unfold w_X12_wrongBy_L6
    rw [d1]
    exact ⟨fun _ => K, fun q => absurd ((nl _ _ (by omega) (by omega)).mpr (Nat.le_refl _)) q⟩
  · subst e
    have v10 : vp_in (nI i) 10 := vp_nI (by omega) (by decide)
    unfold w_X12_wrongBy_L6
    rw [d1, nl _ i (by omega) (by omega), nI_clamp (by omega), nI_1]
    refine ⟨fun q => absurd q (by omega), fun _ => ⟨v10, fun q => nx _ (wbm_n (fun z => q z.1)).symm, fun q => ⟨v10, ?_⟩⟩⟩
    rw [e_12_showBy, e_12_partOf]
    refine ⟨v10, ?_⟩
    rw [e_12_near]
    refine b1 (fun z => nx _ (wbm_n (fun w => w.2 z)).symm) (fun z x7 e7 => ?_)
    rw [e7, or_bit i (by omega) _ (wbm_lt i)]
    exact nx _ (wbm_y ⟨q, z⟩).symm
theorem p_wrong11 {h : mH} (rA : RA h) (rG : RG h) {c o g : Int32} {Q : Int32 → mH → Prop} (K : Q (nI (wbm h c o g (gnum h))) h) : w_X4_wrongBy 7 c o g h Q := by
  unfold w_X4_wrongBy
  obtain ⟨hn, c1, d1⟩ := rG.num
  refine loop_0 (σ := Nat) (fun n i b => w_X4_wrongBy_L6 (fun l5_14 h15 => Q l5_14 h15) Q 7 c o g n (nI b) (nI i) h) (fun i b => b = wbm h c o g i) (gnum h) 0 rfl (fun n b e => ?_) (fun n i b hi e nx => ?_)
  · subst e
    unfold w_X4_wrongBy_L6
    rw [c1]
    exact ⟨fun _ => K, fun q => absurd ((nl _ _ (by omega) (by omega)).mpr (Nat.le_refl _)) q⟩
  · subst e
    obtain ⟨a1, a2, a3, s3⟩ := rG.nth hi
    unfold w_X4_wrongBy_L6
    rw [c1, nl _ i (by omega) (by omega), nI_1]
    refine ⟨fun q => absurd q (by omega), fun _ => ?_⟩
    refine e_toldG (t := 0) rG.2.1 c1 hn hi (by decide) ?_
    try dsimp only
    rw [Nat.add_zero, a1]
    refine ⟨fun q => nx _ (wbm_n (fun z => q z.1)).symm, fun q => ?_⟩
    refine e_toldG (t := 1) rG.2.1 c1 hn hi (by decide) ?_
    try dsimp only
    rw [a2, e_10_timeBy, e_10_partOf, Int32.mul_comm]
    refine e_toldG (t := 2) rG.2.1 c1 hn hi (by decide) ?_
    try dsimp only
    rw [a3, e_10_nearR rA (ptf_in _ _ _ _) s3]
    refine b1 (fun z => nx _ (wbm_n (fun w => w.2 z)).symm) (fun z x7 e7 => ?_)
    rw [e7, or_bit i (by omega) _ (wbm_lt i)]
    exact nx _ (wbm_y ⟨q, z⟩).symm
-- how many bits
def bof : Nat → Int32 → Int32 → Option Int32
  | 0, _, _ => none
  | n + 1, a, b => if b = 0 then some a else bof n (a + 1) (b &&& (b - 1))
theorem bof_ok {h : mH} {K Q : Int32 → mH → Prop} {v : Int32} (hk : K v h) : ∀ n a b, bof n a b = some v → w_X12_bitsOf_L4 K Q n a b h := by
  intro n
  induction n with
  | zero => intro a b e; cases e
  | succ n ih =>
    intro a b e
    unfold w_X12_bitsOf_L4
    rw [bof] at e
    refine ⟨fun q => ?_, fun q x1 e1 => ?_⟩
    · rw [if_pos q] at e
      rw [Option.some.inj e]
      exact hk
    · rw [if_neg q] at e
      subst e1
      exact ih _ _ e
def bcv (a : Int32) : Int32 :=
  let x1 := a - ((ush a 1) &&& 1431655765)
  let x2 := (x1 &&& 858993459) + ((ush x1 2) &&& 858993459)
  let x3 := (x2 + (ush x2 4)) &&& 252645135
  let x4 := x3 + (ush x3 8)
  let x5 := x4 + (ush x4 16)
  x5 &&& 63
theorem bits_all : ∀ x, x < 1024 → bof 12 0 (nI x) = some (nI (bcv (nI x)).toNatClampNeg) ∧ bcv (nI x) = nI (bcv (nI x)).toNatClampNeg ∧ (bcv (nI x)).toNatClampNeg ≤ 10 := by decide +kernel
def pop (x : Nat) : Nat := (bcv (nI x)).toNatClampNeg
theorem p_bits {h : mH} {x : Nat} (hx : x < 1024) {Q : Int32 → mH → Prop} (K : Q (nI (pop x)) h) : w_X12_bitsOf (nI x) h Q := by
  unfold w_X12_bitsOf
  exact ⟨12, bof_ok K 12 0 (nI x) (bits_all x hx).1⟩
theorem p_count {h : mH} {x : Nat} (hx : x < 1024) {Q : Int32 → mH → Prop} (K : Q (nI (pop x)) h) : w_J6_bitCount_0f7a4 (nI x) h Q := by
  unfold w_J6_bitCount_0f7a4
  intro x1 e1 x2 e2 x3 e3 x4 e4 x5 e5
  have : x5 &&& 63 = bcv (nI x) := by
    subst e5
    subst e4
    subst e3
    subst e2
    subst e1
    rfl
  rw [this, (bits_all x hx).2.1]
  exact K
theorem pop_le {x : Nat} (hx : x < 1024) : pop x ≤ 10 := (bits_all x hx).2.2
