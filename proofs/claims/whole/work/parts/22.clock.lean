/-! PURE: numbers of the clocks -/
theorem tdiv_le (x y : Int) (hy : 0 < y) : -(x.natAbs : Int) ≤ x.tdiv y ∧ x.tdiv y ≤ x.natAbs := by
  have h := Int.natAbs_tdiv_le_natAbs x y
  omega
theorem div_i {x y : Int32} (hy : 0 < y.toInt) : (x / y).toInt = x.toInt.tdiv y.toInt := by
  rw [Int32.toInt_div]
  have h := tdiv_le x.toInt y.toInt hy
  have h1 := Int32.le_toInt x
  have h2 := Int32.toInt_lt x
  have h3 : x.toInt.tdiv y.toInt < 2 ^ 31 := by
    by_cases q : x.toInt < 0
    · have h4 : 0 ≤ (-x.toInt).tdiv y.toInt := Int.tdiv_nonneg (by omega) (by omega)
      rw [Int.neg_tdiv] at h4
      omega
    · omega
  exact Int.bmod_eq_of_le (by omega) (by omega)
theorem irm_i {x y : Int32} (hy : 0 < y.toInt) : (irm x y).toInt = x.toInt.tmod y.toInt := by
  unfold irm
  have h1 := Int32.le_toInt x
  have h2 := Int32.toInt_lt x
  have h3 : x.toInt.tdiv y.toInt * y.toInt = x.toInt - x.toInt.tmod y.toInt := by
    have := Int.tdiv_mul_add_tmod x.toInt y.toInt
    omega
  have h4 : (x.toInt.tmod y.toInt).natAbs ≤ x.toInt.natAbs ∧ (0 ≤ x.toInt → 0 ≤ x.toInt.tmod y.toInt) ∧ (x.toInt ≤ 0 → x.toInt.tmod y.toInt ≤ 0) := by
    refine ⟨?_, fun q => Int.tmod_nonneg _ q, fun q => ?_⟩
    · rw [Int.natAbs_tmod]
      exact Nat.mod_le _ _
    · have := Int.tmod_nonneg y.toInt (show 0 ≤ -x.toInt by omega)
      rw [Int.neg_tmod] at this
      omega
  rw [Int32.toInt_sub, Int32.toInt_mul, div_i hy, h3]
  have e1 : (x.toInt - x.toInt.tmod y.toInt).bmod (2 ^ 32) = x.toInt - x.toInt.tmod y.toInt := Int.bmod_eq_of_le (by omega) (by omega)
  rw [e1]
  have e2 : x.toInt - (x.toInt - x.toInt.tmod y.toInt) = x.toInt.tmod y.toInt := by omega
  rw [e2]
  exact Int.bmod_eq_of_le (by omega) (by omega)
theorem xor_sign (a : Int32) : (0 ≤ a ^^^ 720) ↔ 0 ≤ a := by
  have k : ∀ x : Int32, 0 ≤ x ↔ x.toBitVec.msb = false := by
    intro x
    rw [le_i, BitVec.msb_eq_toInt]
    show (0 : Int32).toInt ≤ x.toInt ↔ _
    simp
  rw [k, k, Int32.toBitVec_xor, BitVec.msb_xor]
  have h9 : (720#32).msb = false := by decide
  simp [h9]
theorem e_floorMod (a : Int32) (h : mH) (Q : Int32 → mH → Prop) : w_J9_floorMod_7cf53 a 720 h Q ↔ Q (if 0 ≤ irm a 720 then irm a 720 else irm a 720 + 720) h := by
  unfold w_J9_floorMod_7cf53
  have hi := irm_i (x := a) (y := 720) (by decide)
  have h720 : (720 : Int32).toInt = 720 := rfl
  rw [h720] at hi
  simp only [forall_eq, xor_sign]
  have hn : ¬ (720 : Int32) = 0 := by decide
  by_cases h1 : 0 ≤ a
  · have h2 : 0 ≤ irm a 720 := by
      rw [le_i, hi]
      rw [le_i] at h1
      exact Int.tmod_nonneg _ h1
    simp [h1, h2, hn]
  · by_cases h3 : irm a 720 = 0
    · have h2 : (0 : Int32) ≤ 0 := by decide
      simp [h1, h3, hn]
    · have h2 : ¬ 0 ≤ irm a 720 := by
        intro q
        rw [le_i] at q h1
        rw [hi] at q
        have h4 := Int.tmod_nonneg 720 (show 0 ≤ -a.toInt by have : (0 : Int32).toInt = 0 := rfl; omega)
        rw [Int.neg_tmod] at h4
        apply h3
        rw [eq_i, hi]
        have : (0 : Int32).toInt = 0 := rfl
        omega
      simp [h1, h2, h3, hn]
theorem e_10_timeBy (o g t : Int32) (h : mH) (Q : Int32 → mH → Prop) : w_X10_timeBy o g t h Q ↔ Q (shw t o g) h := by
  unfold w_X10_timeBy shw
  rw [e_floorMod]
/-- what is shown lies within 0 .. 719 -/
theorem shw_i (t o g : Int32) : 0 ≤ (shw t o g).toInt ∧ (shw t o g).toInt < 720 ∧ (shw t o g).toInt = ((t + o) + ((t * g) / 100)).toInt % 720 := by
  unfold shw
  have hi := irm_i (x := (t + o) + ((t * g) / 100)) (y := 720) (by decide)
  generalize (t + o) + ((t * g) / 100) = x at hi ⊢
  have h720 : (720 : Int32).toInt = 720 := rfl
  have h0 : (0 : Int32).toInt = 0 := rfl
  rw [h720] at hi
  have hm := Int.tmod_def x.toInt 720
  have ht := Int.tdiv_mul_add_tmod x.toInt 720
  have hb : (x.toInt.tmod 720).natAbs < 720 := by
    rw [Int.natAbs_tmod]
    exact Nat.mod_lt _ (by decide)
  by_cases h1 : 0 ≤ irm x 720
  · rw [if_pos h1]
    rw [le_i, hi, h0] at h1
    rw [hi]
    omega
  · rw [if_neg h1]
    rw [le_i, hi, h0] at h1
    rw [Int32.toInt_add, hi, h720, Int.bmod_eq_of_le (by omega) (by omega)]
    omega
theorem ptf_in (c t o g : Int32) : inR (ptf c (shw t o g)) 0 59 := by
  obtain ⟨h1, h2, -⟩ := shw_i t o g
  generalize shw t o g = x at h1 h2
  rw [inR_i]
  unfold ptf
  have h0 : (0 : Int32).toInt = 0 := rfl
  have h59 : (59 : Int32).toInt = 59 := rfl
  have h12 : (12 : Int32).toInt = 12 := rfl
  have h60 : (60 : Int32).toInt = 60 := rfl
  by_cases hc : c = 0
  · rw [if_pos hc, div_i (by decide), h12, Int.tdiv_eq_ediv_of_nonneg h1]
    omega
  · rw [if_neg hc, irm_i (by decide), h60, Int.tmod_eq_emod_of_nonneg h1]
    omega
def nr (e p q : Int32) : Prop := ¬ e < (if (if q ≤ p then p - q else q - p) ≤ 30 then (if q ≤ p then p - q else q - p) else 60 - (if q ≤ p then p - q else q - p))
theorem e_12_near (p q : Int32) (h : mH) (Q : Int32 → mH → Prop) : w_X12_isNear p q h Q ↔ Q (bi (nr (gi h 53 3) p q)) h := by
  unfold w_X12_isNear nr
  simp only [forall_eq]
  generalize (if q ≤ p then p - q else q - p) = d
  by_cases h1 : d ≤ 30
  · simp only [h1, if_true, true_implies, not_true, false_implies, and_true]
    by_cases h2 : gi h 53 3 < d
    · simp [h2, bi_0]
    · simp [h2, bi_1]
  · simp only [h1, if_false, false_implies, not_false_eq_true, true_implies, true_and]
    by_cases h2 : gi h 53 3 < 60 - d
    · simp [h2, bi_0]
    · simp [h2, bi_1]
theorem sub_i {x y : Int32} (h1 : -2147483648 ≤ x.toInt - y.toInt) (h2 : x.toInt - y.toInt < 2147483648) : (x - y).toInt = x.toInt - y.toInt := by
  rw [Int32.toInt_sub]
  exact Int.bmod_eq_of_le (by omega) (by omega)
theorem add_i {x y : Int32} (h1 : -2147483648 ≤ x.toInt + y.toInt) (h2 : x.toInt + y.toInt < 2147483648) : (x + y).toInt = x.toInt + y.toInt := by
  rw [Int32.toInt_add]
  exact Int.bmod_eq_of_le (by omega) (by omega)
theorem mul_i {x y : Int32} (h1 : -2147483648 ≤ x.toInt * y.toInt) (h2 : x.toInt * y.toInt < 2147483648) : (x * y).toInt = x.toInt * y.toInt := by
  rw [Int32.toInt_mul]
  exact Int.bmod_eq_of_le (by omega) (by omega)
theorem e_10_near {p q : Int32} (hp : inR p 0 59) (hq : inR q 0 59) (h : mH) (Q : Int32 → mH → Prop) : w_X10_isNear p q h Q ↔ Q (bi (nr (gi h 2 4) p q)) h := by
  unfold w_X10_isNear nr
  simp only [forall_eq]
  have h0 : (0 : Int32).toInt = 0 := rfl
  have h59 : (59 : Int32).toInt = 59 := rfl
  have h60 : (60 : Int32).toInt = 60 := rfl
  have h30 : (30 : Int32).toInt = 30 := rfl
  rw [inR_i, h0, h59] at hp hq
  have e1 := sub_i (x := p) (y := q) (by omega) (by omega)
  have e2 := sub_i (x := q) (y := p) (by omega) (by omega)
  have e3 : iab (p - q) = (if q ≤ p then p - q else q - p) := by
    unfold iab
    by_cases h1 : q ≤ p
    · have h2 : 0 ≤ p - q := by rw [le_i, e1, h0]; rw [le_i] at h1; omega
      rw [if_pos h1, if_pos h2]
    · have h2 : ¬ 0 ≤ p - q := by rw [le_i, e1, h0]; rw [le_i] at h1; omega
      rw [if_neg h1, if_neg h2, eq_i, sub_i (by rw [e1, h0]; omega) (by rw [e1, h0]; omega), e1, e2, h0]
      omega
  rw [e3]
  have hd : 0 ≤ (if q ≤ p then p - q else q - p).toInt ∧ (if q ≤ p then p - q else q - p).toInt ≤ 59 := by
    by_cases h1 : q ≤ p
    · rw [if_pos h1, e1]; rw [le_i] at h1; omega
    · rw [if_neg h1, e2]; rw [le_i] at h1; omega
  generalize (if q ≤ p then p - q else q - p) = d at hd
  have e4 : imin d (60 - d) = (if d ≤ 30 then d else 60 - d) := by
    have e5 := sub_i (x := 60) (y := d) (by omega) (by omega)
    unfold imin
    by_cases h1 : d ≤ 30
    · have h2 : ¬ 60 - d < d := by rw [lt_i, e5, h60]; rw [le_i, h30] at h1; omega
      rw [if_pos h1, if_neg h2]
    · have h2 : 60 - d < d := by rw [lt_i, e5, h60]; rw [le_i, h30] at h1; omega
      rw [if_neg h1, if_pos h2]
  rw [e4]
  by_cases h2 : gi h 2 4 < (if d ≤ 30 then d else 60 - d)
  · rw [bi_0 (fun q => q h2)]
    simp [h2]
  · rw [bi_1 h2]
    simp [h2]
