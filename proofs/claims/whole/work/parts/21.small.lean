/-! PURE: the small methods, by what they answer -/
theorem e_11_one (a n : Int32) (h : mH) (Q : Int32 → mH → Prop) : w_X11_isOneOf a n h Q ↔ Q (bi (¬ a < 0 ∧ a < n)) h := by
  unfold w_X11_isOneOf
  by_cases h1 : a < 0
  · simp [h1, bi_0]
  · by_cases h2 : n ≤ a
    · have h3 : ¬ a < n := by rw [le_i] at h2; rw [lt_i]; omega
      simp [h1, h2, h3, bi_0]
    · have h3 : a < n := by rw [le_i] at h2; rw [lt_i]; omega
      simp [h1, h2, h3, bi_1]
theorem one_inR {a n : Int32} (m : Int32) (hm : m.toInt + 1 = n.toInt) : (¬ a < 0 ∧ a < n) ↔ inR a 0 m := by
  rw [inR_i, lt_i, lt_i]
  simp
  omega
theorem e_11_clock (a : Int32) (h : mH) (Q : Int32 → mH → Prop) : w_X11_isClock a h Q ↔ Q (bi (inR a 0 1)) h := by
  unfold w_X11_isClock
  by_cases h1 : a = 0
  · subst h1
    rw [bi_1 (show inR 0 0 1 from (show ¬ (0 : Int32) < 0 ∧ ¬ (1 : Int32) < 0 by decide))]
    simp
  · by_cases h2 : a = 1
    · subst h2
      rw [bi_1 (show inR 1 0 1 from (show ¬ (1 : Int32) < 0 ∧ ¬ (1 : Int32) < 1 by decide))]
      simp
    · have h3 : ¬ inR a 0 1 := fun z => by rcases inR_01 z with q | q; exact h1 q; exact h2 q
      simp [h1, h2, bi_0 h3]
theorem e_11_part (a : Int32) (h : mH) (Q : Int32 → mH → Prop) : w_X11_isPart a h Q ↔ Q (bi (inR a 0 59)) h := by
  unfold w_X11_isPart
  rw [e_11_one, bi_i (one_inR 59 rfl)]
  simp [bi_01]
theorem e_11_time (a : Int32) (h : mH) (Q : Int32 → mH → Prop) : w_X11_isTime a h Q ↔ Q (bi (inR a 0 719)) h := by
  unfold w_X11_isTime
  rw [e_11_one, bi_i (one_inR 719 rfl)]
  simp [bi_01]
theorem e_11_shelf (a : Int32) (h : mH) (Q : Int32 → mH → Prop) : w_X11_isShelf a h Q ↔ Q (bi (inR a 0 5)) h := by
  unfold w_X11_isShelf
  rw [e_11_one, bi_i (one_inR 5 rfl)]
  simp [bi_01]
theorem e_11_kind (a : Int32) (h : mH) (Q : Int32 → mH → Prop) : w_X11_isKind a h Q ↔ Q (bi (inR a 0 7)) h := by
  unfold w_X11_isKind
  rw [e_11_one, bi_i (one_inR 7 rfl)]
  simp [bi_01]
theorem e_11_minute (a : Int32) (h : mH) (Q : Int32 → mH → Prop) : w_X11_isMinute a h Q ↔ Q (bi (inR a 0 99999)) h := by
  unfold w_X11_isMinute inR
  by_cases h1 : a < 0
  · simp [h1, bi_0]
  · by_cases h2 : 99999 < a
    · simp [h1, h2, bi_0]
    · simp [h1, h2, bi_1]
theorem e_12_in (a lo hi : Int32) (h : mH) (Q : Int32 → mH → Prop) : w_X12_in a lo hi h Q ↔ Q (bi (inR a lo hi)) h := by
  unfold w_X12_in inR
  by_cases h1 : a < lo
  · simp [h1, bi_0]
  · by_cases h2 : hi < a
    · simp [h1, h2, bi_0]
    · simp [h1, h2, bi_1]
theorem e_12_clock (a : Int32) (h : mH) (Q : Int32 → mH → Prop) : w_X12_isClock a h Q ↔ Q (bi (inR a 0 1)) h := by
  unfold w_X12_isClock
  rw [e_12_in]
  simp [bi_01]
theorem e_12_minute (a : Int32) (h : mH) (Q : Int32 → mH → Prop) : w_X12_isMinute a h Q ↔ Q (bi (inR a 0 99999)) h := by
  unfold w_X12_isMinute
  rw [e_12_in]
  simp [bi_01]
theorem e_12_shelf (a : Int32) (h : mH) (Q : Int32 → mH → Prop) : w_X12_isShelf a h Q ↔ Q (bi (inR a 0 5)) h := by
  unfold w_X12_isShelf
  rw [e_12_in]
  simp [bi_01]
def isS (c p f t : Int32) : Prop := inR c 0 1 ∧ inR p 0 59 ∧ inR f 0 99 ∧ inR t f 99
theorem e_12_sight (c p f t : Int32) (h : mH) (Q : Int32 → mH → Prop) : w_X12_isSight c p f t h Q ↔ Q (bi (isS c p f t)) h := by
  unfold w_X12_isSight isS
  simp only [e_12_clock, e_12_in, bi_z]
  by_cases h1 : inR c 0 1 <;> by_cases h2 : inR p 0 59 <;> by_cases h3 : inR f 0 99 <;> by_cases h4 : inR t f 99 <;> simp [h1, h2, h3, h4, bi_0, bi_1]
theorem e_11_sight (c p f t : Int32) (h : mH) (Q : Int32 → mH → Prop) : w_X11_isSight c p f t h Q ↔ Q (bi (isS c p f t)) h := by
  unfold w_X11_isSight isS
  simp only [e_11_clock, e_11_part, bi_z]
  have k : (inR f 0 99 ∧ inR t f 99) ↔ (¬ f < 0 ∧ ¬ t < f ∧ ¬ 99 < t) := by
    unfold inR
    rw [lt_i, lt_i, lt_i, lt_i]
    omega
  by_cases h1 : inR c 0 1 <;> by_cases h2 : inR p 0 59 <;> by_cases h3 : f < 0 <;> by_cases h4 : t < f <;> by_cases h5 : 99 < t <;> simp [h1, h2, k, h3, h4, h5, bi_0, bi_1]
-- what a clock shows
def shw (t o g : Int32) : Int32 := if 0 ≤ irm ((t + o) + ((t * g) / 100)) 720 then irm ((t + o) + ((t * g) / 100)) 720 else irm ((t + o) + ((t * g) / 100)) 720 + 720
def ptf (c t : Int32) : Int32 := if c = 0 then t / 12 else irm t 60
theorem e_12_showBy (t o g : Int32) (h : mH) (Q : Int32 → mH → Prop) : w_X12_showBy t o g h Q ↔ Q (shw t o g) h := by
  unfold w_X12_showBy shw
  simp only [forall_eq]
theorem e_12_partOf (c t : Int32) (h : mH) (Q : Int32 → mH → Prop) : w_X12_partOf c t h Q ↔ Q (ptf c t) h := by
  unfold w_X12_partOf ptf
  by_cases h1 : c = 0 <;> simp [h1]
theorem e_10_partOf (c t : Int32) (h : mH) (Q : Int32 → mH → Prop) : w_X10_partOf c t h Q ↔ Q (ptf c t) h := by
  unfold w_X10_partOf ptf
  by_cases h1 : c = 0 <;> simp [h1]
