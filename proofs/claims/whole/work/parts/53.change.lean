/-! PURE: a change, noted in both halves -/
def mvd (h s : mH) (o i : Nat) : Prop := ∀ j, gi s o j = if j < i then gi h o (j + 1) else gi h o j
theorem mvd.z {h : mH} {o : Nat} : mvd h h o 0 := fun j => by rw [if_neg (Nat.not_lt_zero j)]
theorem mvd.val {h s : mH} {o i : Nat} (w : mvd h s o i) : gi s o (i + 1) = gi h o (i + 1) := by rw [w, if_neg (by omega)]
theorem mvd.nx {h s s2 : mH} {o i : Nat} (w : mvd h s o i) (e : ∀ j, gi s2 o j = if j = i then gi h o (i + 1) else gi s o j) : mvd h s2 o (i + 1) := fun j => by
  rw [e]
  by_cases q : j = i
  · subst q
    rw [if_pos rfl, if_pos (by omega)]
  · rw [if_neg q, w]
    by_cases q2 : j < i
    · rw [if_pos q2, if_pos (by omega)]
    · rw [if_neg q2, if_neg (by omega)]
theorem p_drop11 {h : mH} {Q : mH → Prop} (g : ∀ s, Fr (cl [26, 27, 28] []) h s → mvd h s 26 39 → mvd h s 27 39 → mvd h s 28 39 → Q (si s 25 3 39)) : w_X1_dropEldest h Q := by
  unfold w_X1_dropEldest
  have := loop_0 (σ := mH) (fun n i s => w_X1_dropEldest_L2 (fun h4 => ∀ h5, h5 = si h4 25 3 39 → Q h5) Q n (nI (1 + i)) s) (fun i s => Fr (cl [26, 27, 28] []) h s ∧ mvd h s 26 i ∧ mvd h s 27 i ∧ mvd h s 28 i) 39 h ⟨Fr.rf _ h, mvd.z, mvd.z, mvd.z⟩ (fun n s e => ?_) (fun n i s hi e nx => ?_)
  · exact this
  · unfold w_X1_dropEldest_L2
    refine ⟨fun _ h5 y5 => ?_, fun q => absurd ((nl 40 40 (by decide) (by decide)).mpr (Nat.le_refl _)) q⟩
    subst y5
    exact g s e.1 e.2.1 e.2.2.1 e.2.2.2
  · obtain ⟨f, m6, m7, m8⟩ := e
    unfold w_X1_dropEldest_L2
    rw [show (40 : Int32) = nI 40 from rfl, nl 40 (1 + i) (by decide) (by omega), show (nI (1 + i) : Int32) - 1 = nI i by rw [Nat.add_comm]; exact nI_pred i, nI_1, nI_clamp (by omega), nI_clamp (by omega)]
    have v1 : vp_in (nI (1 + i)) 40 := vp_nI (by omega) (by decide)
    have v0 : vp_in (nI i) 40 := vp_nI (by omega) (by decide)
    refine ⟨fun q => absurd q (by omega), fun _ => ⟨v1, v0, fun h1 y1 => ⟨v1, v0, fun h2 y2 => ⟨v1, v0, fun h3 y3 => nx h3 ⟨?_, m6.nx fun j => ?_, m7.nx fun j => ?_, m8.nx fun j => ?_⟩⟩⟩⟩⟩
    · rw [y3, y2, y1]
      exact ((f.si rfl).si rfl).si rfl
    · have := m6.val
      rw [Nat.add_comm i 1] at this
      rw [y3, gi_si, if_neg (by omega), y2, gi_si, if_neg (by omega), y1, gi_si, this, Nat.add_comm i 1]
      by_cases q : j = i
      · rw [if_pos ⟨rfl, q⟩, if_pos q]
      · rw [if_neg (fun z => q z.2), if_neg q]
    · have := m7.val
      rw [Nat.add_comm i 1] at this
      have e1 : ∀ x, gi h1 27 x = gi s 27 x := fun x => by rw [y1, gi_si, if_neg (by omega)]
      rw [y3, gi_si, if_neg (by omega), y2, gi_si, e1, e1, this, Nat.add_comm i 1]
      by_cases q : j = i
      · rw [if_pos ⟨rfl, q⟩, if_pos q]
      · rw [if_neg (fun z => q z.2), if_neg q]
    · have := m8.val
      rw [Nat.add_comm i 1] at this
      have e2 : ∀ x, gi h2 28 x = gi s 28 x := fun x => by rw [y2, gi_si, if_neg (by omega), y1, gi_si, if_neg (by omega)]
      rw [y3, gi_si, e2, e2, this, Nat.add_comm i 1]
      by_cases q : j = i
      · rw [if_pos ⟨rfl, q⟩, if_pos q]
      · rw [if_neg (fun z => q z.2), if_neg q]
theorem p_drop12 {h : mH} {K Q : _} {l1 l2 l3 l4 : Int32} (g : ∀ s, Fr (cl [58, 59, 60, 61] []) h s → mvd h s 58 39 → mvd h s 59 39 → mvd h s 60 39 → mvd h s 61 39 → K s) : ∃ n, w_X12_changes_L34 K Q l1 l2 l3 l4 n 1 h := by
  have := loop_0 (σ := mH) (fun n i s => w_X12_changes_L34 K Q l1 l2 l3 l4 n (nI (1 + i)) s) (fun i s => Fr (cl [58, 59, 60, 61] []) h s ∧ mvd h s 58 i ∧ mvd h s 59 i ∧ mvd h s 60 i ∧ mvd h s 61 i) 39 h ⟨Fr.rf _ h, mvd.z, mvd.z, mvd.z, mvd.z⟩ (fun n s e => ?_) (fun n i s hi e nx => ?_)
  · exact this
  · unfold w_X12_changes_L34
    exact ⟨fun _ => g s e.1 e.2.1 e.2.2.1 e.2.2.2.1 e.2.2.2.2, fun q => absurd ((nl 40 40 (by decide) (by decide)).mpr (Nat.le_refl _)) q⟩
  · obtain ⟨f, m6, m7, m8, m9⟩ := e
    unfold w_X12_changes_L34
    rw [show (40 : Int32) = nI 40 from rfl, nl 40 (1 + i) (by decide) (by omega), show (nI (1 + i) : Int32) - 1 = nI i by rw [Nat.add_comm]; exact nI_pred i, nI_1, nI_clamp (by omega), nI_clamp (by omega)]
    have v1 : vp_in (nI (1 + i)) 40 := vp_nI (by omega) (by decide)
    have v0 : vp_in (nI i) 40 := vp_nI (by omega) (by decide)
    refine ⟨fun q => absurd q (by omega), fun _ => ⟨v1, v0, fun h1 y1 => ⟨v1, v0, fun h2 y2 => ⟨v1, v0, fun h3 y3 => ⟨v1, v0, fun h4 y4 => nx h4 ⟨?_, m6.nx fun j => ?_, m7.nx fun j => ?_, m8.nx fun j => ?_, m9.nx fun j => ?_⟩⟩⟩⟩⟩⟩
    · rw [y4, y3, y2, y1]
      exact (((f.si rfl).si rfl).si rfl).si rfl
    · have := m6.val
      rw [Nat.add_comm i 1] at this
      rw [y4, gi_si, if_neg (by omega), y3, gi_si, if_neg (by omega), y2, gi_si, if_neg (by omega), y1, gi_si, this, Nat.add_comm i 1]
      by_cases q : j = i
      · rw [if_pos ⟨rfl, q⟩, if_pos q]
      · rw [if_neg (fun z => q z.2), if_neg q]
    · have := m7.val
      rw [Nat.add_comm i 1] at this
      have e1 : ∀ x, gi h1 59 x = gi s 59 x := fun x => by rw [y1, gi_si, if_neg (by omega)]
      rw [y4, gi_si, if_neg (by omega), y3, gi_si, if_neg (by omega), y2, gi_si, e1, e1, this, Nat.add_comm i 1]
      by_cases q : j = i
      · rw [if_pos ⟨rfl, q⟩, if_pos q]
      · rw [if_neg (fun z => q z.2), if_neg q]
    · have := m8.val
      rw [Nat.add_comm i 1] at this
      have e2 : ∀ x, gi h2 60 x = gi s 60 x := fun x => by rw [y2, gi_si, if_neg (by omega), y1, gi_si, if_neg (by omega)]
      rw [y4, gi_si, if_neg (by omega), y3, gi_si, e2, e2, this, Nat.add_comm i 1]
      by_cases q : j = i
      · rw [if_pos ⟨rfl, q⟩, if_pos q]
      · rw [if_neg (fun z => q z.2), if_neg q]
    · have := m9.val
      rw [Nat.add_comm i 1] at this
      have e3 : ∀ x, gi h3 61 x = gi s 61 x := fun x => by rw [y3, gi_si, if_neg (by omega), y2, gi_si, if_neg (by omega), y1, gi_si, if_neg (by omega)]
      rw [y4, gi_si, e3, e3, this, Nat.add_comm i 1]
      by_cases q : j = i
      · rw [if_pos ⟨rfl, q⟩, if_pos q]
      · rw [if_neg (fun z => q z.2), if_neg q]
