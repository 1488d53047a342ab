
-- ===== from the constructors' world, where every reference lies in the contents, to the finished one, where those that never change stand in the table =====
theorem m_sr_rl : ∀ a, a < 90 → ∀ k, k < 58 → m_sr a k = 0 ∨ ((a, k, m_sr a k) ∈ m_rl ∧ m_sr a k < 100 ∧ ((m_sh a).1 = 105 ∨ ((m_sh a).1 < 100 ∧ m_ft (m_sh a).1 k = 2))) := by
  have h : ((List.range 90).all fun a => (List.range 58).all fun k => m_sr a k == 0 || (m_rl.contains (a, k, m_sr a k) && (decide (m_sr a k < 100) && ((m_sh a).1 == 105 || (decide ((m_sh a).1 < 100) && m_ft (m_sh a).1 k == 2))))) = true := by decide +kernel
  intro a ha k hk
  have h1 := List.all_eq_true.mp (List.all_eq_true.mp h a (List.mem_range.mpr ha)) k (List.mem_range.mpr hk)
  simpa only [Bool.or_eq_true, Bool.and_eq_true, decide_eq_true_eq, beq_iff_eq, List.contains_iff_mem] using h1
theorem m_sr_out {a k : Nat} (hk : 58 ≤ k) : m_sr a k = 0 := by
  unfold m_sr
  have h1 : ∀ a, a < 90 → (m_srl.getD a []).length ≤ 57 := by decide +kernel
  have h2 : (m_srl.getD a []).length ≤ 57 := by
    by_cases ha : a < 90
    · exact h1 a ha
    · rw [List.getD_eq_getElem?_getD, List.getElem?_eq_none (by rw [show m_srl.length = 90 by decide]; omega)]
      exact Nat.zero_le _
  rw [List.getD_eq_getElem?_getD (l := m_srl.getD a []), List.getElem?_eq_none (by omega)]
  rfl
theorem m_sr_fact {a : Nat} (ha : a < 90) (k : Nat) : m_sr a k = 0 ∨ ((a, k, m_sr a k) ∈ m_rl ∧ m_sr a k < 100 ∧ ((m_sh a).1 = 105 ∨ ((m_sh a).1 < 100 ∧ m_ft (m_sh a).1 k = 2))) := by
  by_cases hk : k < 58
  · exact m_sr_rl a ha k hk
  · exact Or.inl (m_sr_out (by omega))
/-- two contents that agree where it counts make the same world -/
theorem mE_switch {G : mG} {h h2 : mH} {a : Nat} (ha : a < 90) (h1 : ∀ k, (m_sr a k = 0 → h2.1 a k = h.1 a k) ∧ (m_sr a k ≠ 0 → h2.1 a k = nI (m_sr a k))) (hl : h2.2 a = h.2 a) : mE G m_s0 h2 a = mE G m_sr h a := by
  have hrc : ∀ k, rc (m_s0 a k) (h2.1 a k) = rc (m_sr a k) (h.1 a k) := by
    intro k
    unfold rc m_s0
    rw [if_pos rfl]
    by_cases q : m_sr a k = 0
    · rw [if_pos q, (h1 k).1 q]
    · rw [if_neg q, (h1 k).2 q]
      rcases m_sr_fact ha k with z | z
      · exact absurd z q
      · exact nI_clamp (by omega)
  unfold mE
  by_cases c1 : (m_sh a).1 < 100
  · rw [if_pos c1, if_pos c1]
    have hf : ∀ k, fv m_s0 h2 a k = fv m_sr h a k := by
      intro k
      unfold fv
      by_cases c2 : m_ft (m_sh a).1 k = 2
      · rw [if_pos c2, if_pos c2, hrc]
      · rw [if_neg c2, if_neg c2]
        rcases m_sr_fact ha k with z | ⟨-, -, z | z⟩
        · rw [(h1 k).1 z]
        · omega
        · exact absurd z.2 c2
    simp only [hf]
  · rw [if_neg c1, if_neg c1]
    by_cases c2 : (m_sh a).1 = 104
    · rw [if_pos c2, if_pos c2, hl]
    · rw [if_neg c2, if_neg c2]
      by_cases c3 : (m_sh a).1 = 105
      · rw [if_pos c3, if_pos c3]
        simp only [hrc]
      · rw [if_neg c3, if_neg c3]
        have : h2.1 a = h.1 a := by
          funext k
          rcases m_sr_fact ha k with z | ⟨-, -, z | z⟩
          · exact (h1 k).1 z
          · exact absurd z c3
          · exact absurd z.1 c1
        rw [this]
def mPatch (h : mH) : mH := (fun a k => if m_sr a k = 0 then h.1 a k else nI (m_sr a k), h.2)
theorem m_switch {G : mG} {pc : Nat} {ls : List (Option Value)} {st : List Value} {h : mH} {Q : Int32 → Prop} (hr : ∀ q ∈ m_rl, gi h q.1 q.2.1 = nI q.2.2) (K : Sat G e_L1 (mQi fun x _ => Q x) 90 pc ls st h) : Sat G e_L0 (mQi fun x _ => Q x) 90 pc ls st h := by
  intro p e R s m args below meth c H la locs Qm C hcn hW hS hl9 hret
  have e1 : mWs G m_s0 h 90 = mWs G m_sr h 90 := by
    unfold mWs
    refine List.map_congr_left fun a ha => ?_
    have ha := List.mem_range.mp ha
    rw [mE_switch (h := h) (h2 := h) ha (fun k => ⟨fun _ => rfl, fun q => ?_⟩) rfl]
    rcases m_sr_fact ha k with z | z
    · exact absurd z q
    · exact hr _ z.1
  refine K p e R s m args below meth c H la locs Qm C hcn ?_ hS hl9 ?_
  · have hW1 : va_P G.2.1 vwCl (mWs G m_s0 h 90) H ∧ va_D (mA G) (mWs G m_s0 h 90) ∧ 90 ≤ 999 := hW
    rw [e1] at hW1
    exact hW1
  · intro v h1 H1 locs1 pc1 la1 hQ hW1 hS1 hRI
    have e2 : mWs G m_s0 (mPatch h1) 90 = mWs G m_sr h1 90 := by
      unfold mWs
      refine List.map_congr_left fun a ha => ?_
      have ha := List.mem_range.mp ha
      rw [mE_switch (h := h1) (h2 := mPatch h1) ha (fun k => ⟨fun q => by simp [mPatch, q], fun q => by simp [mPatch, q]⟩) rfl]
    have hW2 : va_P G.2.1 vwCl (mWs G m_sr h1 90) H1 ∧ va_D (mA G) (mWs G m_sr h1 90) ∧ 90 ≤ 999 := hW1
    rw [← e2] at hW2
    exact hret v (mPatch h1) H1 locs1 pc1 la1 hQ hW2 hS1 hRI
