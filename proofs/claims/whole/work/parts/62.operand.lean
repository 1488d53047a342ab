/-! PURE: the class reads an operand as po says; a whole expression as pe does -/
section READ
variable {h0 : mH} {v n : Nat} {ch : Nat → Int32}
theorem c_flt (H : HC h0 v n ch) {h : mH} {p : Nat} {l : List qS} (S : SC h0 v n h p l) (hl : l.length ≤ 121) : DC h0 v n ch (si h 11 3 (gi h 11 2)) p := by
  obtain ⟨f, e3, e2, hp, el, hy⟩ := S
  have hv : ¬ v = 11 ∧ ¬ v + 1 = 11 ∧ ¬ v + 2 = 11 := by rcases H.1 with rfl | rfl <;> decide
  refine ⟨f.si (by simp [PC, cl]), hp, ⟨l.length, hl, ?_⟩, Or.inl ?_⟩
  · rw [gi_si, if_neg (by omega)]; exact el
  · rw [gi_si, if_pos ⟨rfl, rfl⟩]; exact e2
theorem c_takes (H : HC h0 v n ch) {h : mH} {p : Nat} {l : List qS} (S : SC h0 v n h p l) {c : Int32} (hc : ¬ c = -1) {Q : Int32 → mH → Prop} (y : ch p = c → ∀ h1, SC h0 v n h1 (p + 1) l → Q 1 h1) (z : ¬ ch p = c → Q 0 h) : w_X8_takes c h Q := by
  unfold w_X8_takes
  refine c_here H S ⟨fun e h3 e3 => y e h3 (c_stp H S (ch_lt H.2.2.2.2.2 (fun q => hc (e ▸ q))) e3), z⟩
theorem c_takesD (H : HC h0 v n ch) {h : mH} {f : Nat} (D : DC h0 v n ch h f) {c : Int32} (hc : ¬ c = -1 ∧ ¬ isD c) {Q : Int32 → mH → Prop} (z : Q 0 h) : w_X8_takes c h Q := by
  unfold w_X8_takes
  exact c_hereD H D (fun x hx => ⟨fun e => by subst e; exact absurd hx (not_or.mpr hc), fun _ => z⟩)
theorem c_closeD (H : HC h0 v n ch) {h : mH} {f : Nat} (D : DC h0 v n ch h f) {Q : mH → Prop} (K : ∀ h1, DC h0 v n ch h1 f → Q h1) : w_X8_close h Q := by
  unfold w_X8_close
  refine c_takesD H D (by decide) ⟨fun q => absurd rfl q, fun _ => ⟨fun _ => K h D, fun q h3 e3 => K h3 ?_⟩⟩
  obtain ⟨fr, hf, ⟨m, hm, em⟩, d⟩ := D
  have hv : ¬ v = 11 ∧ ¬ v + 1 = 11 ∧ ¬ v + 2 = 11 := by rcases H.1 with rfl | rfl <;> decide
  have hn := H.2.1
  rcases d with d | ⟨d3, d2, dd⟩
  · rw [d] at q
    exact absurd (nI_pos' (by omega)) q
  · subst e3
    refine ⟨fr.si (by simp [PC, cl]), hf, ⟨m, hm, ?_⟩, Or.inl ?_⟩
    · rw [gi_si, if_neg (by omega)]; exact em
    · rw [gi_si, if_pos ⟨rfl, rfl⟩]; exact d2
theorem c_close (H : HC h0 v n ch) {h : mH} {p : Nat} {l : List qS} (S : SC h0 v n h p l) (hl : l.length ≤ 121) {Q : mH → Prop} (y : ch p = 41 → ∀ h1, SC h0 v n h1 (p + 1) l → Q h1) (z : ¬ ch p = 41 → ∀ h1, DC h0 v n ch h1 p → Q h1) : w_X8_close h Q := by
  unfold w_X8_close
  refine c_takes H S (by decide) (fun e h1 S1 => ⟨fun _ => y e h1 S1, fun q => absurd q (by decide)⟩) (fun e => ⟨fun q => absurd rfl q, fun _ => ⟨fun q => ?_, fun q h3 e3 => z e h3 ?_⟩⟩)
  · rw [S.2.1] at q
    exact absurd q (by decide)
  · rw [e3]
    exact c_flt H S hl
theorem c_num (H : HC h0 v n ch) (Q : mH → Prop) (l0 : List qS) (hl0 : l0.length ≤ 120) : ∀ (k : Nat) (x : Int32) (p : Nat) (h : mH), k ≤ 4 → SC h0 v n h p l0 → (∀ f, pn ch k x p = .inl f → ∀ h1, DC h0 v n ch h1 f → Q h1) → (∀ p' l', pn ch k x p = .inr (p', l') → ∀ h1, SC h0 v n h1 p' (l0 ++ l') → Q h1) →
    w_X8_number_L4 (fun l1_9 h10 => ∃ j11 : Nat, (m_sh j11 = (7, 3) ∧ gi h10 11 4 = nI (j11 + 1)) ∧ w_X7_add j11 110 l1_9 h10 (fun h12 => Q h12)) Q (k + 1) x (nI (4 - k)) h := by
  intro k
  induction k with
  | zero =>
    intro x p h _ S fa su
    unfold w_X8_number_L4
    unfold pn at fa su
    refine ⟨fun _ => c_into (α := True) H S.1 (c_add H S hl0 _ _ (fun h1 S1 => ?_)), fun q => absurd (by decide) q⟩
    by_cases c : isD (ch p)
    · rw [if_pos c] at fa
      refine fa p rfl h1 ⟨S1.1, S1.2.2.2.1, ⟨_, ?_, S1.2.2.2.2.1⟩, Or.inr ⟨S1.2.1, S1.2.2.1, c⟩⟩
      rw [List.length_append, List.length_singleton]
      omega
    · rw [if_neg c] at su
      exact su p _ rfl h1 S1
  | succ k ih =>
    intro x p h hk S fa su
    unfold w_X8_number_L4
    unfold pn at fa su
    have out : ¬ isD (ch p) → ∃ j11 : Nat, (m_sh j11 = (7, 3) ∧ gi h 11 4 = nI (j11 + 1)) ∧ w_X7_add j11 110 x h (fun h12 => Q h12) := fun c => by
      rw [if_neg c] at su
      exact c_into (α := True) H S.1 (c_add H S hl0 _ _ (fun h1 S1 => su p _ rfl h1 S1))
    refine ⟨fun q => ?_, fun _ => c_here H S ⟨fun q => out (fun c => c.1 q), fun q1 => c_here H S ⟨fun q => out (fun c => c.2 q), fun q2 => c_here H S (fun x7 e7 h8 e8 => ?_)⟩⟩⟩
    · have : 4 ≤ 4 - (k + 1) := (nl 4 _ (by decide) (by omega)).mp q
      omega
    · have c : isD (ch p) := ⟨q1, q2⟩
      rw [if_pos c] at fa su
      subst e7
      have := ih (x * 10 + ch p - 48) (p + 1) h8 (by omega) (c_stp H S (ch_lt H.2.2.2.2.2 (fun q => by rw [q] at c; exact c.1 (by decide))) e8) fa su
      rw [nI_1, show 4 - (k + 1) + 1 = 4 - k by omega]
      exact this
theorem c_operand (H : HC h0 v n ch) {N o : Nat} {b : Bool} {E O : Nat → qR} (ho : o ≤ 6) (hb : b = true ↔ o < 6) (gE : b = true → gd n E) (gO : b = true → gd n O) (hE : b = true → rdC h0 v n ch (fun h Q => (wr_0 N).1 0 (nI (o + 1)) h Q) E) (hO : b = true → rdC h0 v n ch (fun h Q => (wr_0 N).2 (nI (o + 1)) h Q) O) : rdC h0 v n ch (fun h Q => (wr_0 (N + 1)).2 (nI o) h Q) (po ch b E O) := by
  intro p l h Q S hl fa su
  show wb_X8_operand (wr_0 N).1 (wr_0 N).2 (nI o) h Q
  have hp := S.2.2.2.1
  have hn := H.2.1
  have hlen : l.length ≤ 120 := by omega
  have o6 : (6 ≤ nI o) ↔ ¬ b = true := by
    rw [show (6 : Int32) = nI 6 from rfl, nl 6 o (by decide) (by omega), hb]
    omega
  have flt : po ch b E O p = .inl p → Q (si h 11 3 (gi h 11 2)) := fun e => fa p e _ (c_flt H S (by omega))
  have fltW : po ch b E O p = .inl p → ((0 ≤ gi h 11 3 → Q h) ∧ (¬ 0 ≤ gi h 11 3 → ∀ h6 : mH, h6 = si h 11 3 (gi h 11 2) → Q h6)) := fun e => by
    rw [S.2.1]
    exact ⟨fun q => absurd q (by decide), fun _ h6 e6 => by rw [e6]; exact flt e⟩
  have J54 : ¬ isD (ch p) → nm (ch p) → w_X8_operand_J54 (wr_0 N).1 (wr_0 N).2 Q (ch p) h := fun c1 c2 => by
    unfold w_X8_operand_J54
    intro h3 e3
    have S3 := c_stp H S (ch_lt H.2.2.2.2.2 (fun q => by rw [q] at c2; revert c2; decide)) e3
    refine c_into (α := True) H S3.1 (c_add H S3 hlen _ _ (fun h5 S5 => su (p + 1) [(ch p, 0)] ?_ h5 S5))
    unfold po
    rw [if_neg c1, if_pos c2]
  have J125 : ¬ isD (ch p) → ¬ nm (ch p) → ¬ (ch p = 40 ∧ b = true) → (ch p = 33 ∨ ch p = 45) → w_X8_operand_J125 (wr_0 N).1 (wr_0 N).2 Q (nI o) (ch p) h := fun c1 c2 c3 c4 => by
    unfold w_X8_operand_J125
    rw [o6]
    refine ⟨fun q => fltW ?_, fun q h7 e7 => ?_⟩
    · unfold po
      rw [if_neg c1, if_neg c2, if_neg c3, if_neg (fun w => q w.2)]
    · have hbt : b = true := Classical.byContradiction q
      have hpn : p < n := ch_lt H.2.2.2.2.2 (fun q => by rw [q] at c4; revert c4; decide)
      have S7 := c_stp H S hpn e7
      rw [nI_1]
      have ep : po ch b E O p = rb (O (p + 1)) (fun p' l => .inr (p', l ++ [(if ch p = 33 then 33 else 126, 0)])) := by
        unfold po
        rw [if_neg c1, if_neg c2, if_neg c3, if_pos ⟨c4, hbt⟩]
      refine hO hbt (p + 1) l h7 _ S7 (by omega) (fun f ef h8 D8 => ?_) (fun p' l' ef h8 S8 => ?_)
      · exact c_into (α := True) H D8.1 (fun x10 e10 => c_addD H D8 _ _ (fun h11 D11 => fa f (by rw [ep, ef, rb_l]) h11 D11))
      · obtain ⟨a1, a2, a3, a4⟩ := (gO hbt (p + 1) hpn).2 p' l' ef
        refine c_into (α := True) H S8.1 (fun x10 e10 => c_add H S8 (by rw [List.length_append]; omega) _ _ (fun h11 S11 => ?_))
        rw [List.append_assoc, e10] at S11
        exact su p' _ (by rw [ep, ef, rb_r]) h11 S11
  have J113 : ¬ isD (ch p) → ¬ nm (ch p) → ¬ (ch p = 40 ∧ b = true) → w_X8_operand_J113 (wr_0 N).1 (wr_0 N).2 Q (nI o) (ch p) h := fun c1 c2 c3 => by
    unfold w_X8_operand_J113
    refine ⟨fun q => J125 c1 c2 c3 (Or.inl q), fun q => ⟨fun q2 => fltW ?_, fun q2 => J125 c1 c2 c3 (Or.inr q2)⟩⟩
    unfold po
    rw [if_neg c1, if_neg c2, if_neg c3, if_neg (fun w => w.1.elim q q2)]
  have J24 : ¬ isD (ch p) → w_X8_operand_J24 (wr_0 N).1 (wr_0 N).2 Q (nI o) (ch p) h := fun c1 => by
    unfold w_X8_operand_J24
    refine ⟨fun q => J54 c1 (by rw [q]; decide), fun n1 => ⟨fun q => J54 c1 (by rw [q]; decide), fun n2 => ⟨fun q => J54 c1 (by rw [q]; decide), fun n3 => ⟨fun q => J54 c1 (by rw [q]; decide), fun n4 => ⟨fun n5 => ?_, fun q => J54 c1 (by rw [q]; decide)⟩⟩⟩⟩⟩
    have c2 : ¬ nm (ch p) := by
      rintro (q | q | q | q | q)
      · exact n1 q
      · exact n2 q
      · exact n3 q
      · exact n4 q
      · exact n5 q
    refine ⟨fun q => J113 c1 c2 (fun w => q w.1), fun q => ?_⟩
    rw [o6]
    refine ⟨fun w => J113 c1 c2 (fun y => w y.2), fun w h14 e14 => ?_⟩
    have hbt : b = true := Classical.byContradiction w
    have hpn : p < n := ch_lt H.2.2.2.2.2 (fun y => by rw [y] at q; exact absurd q (by decide))
    have S14 := c_stp H S hpn e14
    rw [nI_1]
    have ep : po ch b E O p = rb (E (p + 1)) (fun p' l => if ch p' = 41 then .inr (p' + 1, l) else .inl p') := by
      unfold po
      rw [if_neg c1, if_neg c2, if_pos ⟨q, hbt⟩]
    refine hE hbt (p + 1) l h14 _ S14 (by omega) (fun f ef h8 D8 => c_closeD H D8 (fun h9 D9 => fa f (by rw [ep, ef, rb_l]) h9 D9)) (fun p' l' ef h8 S8 => ?_)
    obtain ⟨a1, a2, a3, a4⟩ := (gE hbt (p + 1) hpn).2 p' l' ef
    refine c_close H S8 (by rw [List.length_append]; omega) (fun e h9 S9 => su (p' + 1) l' ?_ h9 S9) (fun e h9 D9 => fa p' ?_ h9 D9)
    · rw [ep, ef, rb_r, if_pos e]
    · rw [ep, ef, rb_r, if_neg e]
  unfold wb_X8_operand
  refine c_here H S ⟨fun q => J24 (fun c => c.1 q), fun q1 => ⟨fun q => J24 (fun c => c.2 q), fun q2 => ?_⟩⟩
  unfold w_X8_number
  have c1 : isD (ch p) := ⟨q1, q2⟩
  have ep : po ch b E O p = pn ch 4 0 p := by
    unfold po
    rw [if_pos c1]
  rw [ep] at fa su
  exact ⟨5, c_num H Q l hlen 4 0 p h (Nat.le_refl _) S fa su⟩
theorem c_pv (H : HC h0 v n ch) : ∀ b, b ≤ 6 → ∀ N, 7 * b + 1 ≤ N → rdC h0 v n ch (fun h Q => (wr_0 N).2 (nI (6 - b)) h Q) (pv ch n b) := by
  intro b
  induction b with
  | zero =>
    intro _ N hN
    obtain ⟨M, rfl⟩ : ∃ M, N = M + 1 := ⟨N - 1, by omega⟩
    exact c_operand H (Nat.le_refl _) (by decide) (fun q => by cases q) (fun q => by cases q) (fun q => by cases q) (fun q => by cases q)
  | succ b ih =>
    intro hb N hN
    obtain ⟨M, rfl⟩ : ∃ M, N = M + 1 := ⟨N - 1, by omega⟩
    have e : 6 - (b + 1) + 1 = 6 - b := by omega
    refine c_operand H (by omega) ⟨fun _ => by omega, fun _ => rfl⟩ (fun _ => gd_pk H.2.2.2.2.2 (gd_pv H.2.2.2.2.2 b) 5) (fun _ => gd_pv H.2.2.2.2.2 b) (fun _ => ?_) (fun _ => ?_)
    · rw [e]
      exact c_chain H (gd_pv H.2.2.2.2.2 b) (fun N hN => ih (by omega) N hN) 5 (Nat.le_refl _) M (by omega)
    · rw [e]
      exact ih (by omega) M (by omega)
/-- a whole expression, as the class begins one -/
theorem c_pe (H : HC h0 v n ch) : rdC h0 v n ch (fun h Q => (wr_0 64).1 0 0 h Q) (pe ch n) := c_chain H (gd_pv H.2.2.2.2.2 6) (fun N hN => c_pv H 6 (Nat.le_refl _) N hN) 5 (Nat.le_refl _) 64 (by decide)
end READ
