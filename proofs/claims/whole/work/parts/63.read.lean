/-! PURE: the class reads a line, a text -/
theorem gd_pli {ch : Nat → Int32} {n : Nat} (he : ∀ p, n ≤ p → ch p = -1) {p : Nat} (hp : p ≤ n) : (∀ f, pli ch n p = .inl f → f ≤ n) ∧ (∀ p' x, pli ch n p = .inr (p', x) → p < p' ∧ p' ≤ n ∧ x.1.length + x.2.length ≤ p' - p ∧ (tq x.1 ++ x.2).length ≤ p' - p ∧ gx x.2 ∧ (x.1 = [] ∨ gx x.1)) := by
  unfold pli
  obtain ⟨g1, g2⟩ := gd_pe he p hp
  cases eX : pe ch n p with
  | inl f =>
    exact ⟨fun f' e => (by cases e; exact g1 f eX), fun p' x e => by cases e⟩
  | inr q =>
    obtain ⟨p1, l1⟩ := q
    obtain ⟨a1, a2, a3, a4⟩ := g2 p1 l1 eX
    dsimp only
    by_cases c : ch p1 = 63
    · rw [if_pos c]
      have hp1 : p1 < n := ch_lt he (fun q => by rw [q] at c; exact absurd c (by decide))
      obtain ⟨k1, k2⟩ := gd_pe he (p1 + 1) hp1
      cases eY : pe ch n (p1 + 1) with
      | inl f => exact ⟨fun f' e => (by cases e; exact k1 f eY), fun p' x e => by cases e⟩
      | inr q =>
        obtain ⟨p2, l2⟩ := q
        obtain ⟨b1, b2, b3, b4⟩ := k2 p2 l2 eY
        dsimp only
        refine ⟨fun f' e => (by cases e), fun p' x e => ?_⟩
        cases e
        have tl : (tq l1).length ≤ l1.length + 1 := by
          cases l1 with
          | nil => exact Nat.zero_le _
          | cons a t => show ((a :: t) ++ [((63 : Int32), (0 : Int32))]).length ≤ _; rw [List.length_append, List.length_singleton]; exact Nat.le_refl _
        refine ⟨by omega, b2, ?_, ?_, b4, Or.inr a4⟩
        · show l1.length + l2.length ≤ _; omega
        · show (tq l1 ++ l2).length ≤ _; rw [List.length_append]; omega
    · rw [if_neg c]
      refine ⟨fun f' e => (by cases e), fun p' x e => ?_⟩
      cases e
      refine ⟨a1, a2, ?_, ?_, a4, Or.inl rfl⟩
      · show 0 + l1.length ≤ _; omega
      · show ([] ++ l1).length ≤ _; rw [List.nil_append]; exact a3
section READ
variable {h0 : mH} {v n : Nat} {ch : Nat → Int32}
theorem c_line (H : HC h0 v n ch) {p : Nat} {l : List qS} {h : mH} {Q : mH → Prop} (S : SC h0 v n h p l) (hl : l.length ≤ p) (fa : ∀ f, pli ch n p = .inl f → ∀ h1, DC h0 v n ch h1 f → Q h1) (su : ∀ p' x, pli ch n p = .inr (p', x) → ∀ h1, SC h0 v n h1 p' (l ++ fl [x]) → Q h1) : w_X8_line h Q := by
  have hn := H.2.1
  have hp := S.2.2.2.1
  have he := H.2.2.2.2.2
  unfold w_X8_line
  refine c_pe H p l h _ S hl (fun f ef h1 D1 => ?_) (fun p1 l1 ef h1 S1 => ?_)
  · refine c_takesD H D1 (by decide) ⟨fun _ => c_into (α := True) H D1.1 (c_addD H D1 _ _ (fun h2 D2 => fa f ?_ h2 D2)), fun q => absurd rfl q⟩
    unfold pli
    rw [ef]
  · obtain ⟨a1, a2, a3, a4⟩ := (gd_pe he p hp).2 p1 l1 ef
    refine c_takes H S1 (by decide) (fun e h2 S2 => ⟨fun q => absurd q (by decide), fun _ => ?_⟩) (fun e => ⟨fun _ => ?_, fun q => absurd rfl q⟩)
    · have hp1 : p1 < n := ch_lt he (fun q => by rw [q] at e; exact absurd e (by decide))
      have len1 : (l ++ l1).length ≤ p1 := by rw [List.length_append]; omega
      refine c_into (α := True) H S2.1 (c_add H S2 (by omega) _ _ (fun h3 S3 => ?_))
      have len2 : (l ++ l1 ++ [((63 : Int32), (0 : Int32))]).length ≤ p1 + 1 := by rw [List.length_append, List.length_singleton]; omega
      refine c_pe H (p1 + 1) _ h3 _ S3 len2 (fun f eg h4 D4 => ?_) (fun p2 l2 eg h4 S4 => ?_)
      · refine c_into (α := True) H D4.1 (c_addD H D4 _ _ (fun h5 D5 => fa f ?_ h5 D5))
        unfold pli
        rw [ef]
        dsimp only
        rw [if_pos e, eg]
      · obtain ⟨b1, b2, b3, b4⟩ := (gd_pe he (p1 + 1) hp1).2 p2 l2 eg
        refine c_into (α := True) H S4.1 (c_add H S4 (by rw [List.length_append]; omega) _ _ (fun h5 S5 => su p2 (l1, l2) ?_ h5 ?_))
        · unfold pli
          rw [ef]
          dsimp only
          rw [if_pos e, eg]
        · have : l ++ l1 ++ [((63 : Int32), (0 : Int32))] ++ l2 ++ [((59 : Int32), (0 : Int32))] = l ++ fl [(l1, l2)] := by
            show _ = l ++ (tq l1 ++ (l2 ++ (59, 0) :: []))
            cases l1 with
            | nil => exact absurd rfl (gd_ne a4)
            | cons a t => simp [tq]
          rw [this] at S5
          exact S5
    · refine c_into (α := True) H S1.1 (c_add H S1 (by rw [List.length_append]; omega) _ _ (fun h5 S5 => su p1 ([], l1) ?_ h5 ?_))
      · unfold pli
        rw [ef]
        dsimp only
        rw [if_neg e]
      · have : l ++ l1 ++ [((59 : Int32), (0 : Int32))] = l ++ fl [([], l1)] := by
          show _ = l ++ (tq [] ++ (l1 ++ (59, 0) :: []))
          simp [tq]
        rw [this] at S5
        exact S5
/-- the end of the reading: a fault -/
theorem c_endD (H : HC h0 v n ch) {h : mH} {f : Nat} (D : DC h0 v n ch h f) {Q : Int32 → mH → Prop} (K : ∀ h1, Fr (cl [v, v + 1, v + 2] [(11, 1), (11, 2), (11, 3)]) h0 h1 → gi h1 11 1 = 0 → Q (nI f) h1) : w_X8_read_J51 Q h := by
  obtain ⟨fr, hf, -, d⟩ := D
  obtain ⟨g1, -, -⟩ := H.fx fr
  have hn := H.2.1
  have fr2 : Fr (cl [v, v + 1, v + 2] [(11, 1), (11, 2), (11, 3)]) h0 h := fr.mono (fun x k hx => by
    unfold PC
    simp only [cl, Bool.or_eq_false_iff] at hx ⊢
    refine ⟨hx.1, ?_⟩
    have h2 := hx.2
    simp only [List.contains_cons, Bool.or_eq_false_iff] at h2 ⊢
    exact h2.2)
  unfold w_X8_read_J51
  rcases d with d | ⟨d3, d2, dd⟩
  · refine ⟨fun _ h10 e10 => ?_, fun q => ?_⟩
    · rw [show gi h10 11 3 = nI f by rw [e10, gi_si, if_neg (by omega)]; exact d]
      exact K h10 (by rw [e10]; exact fr2.si (by simp [cl])) (by rw [e10, gi_si, if_pos ⟨rfl, rfl⟩])
    · rw [d] at q
      exact absurd (nI_pos' (by omega)) q
  · have hfn : f < n := ch_lt H.2.2.2.2.2 (fun q => by rw [q] at dd; exact dd.1 (by decide))
    rw [d3, g1, d2, nl n f (by omega) (by omega)]
    refine ⟨fun q => absurd q (by decide), fun _ => ⟨fun q => absurd q (by omega), fun _ h12 e12 h13 e13 => ?_⟩⟩
    rw [show gi h13 11 3 = nI f by rw [e13, gi_si, if_neg (by omega), e12, gi_si, if_pos ⟨rfl, rfl⟩]]
    exact K h13 (by rw [e13, e12]; exact (fr2.si (by simp [cl])).si (by simp [cl])) (by rw [e13, gi_si, if_pos ⟨rfl, rfl⟩])
theorem c_end (H : HC h0 v n ch) {h : mH} {p : Nat} {l : List qS} (S : SC h0 v n h p l) {Q : Int32 → mH → Prop} (y : p < n → ∀ h1, Fr (cl [v, v + 1, v + 2] [(11, 1), (11, 2), (11, 3)]) h0 h1 → gi h1 11 1 = 0 → Q (nI p) h1) (z : ¬ p < n → ∀ h1, h1 = si h 11 1 0 → Q (-1) h1) : w_X8_read_J51 Q h := by
  have hn := H.2.1
  have hp := S.2.2.2.1
  obtain ⟨g1, -, -⟩ := H.fx S.1
  have fr2 : Fr (cl [v, v + 1, v + 2] [(11, 1), (11, 2), (11, 3)]) h0 h := S.1.mono (fun x k hx => by
    unfold PC
    simp only [cl, Bool.or_eq_false_iff] at hx ⊢
    refine ⟨hx.1, ?_⟩
    have h2 := hx.2
    simp only [List.contains_cons, Bool.or_eq_false_iff] at h2 ⊢
    exact h2.2)
  unfold w_X8_read_J51
  rw [S.2.1, g1, S.2.2.1, nl n p (by omega) (by omega)]
  refine ⟨fun q => absurd q (by decide), fun _ => ⟨fun q h11 e11 => ?_, fun q h12 e12 h13 e13 => ?_⟩⟩
  · rw [show gi h11 11 3 = -1 by rw [e11, gi_si, if_neg (by omega)]; exact S.2.1]
    exact z (by omega) h11 e11
  · rw [show gi h13 11 3 = nI p by rw [e13, gi_si, if_neg (by omega), e12, gi_si, if_pos ⟨rfl, rfl⟩]]
    exact y (by omega) h13 (by rw [e13, e12]; exact (fr2.si (by simp [cl])).si (by simp [cl])) (by rw [e13, gi_si, if_pos ⟨rfl, rfl⟩])
theorem c_text (H : HC h0 v n ch) {Q : Int32 → mH → Prop} : ∀ (k i p : Nat) (L : List qL) (h : mH) (CC : mH → Prop), (∀ h5, w_X8_read_L24 (fun h9 => w_X8_read_J51 Q h9) Q (k + 1) (nI i) h5 → CC h5) → n < p + k → i ≤ p → SC h0 v n h p (fl L) → (fl L).length ≤ p →
    (∀ f, px ch n k p L = .inl f → f ≤ n → ∀ h1, Fr (cl [v, v + 1, v + 2] [(11, 1), (11, 2), (11, 3)]) h0 h1 → gi h1 11 1 = 0 → Q (nI f) h1) →
    (∀ L', px ch n k p L = .inr L' → ∀ p' h1, SC h0 v n h1 p' (fl L') → (fl L').length ≤ 121 → Q (-1) (si h1 11 1 0)) →
    w_X8_line h CC := by
  intro k
  induction k with
  | zero =>
    intro i p L h CC hC hk _ S _ _ _
    have := S.2.2.2.1
    omega
  | succ k ih =>
    intro i p L h CC hC hk hi S hl fa su
    have hn := H.2.1
    have hp := S.2.2.2.1
    have he := H.2.2.2.2.2
    refine c_line H S hl (fun f ef h1 D1 => hC h1 ?_) (fun p1 x ef h1 S1 => hC h1 ?_)
    · have K : w_X8_read_J51 Q h1 := c_endD H D1 (fun h2 f2 e2 => fa f (by unfold px; rw [ef]) D1.2.1 h2 f2 e2)
      unfold w_X8_read_L24
      exact ⟨fun _ => K, fun _ => c_takesD H D1 (by decide) ⟨fun _ => K, fun q => absurd rfl q⟩⟩
    · obtain ⟨a1, a2, a3, a4, a5, a6⟩ := (gd_pli he hp).2 p1 x ef
      rw [← fl_app] at S1
      have len : (fl (L ++ [x])).length ≤ p1 + 1 := by
        rw [fl_app, List.length_append]
        show (fl L).length + (tq x.1 ++ (x.2 ++ [((59 : Int32), (0 : Int32))])).length ≤ _
        rw [← List.append_assoc, List.length_append, List.length_singleton]
        omega
      have e1 := (H.fx S1.1).1
      unfold w_X8_read_L24
      rw [e1, nl n i (by omega) (by omega)]
      refine ⟨fun q => by omega, fun _ => c_takes H S1 (by decide) (fun e h2 S2 => ⟨fun q => absurd q (by decide), fun _ => ?_⟩) (fun e => ⟨fun _ => ?_, fun q => absurd rfl q⟩)⟩
      · rw [nI_1]
        refine ih (i + 1) (p1 + 1) (L ++ [x]) h2 _ (fun _ y => y) (by omega) (by omega) S2 len (fun f e2 => fa f ?_) (fun L' e2 => su L' ?_)
        · unfold px
          rw [ef]
          dsimp only
          rw [if_pos e]
          exact e2
        · unfold px
          rw [ef]
          dsimp only
          rw [if_pos e]
          exact e2
      · refine c_end H S1 (fun y h2 f2 e2 => fa p1 ?_ a2 h2 f2 e2) (fun y h2 e2 => ?_)
        · unfold px
          rw [ef]
          dsimp only
          rw [if_neg e, if_pos y]
        · rw [e2]
          refine su (L ++ [x]) ?_ p1 h1 S1 (by omega)
          unfold px
          rw [ef]
          dsimp only
          rw [if_neg e, if_neg y]
end READ
