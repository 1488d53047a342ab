/-! PURE: weights of times, the same both ways; weight -/
theorem clm (x : Int32) : ∃ k, k ≤ 99 ∧ imax 0 (imin 99 x) = nI k ∧ (0 ≤ x → (if x ≤ 99 then x else 99) = nI k) ∧ (¬ 0 ≤ x → (0 : Int32) = nI k) := by
  by_cases a : x < 0
  · refine ⟨0, by omega, ?_, fun q => ?_, fun _ => rfl⟩
    · have h0 : (0 : Int32).toInt = 0 := rfl
      have h99 : (99 : Int32).toInt = 99 := rfl
      have a1 : x < 99 := by rw [lt_i] at a ⊢; omega
      have a2 : ¬ 0 < x := by rw [lt_i] at a ⊢; omega
      unfold imax imin
      rw [if_pos a1, if_neg a2]
      rfl
    · rw [le_i] at q; rw [lt_i] at a; omega
  · obtain ⟨j, hj, rfl⟩ := nI_of a
    by_cases b : j < 99
    · have b1 : nI j < 99 := (nlt j 99 (by omega) (by decide)).mpr b
      refine ⟨j, by omega, ?_, fun _ => ?_, fun q => absurd (nI_pos' hj) q⟩
      · unfold imax imin
        rw [if_pos b1]
        by_cases c : j = 0
        · subst c; rfl
        · rw [if_pos (show (0 : Int32) < nI j from (nlt 0 j (by decide) (by omega)).mpr (by omega))]
      · rw [if_pos (show nI j ≤ 99 from (nl j 99 (by omega) (by decide)).mpr (by omega))]
    · have b1 : ¬ nI j < 99 := fun q => b ((nlt j 99 (by omega) (by decide)).mp q)
      refine ⟨99, by omega, ?_, fun _ => ?_, fun q => absurd (nI_pos' hj) q⟩
      · unfold imax imin
        rw [if_neg b1]
        rfl
      · by_cases c : nI j ≤ 99
        · have := (nl j 99 (by omega) (by decide)).mp c
          rw [if_pos c, show j = 99 by omega]
        · rw [if_neg c]; rfl
theorem weighV {i : Nat} {h : mH} (r : Inv i h) {v : Nat} (hv : v = 13 ∨ v = 16) (e93 : gi h 9 3 = 1) (e36 : gi h 53 36 = 1) (e92 : gi h 9 2 = nI (v + 1)) (hP : RP v h) : ∃ W : Nat → Nat, (∀ j, W j ≤ 99) ∧ (∀ j s (Q : Int32 → mH → Prop), j < 720 → Fr (cl scr scf) h s → (∀ s1, Fr (cl [10] []) s s1 → Q (nI (W j)) s1) → w_X11_weightOf (nI j) s Q) ∧
    (∀ j s (Q : Int32 → mH → Prop), j < 720 → Fr (cl scr scf) h s → (∀ s1, Fr (cl [75, 76] []) s s1 → Q (nI (W j)) s1) → w_X12_weightOf (nI j) s Q) := by
  obtain ⟨L, g, hl, hL, k2, ky, k72, k70, k73⟩ := hP
  have hfr := fr_fl L
  obtain ⟨-, n1, n2⟩ := r.2.2.1.num
  have er := r.1.err
  refine ⟨fun j => Classical.choose (clm (vals (fct (nI j) (gi h 53 14) (gi h 53 3)) L)), fun j => (Classical.choose_spec (clm (vals (fct (nI j) (gi h 53 14) (gi h 53 3)) L))).1, fun j s Q hj f K => ?_, fun j s Q hj f K => ?_⟩
  · have sp := (Classical.choose_spec (clm (vals (fct (nI j) (gi h 53 14) (gi h 53 3)) L))).2.1
    unfold w_X11_weightOf w_X10_err w_X6_weightOf
    dsimp only
    rw [f.i 9 3 rfl, e93]
    refine ⟨fun q => absurd q (by decide), fun _ => ?_⟩
    rw [f.i 5 3 rfl, f.i 2 4 rfl, n1.trans n2.symm, er]
    have c : ∀ k, cl scr scf v k = false ∧ cl scr scf (v + 1) k = false ∧ cl scr scf (v + 2) k = false := fun k => by
      rcases hv with rfl | rfl <;> exact ⟨rfl, rfl, rfl⟩
    refine v_value (L := L) hv (by rw [f.i 9 2 rfl]; exact e92) g hl (by rw [f.i v 2 (c 2).1]; exact k2) (ly_co _ 0 (fun k _ _ => ⟨f.i _ k (c k).2.1, f.i _ k (c k).2.2⟩) ky) (fun s1 f1 => ?_)
    rw [sp]
    exact K s1 f1
  · obtain ⟨-, -, sp1, sp2⟩ := Classical.choose_spec (clm (vals (fct (nI j) (gi h 53 14) (gi h 53 3)) L))
    unfold w_X12_weightOf
    rw [f.i 53 36 rfl, e36]
    refine ⟨fun _ h1 e1 h2 e2 h3 e3 h4 e4 h5 e5 => ?_, fun q => absurd q (by decide)⟩
    have f5 : Fr (cl [75] []) s h5 := by
      rw [e5, e4, e3, e2, e1]
      exact (((((Fr.rf _ _).si rfl).si rfl).si rfl).si rfl).si rfl
    have d0 : gi h5 75 0 = nI j := by rw [e5, e4, e3, e2, e1]; rfl
    have d1 : gi h5 75 1 = nI j / 60 := by rw [e5, e4, e3, e2]; rfl
    have d2 : gi h5 75 2 = irm (nI j) 60 := by rw [e5, e4, e3]; rfl
    have d3 : gi h5 75 3 = gi h 53 14 := by
      rw [e5, e4]
      show gi h3 53 14 = _
      rw [e3, e2, e1]
      exact f.i 53 14 rfl
    have d4 : gi h5 75 4 = gi h 53 3 := by
      rw [e5]
      show gi h4 53 3 = _
      rw [e4, e3, e2, e1]
      exact f.i 53 3 rfl
    have hF : ∀ c, nm c → gi h5 75 (nix c) = fct (nI j) (gi h 53 14) (gi h 53 3) c := by
      rintro c (q | q | q | q | q) <;> subst q
      · exact d0
      · exact d1
      · exact d2
      · exact d3
      · exact d4
    refine u_gives (L := L) hF g (by omega) hL ?_ (ly_co _ 0 (fun k _ _ => ⟨?_, ?_⟩) k70) (le_co _ 0 0 (fun k _ _ => ⟨?_, ?_⟩) k73) (fun h6 f6 => ?_)
    · rw [f5.i 72 0 rfl, f.i 72 0 rfl]; exact k72
    · rw [f5.i 70 k rfl, f.i 70 k rfl]
    · rw [f5.i 71 k rfl, f.i 71 k rfl]
    · rw [f5.i 73 k rfl, f.i 73 k rfl]
    · rw [f5.i 74 k rfl, f.i 74 k rfl]
    · have K6 := K h6 ((f5.up rfl).tr (f6.up rfl))
      refine ⟨fun q x8 e8 => ?_, fun q => ?_⟩
      · rw [e8, sp1 q]
        exact K6
      · rw [sp2 q]
        exact K6
theorem weigh {i : Nat} {h : mH} (r : Inv i h) : ∃ W : Nat → Nat, (∀ j, W j ≤ 99) ∧ (∀ j s (Q : Int32 → mH → Prop), j < 720 → Fr (cl scr scf) h s → (∀ s1, Fr (cl [10] []) s s1 → Q (nI (W j)) s1) → w_X11_weightOf (nI j) s Q) ∧
    (∀ j s (Q : Int32 → mH → Prop), j < 720 → Fr (cl scr scf) h s → (∀ s1, Fr (cl [75, 76] []) s s1 → Q (nI (W j)) s1) → w_X12_weightOf (nI j) s Q) := by
  obtain ⟨x1, x2, x3⟩ := r.2.2.2.2.2.1
  rcases x2 with q | q
  · refine ⟨fun _ => 1, fun _ => show 1 ≤ 99 from by decide, fun j s Q hj f K => ?_, fun j s Q hj f K => ?_⟩
    · unfold w_X11_weightOf w_X10_err w_X6_weightOf
      dsimp only
      rw [f.i 9 3 rfl, q]
      exact ⟨fun _ => K s (Fr.rf _ _), fun w => absurd rfl w⟩
    · unfold w_X12_weightOf
      rw [f.i 53 36 rfl, ← x1, q]
      exact ⟨fun w => absurd rfl w, fun _ => K s (Fr.rf _ _)⟩
  · rcases x3 with y | y
    · exact weighV r (Or.inl rfl) q (by rw [← x1]; exact q) y.1 (y.2.2 q)
    · exact weighV r (Or.inr rfl) q (by rw [← x1]; exact q) y.1 (y.2.2 q)
theorem J_weight {i : Nat} {h : mH} (r : Inv i h) (a : Int32) : w_X11_weight a h (fun v h1 => w_X12_weight a h1 (fun w h2 => v = w ∧ Inv (i + 1) h2)) := by
  have u := r.up
  obtain ⟨W, -, w1, w2⟩ := weigh r
  unfold w_X11_weight
  rw [e_11_time]
  refine b0 (fun q => ?_) (fun q => ?_)
  · dsimp only
    unfold w_X12_weight
    rw [e_12_in]
    exact b0 (fun _ => ⟨rfl, u⟩) (fun w => absurd w q)
  · obtain ⟨j, hj, rfl⟩ := inR_nI (N := 719) rfl (by decide) q
    refine w1 j h _ (by omega) (Fr.rf _ _) (fun s1 f1 => ?_)
    dsimp only
    unfold w_X12_weight
    rw [e_12_in]
    refine b0 (fun w => absurd q w) (fun _ => w2 j s1 _ (by omega) (f1.up rfl) (fun s2 f2 => ⟨rfl, u.fr ((f1.up rfl).tr (f2.up rfl))⟩))
/-- the greatest weight so far -/
noncomputable def lk (W : Nat → Nat) (p : Nat → Prop) : Nat → Int32 × Int32
  | 0 => (-2, -1)
  | i + 1 => @ite _ (p i ∧ ¬ nI (W i) ≤ (lk W p i).2) (Classical.propDecidable _) (nI i, nI (W i)) (lk W p i)
theorem lk_y {W : Nat → Nat} {p : Nat → Prop} {i : Nat} (h : p i ∧ ¬ nI (W i) ≤ (lk W p i).2) : lk W p (i + 1) = (nI i, nI (W i)) := if_pos h
theorem lk_n {W : Nat → Nat} {p : Nat → Prop} {i : Nat} (h : ¬ (p i ∧ ¬ nI (W i) ≤ (lk W p i).2)) : lk W p (i + 1) = lk W p i := if_neg h
theorem lk_or (W : Nat → Nat) (p : Nat → Prop) : ∀ i, i ≤ 720 → (lk W p i = (-2, -1)) ∨ ∃ j, j < i ∧ (lk W p i).1 = nI j := by
  intro i
  induction i with
  | zero => intro _; exact Or.inl rfl
  | succ i ih =>
    intro hi
    by_cases c : p i ∧ ¬ nI (W i) ≤ (lk W p i).2
    · exact Or.inr ⟨i, by omega, by rw [lk_y c]⟩
    · rw [lk_n c]
      rcases ih (by omega) with q | ⟨j, hj, e⟩
      · exact Or.inl q
      · exact Or.inr ⟨j, by omega, e⟩
