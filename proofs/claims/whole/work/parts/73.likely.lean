/-! PURE: likely -/
abbrev wOk11 (h : mH) (W : Nat → Nat) : Prop := ∀ j s (Q : Int32 → mH → Prop), j < 720 → Fr (cl scr scf) h s → (∀ s1, Fr (cl [10] []) s s1 → Q (nI (W j)) s1) → w_X11_weightOf (nI j) s Q
abbrev wOk12 (h : mH) (W : Nat → Nat) : Prop := ∀ j s (Q : Int32 → mH → Prop), j < 720 → Fr (cl scr scf) h s → (∀ s1, Fr (cl [75, 76] []) s s1 → Q (nI (W j)) s1) → w_X12_weightOf (nI j) s Q
theorem p_likely11 {h : mH} (rA : RA h) (rS : RS h) {W : Nat → Nat} (w1 : wOk11 h W) {Q : Int32 → mH → Prop} (K : ∀ s, Fr (cl scr scf) h s → Q (lk W (fitP h (-1)) 720).1 s) : w_X11_likely h Q := by
  unfold w_X11_likely
  refine p_findAll rA rS (fun s f e => ?_)
  have f0 : Fr (cl scr scf) h s := f.up rfl
  have := loop_0 (σ := (Int32 × Int32) × mH) (fun n j x => w_X11_likely_L23 (fun l1_4 h5 => Q l1_4 h5) Q n x.1.1 x.1.2 (nI j) x.2) (fun j x => Fr (cl [10] []) s x.2 ∧ x.1 = lk W (fitP h (-1)) j) 720 ((-2, -1), s) ⟨Fr.rf _ _, rfl⟩ (fun n x ex => ?_) (fun n j x hj ex nx => ?_)
  · exact this
  · obtain ⟨⟨b, m⟩, t⟩ := x
    obtain ⟨ft, eb⟩ := ex
    have ft' : Fr (cl [10] []) s t := ft
    have eb' : (b, m) = lk W (fitP h (-1)) 720 := eb
    have eb1 : (lk W (fitP h (-1)) 720).1 = b := by rw [← eb']
    unfold w_X11_likely_L23
    refine ⟨fun _ => ?_, fun q => absurd ((nl 720 720 (by decide) (by decide)).mpr (Nat.le_refl _)) q⟩
    have := K t (f0.tr (ft'.up rfl))
    rw [eb1] at this
    exact this
  · obtain ⟨⟨b, m⟩, t⟩ := x
    obtain ⟨ft, eb⟩ := ex
    have ft' : Fr (cl [10] []) s t := ft
    have eb' : (b, m) = lk W (fitP h (-1)) j := eb
    have eb2 : (lk W (fitP h (-1)) j).2 = m := by rw [← eb']
    unfold w_X11_likely_L23
    rw [show (720 : Int32) = nI 720 from rfl, nl 720 j (by decide) (by omega), nI_clamp (by omega), ft'.i 20 j rfl, e j hj, nI_1]
    refine ⟨fun q => absurd q (by omega), fun _ => ⟨vp_nI (by omega) (by decide), fun q => ?_, fun q => ?_⟩⟩
    · have q' := bi_z.mp q
      exact nx ((b, m), t) ⟨ft', by rw [lk_n (fun w => q' w.1)]; exact eb'⟩
    · have q' : fitP h (-1) j := Classical.byContradiction fun w => q (bi_z.mpr w)
      refine w1 j t _ hj (f0.tr (ft'.up rfl)) (fun s1 g1 => ⟨fun w => ?_, fun w => ?_⟩)
      · exact nx ((b, m), s1) ⟨ft'.tr g1, by rw [lk_n (fun y => y.2 (by rw [eb2]; exact w))]; exact eb'⟩
      · exact nx ((nI j, nI (W j)), s1) ⟨ft'.tr g1, by rw [lk_y ⟨q', by rw [eb2]; exact w⟩]⟩
theorem p_likely12 {h t : mH} (rS : RS h) {W : Nat → Nat} (hW : ∀ j, W j ≤ 99) (w2 : wOk12 h W) (f0 : Fr (cl scr scf) h t) {Q : Int32 → mH → Prop} (K : ∀ s, Fr (cl scr scf) h s → Q (lk W (fitP h (-1)) 720).1 s) : w_X12_likely t Q := by
  unfold w_X12_likely
  refine p_findFits (rS.ag (f0.ag rfl)) (fun s f e _ => ?_)
  rw [fitP_fr f0 (fun _ => rfl)] at e
  have f1 : Fr (cl scr scf) h s := f0.tr (f.up rfl)
  have := loop_0 (σ := (Int32 × Int32) × mH) (fun n j x => w_X12_likely_L12 (fun l1_8 h9 => Q l1_8 h9) Q n x.1.1 x.1.2 (nI j) x.2) (fun j x => Fr (cl [75, 76] []) s x.2 ∧ x.1.1 = (lk W (fitP h (-1)) j).1 ∧ (¬ x.1.1 < 0 → x.1.2 = (lk W (fitP h (-1)) j).2)) 720 ((-2, 0), s) ⟨Fr.rf _ _, rfl, fun q => absurd (show (-2 : Int32) < 0 by decide) q⟩ (fun n x ex => ?_) (fun n j x hj ex nx => ?_)
  · exact this
  · obtain ⟨⟨b, m⟩, t2⟩ := x
    obtain ⟨ft, eb, -⟩ := ex
    have ft' : Fr (cl [75, 76] []) s t2 := ft
    have eb' : b = (lk W (fitP h (-1)) 720).1 := eb
    unfold w_X12_likely_L12
    refine ⟨fun _ => ?_, fun q => absurd ((nl 720 720 (by decide) (by decide)).mpr (Nat.le_refl _)) q⟩
    have := K t2 (f1.tr (ft'.up rfl))
    rw [← eb'] at this
    exact this
  · obtain ⟨⟨b, m⟩, t2⟩ := x
    obtain ⟨ft, eb, em⟩ := ex
    have ft' : Fr (cl [75, 76] []) s t2 := ft
    have eb' : b = (lk W (fitP h (-1)) j).1 := eb
    have em' : ¬ b < 0 → m = (lk W (fitP h (-1)) j).2 := em
    have up : ∀ {s1}, Fr (cl [75, 76] []) s s1 → Fr (cl scr scf) h s1 := fun {s1} g => f1.tr (g.up rfl)
    have hWj := hW j
    have won : ∀ {s1}, Fr (cl [75, 76] []) s s1 → fitP h (-1) j ∧ ¬ nI (W j) ≤ (lk W (fitP h (-1)) j).2 → w_X12_likely_L12 (fun l1_8 h9 => Q l1_8 h9) Q n (nI j) (nI (W j)) (nI (j + 1)) s1 := fun {s1} g c => nx ((nI j, nI (W j)), s1) ⟨g, by rw [lk_y c], fun _ => by rw [lk_y c]⟩
    unfold w_X12_likely_L12
    rw [show (720 : Int32) = nI 720 from rfl, nl 720 j (by decide) (by omega), nI_clamp (by omega), ft'.i 77 j rfl, e j hj, nI_1]
    refine ⟨fun q => absurd q (by omega), fun _ => ⟨vp_nI (by omega) (by decide), fun q => ?_, fun q => ⟨fun c => ?_, fun c => ?_⟩⟩⟩
    · have q' := bi_z.mp q
      exact nx ((b, m), t2) ⟨ft', by rw [lk_n (fun w => q' w.1)]; exact eb', by rw [lk_n (fun w => q' w.1)]; exact em'⟩
    · have q' : fitP h (-1) j := Classical.byContradiction fun w => q (bi_z.mpr w)
      have l1 : lk W (fitP h (-1)) j = (-2, -1) := (lk_or W (fitP h (-1)) j (by omega)).elim id (fun ⟨k, hk, ek⟩ => by
        have c' : b < 0 := c
        rw [eb', ek] at c'
        exact absurd c' (nI_pos (by omega)))
      refine w2 j t2 _ hj (up ft') (fun s1 g1 => won (ft'.tr g1) ⟨q', ?_⟩)
      rw [l1, le_i, nI_toInt (by omega)]
      show ¬ ((W j : Int) ≤ (-1 : Int32).toInt)
      rw [show (-1 : Int32).toInt = -1 from by decide]
      omega
    · have q' : fitP h (-1) j := Classical.byContradiction fun w => q (bi_z.mpr w)
      have em2 := em' c
      refine w2 j t2 _ hj (up ft') (fun s1 g1 => ⟨fun w => ?_, fun w => ?_⟩)
      · have w' : m < nI (W j) := w
        refine w2 j s1 _ hj (up (ft'.tr g1)) (fun s2 g2 => won ((ft'.tr g1).tr g2) ⟨q', ?_⟩)
        rw [← em2]
        intro y
        rw [lt_i] at w'
        rw [le_i] at y
        omega
      · have w' : ¬ m < nI (W j) := w
        have no : ¬ (fitP h (-1) j ∧ ¬ nI (W j) ≤ (lk W (fitP h (-1)) j).2) := fun y => y.2 (by
          rw [← em2]
          rw [lt_i] at w'
          rw [le_i]
          omega)
        exact nx ((b, m), s1) ⟨ft'.tr g1, by rw [lk_n no]; exact eb', by rw [lk_n no]; exact em'⟩
theorem J_likely {i : Nat} {h : mH} (r : Inv i h) : w_X11_likely h (fun v h1 => w_X12_likely h1 (fun w h2 => v = w ∧ Inv (i + 1) h2)) := by
  obtain ⟨W, hW, w1, w2⟩ := weigh r
  exact p_likely11 r.1 r.2.2.1 w1 (fun s f => p_likely12 r.2.2.1 hW w2 f (fun s2 f2 => ⟨rfl, r.up.fr f2⟩))
