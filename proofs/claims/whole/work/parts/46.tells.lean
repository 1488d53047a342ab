/-! PURE: fits, tells -/
theorem p_timeOf {h : mH} {Q : Int32 → mH → Prop} {p : Nat → Prop} {a J : Nat} (e : ∀ m, m < 720 → gi h 20 m = bi (p m)) (ha : a < 2 ^ 31) (hJ : J ≤ 720) (st : J = 720 ∨ (p J ∧ cnU p J = a)) (go : ∀ j, j < J → ¬ (j = 720 ∨ (p j ∧ cnU p j = a))) (f : J = 720 → Q (-2) h) (g : ¬ J = 720 → Q (nI J) h) : w_X3_timeOf (nI a) h Q := by
  unfold w_X3_timeOf
  have := loop_0 (σ := Int32 × mH) (fun n i s => w_X3_timeOf_L4 (fun h1 => Q (-2) h1) Q (nI a) n s.1 (nI i) s.2) (fun i s => s.2 = h ∧ s.1 = nI (cnU p i) ∧ cnU p i ≤ a) J (0, h) ⟨rfl, rfl, Nat.zero_le _⟩ (fun n s e1 => ?_) (fun n i s hi e1 nx => ?_)
  · exact this
  · obtain ⟨x, t⟩ := s
    obtain ⟨e0, e2, e3⟩ := e1
    have e0' : t = h := e0
    subst e0'
    have e2' : x = nI (cnU p J) := e2
    subst e2'
    have cle := cnU_le p J
    unfold w_X3_timeOf_L4
    rw [show (720 : Int32) = nI 720 from rfl, nl 720 J (by decide) (by omega), nI_clamp (by omega)]
    refine ⟨fun q => f (by omega), fun q => ?_⟩
    have y := st.resolve_left (by omega)
    rw [e J (by omega), bi_1 y.1]
    exact ⟨vp_nI (by omega) (by decide), fun w => absurd w (by decide), fun _ => ⟨fun w => absurd (by rw [y.2]) w, fun _ => g (by omega)⟩⟩
  · obtain ⟨x, t⟩ := s
    obtain ⟨e0, e2, e3⟩ := e1
    have e0' : t = h := e0
    subst e0'
    have e2' : x = nI (cnU p i) := e2
    subst e2'
    have cle := cnU_le p i
    have gi' := go i hi
    unfold w_X3_timeOf_L4
    rw [show (720 : Int32) = nI 720 from rfl, nl 720 i (by decide) (by omega), nI_clamp (by omega), e i (by omega), nn _ a (by omega) ha, nI_1, nI_1]
    refine ⟨fun q => absurd q (by omega), fun _ => ⟨vp_nI (by omega) (by decide), fun q => ?_, fun q => ?_⟩⟩
    · have q' := bi_z.mp q
      exact nx (_, t) ⟨rfl, by rw [cnU_n q'], by rw [cnU_n q']; exact e3⟩
    · have q' : p i := Classical.byContradiction fun w => q (bi_z.mpr w)
      refine ⟨fun w => nx (_, t) ⟨rfl, by rw [cnU_y q']; rfl, by rw [cnU_y q']; have e3' : cnU p i ≤ a := e3; omega⟩, fun w => absurd (Or.inr ⟨q', w⟩) gi'⟩
theorem p_fit12 {h : mH} {K Q : _} {p : Nat → Prop} {a J : Nat} (e : ∀ m, m < 720 → gi h 77 m = bi (p m)) (ha : a < 2 ^ 31) (hJ : J ≤ 720) (st : J = 720 ∨ (p J ∧ cnU p J = a)) (go : ∀ j, j < J → ¬ (j = 720 ∨ (p j ∧ cnU p j = a))) (f : J = 720 → K h) (g : ¬ J = 720 → Q (nI J) h) : ∃ n, w_X12_fits_L25 K Q n (nI a) 0 h := by
  have := loop_0 (σ := Int32 × mH) (fun n i s => w_X12_fits_L25 K Q n s.1 (nI i) s.2) (fun i s => s.2 = h ∧ s.1 = nI (a - cnU p i) ∧ cnU p i ≤ a) J (nI a, h) ⟨rfl, rfl, Nat.zero_le _⟩ (fun n s e1 => ?_) (fun n i s hi e1 nx => ?_)
  · exact this
  · obtain ⟨x, t⟩ := s
    obtain ⟨e0, e2, e3⟩ := e1
    have e0' : t = h := e0
    subst e0'
    have e2' : x = nI (a - cnU p J) := e2
    subst e2'
    unfold w_X12_fits_L25
    rw [show (720 : Int32) = nI 720 from rfl, nl 720 J (by decide) (by omega), nI_clamp (by omega)]
    refine ⟨fun q => f (by omega), fun q => ?_⟩
    have y := st.resolve_left (by omega)
    rw [e J (by omega), bi_1 y.1]
    exact ⟨vp_nI (by omega) (by decide), fun _ => ⟨fun w => absurd (by rw [y.2, Nat.sub_self]; rfl) w, fun _ => g (by omega)⟩, fun w => absurd w (by decide)⟩
  · obtain ⟨x, t⟩ := s
    obtain ⟨e0, e2, e3⟩ := e1
    have e0' : t = h := e0
    subst e0'
    have e2' : x = nI (a - cnU p i) := e2
    subst e2'
    have e3' : cnU p i ≤ a := e3
    have gi' := go i hi
    unfold w_X12_fits_L25
    rw [show (720 : Int32) = nI 720 from rfl, nl 720 i (by decide) (by omega), nI_clamp (by omega), e i (by omega), nI_1]
    refine ⟨fun q => absurd q (by omega), fun _ => ⟨vp_nI (by omega) (by decide), fun q => ?_, fun q => ?_⟩⟩
    · have q' : p i := Classical.byContradiction fun w => q (bi_z.mpr w)
      have ne : ¬ cnU p i = a := fun w => gi' (Or.inr ⟨q', w⟩)
      refine ⟨fun w => ?_, fun w => ?_⟩
      · rw [show a - cnU p i = (a - (cnU p i + 1)) + 1 by omega, pk_m1]
        exact nx (_, t) ⟨rfl, by rw [cnU_y q']; rfl, by rw [cnU_y q']; omega⟩
      · exact absurd ((nn (a - cnU p i) 0 (by omega) (by decide)).mp w) (by omega)
    · have q' := bi_z.mp q
      exact nx (_, t) ⟨rfl, by rw [cnU_n q'], by rw [cnU_n q']; exact e3⟩
theorem J_fits {i : Nat} {h : mH} (r : Inv i h) (a : Int32) : w_X11_fits a h (fun v h1 => w_X12_fits a h1 (fun w h2 => v = w ∧ Inv (i + 1) h2)) := by
  have u := r.up
  unfold w_X11_fits w_X12_fits
  refine ⟨fun q1 => p_findAll r.1 r.2.2.1 (fun s f e => ?_), fun q1 => ⟨fun w => absurd w q1, fun _ => ⟨rfl, u⟩⟩⟩
  have k : ∀ {Q : mH → Prop}, (∀ s2, Fr (cl [77] [(53, 38)]) s s2 → (∀ m, m < 720 → gi s2 77 m = bi (fitP h (-1) m)) → gi s2 53 38 = nI (cnU (fitP h (-1)) 720) → Inv (i + 1) s2 → Q s2) → w_X12_findFits (-1) s Q := fun g => by
    refine p_findFits (r.2.2.1.ag (f.ag rfl)) (fun s2 f2 e2 n2 => ?_)
    rw [fitP_fr f (fun _ => rfl)] at e2 n2
    exact g s2 f2 e2 n2 (u.fr ((f.up rfl).tr (f2.up rfl)))
  refine ⟨fun q2 => ?_, fun q2 => ?_⟩
  · obtain ⟨a0, ha, rfl⟩ := nI_of (x := a) (fun w => by rw [lt_i] at w; rw [le_i] at q2; omega)
    obtain ⟨J, hJ, st, go⟩ := least (p := fun j => j = 720 ∨ (fitP h (-1) j ∧ cnU (fitP h (-1)) j = a0)) 720 (Or.inl rfl)
    have fin : ∀ v, (J = 720 → v = -2) → (¬ J = 720 → v = nI J) → ((-1 ≤ nI a0 → w_X12_findFits (-1) s (fun h1 => ((0 ≤ nI a0 → ∃ n3 : Nat, w_X12_fits_L25 (fun h2 => v = -2 ∧ Inv (i + 1) h2) (fun w h2 => v = w ∧ Inv (i + 1) h2) n3 (nI a0) 0 h1) ∧ (¬ 0 ≤ nI a0 → v = gi h1 53 38 ∧ Inv (i + 1) h1)))) ∧ (¬ -1 ≤ nI a0 → v = -1 ∧ Inv (i + 1) s)) := fun v v1 v2 =>
      ⟨fun _ => k (fun s2 f2 e2 n2 I => ⟨fun _ => p_fit12 e2 ha hJ st go (fun y => ⟨v1 y, I⟩) (fun y => ⟨v2 y, I⟩), fun w => absurd q2 w⟩), fun w => absurd q1 w⟩
    exact p_timeOf e ha hJ st go (fun y => fin _ (fun _ => rfl) (fun w => absurd y w)) (fun y => fin _ (fun w => absurd w y) (fun _ => rfl))
  · exact p_howMany e ⟨fun _ => k (fun s2 f2 e2 n2 I => ⟨fun w => absurd w q2, fun _ => ⟨n2.symm, I⟩⟩), fun w => absurd q1 w⟩
theorem J_tells {i : Nat} {h : mH} (r : Inv i h) (a : Int32) : w_X11_tells a h (fun v h1 => w_X12_tells a h1 (fun w h2 => v = w ∧ Inv (i + 1) h2)) := by
  have u := r.up
  obtain ⟨hn, n1, n2⟩ := r.2.2.1.num
  have h0 : (0 : Int32).toInt = 0 := rfl
  have h1' : (1 : Int32).toInt = 1 := rfl
  have hin : inR a 0 (nI (snum h) - 1) ↔ (¬ a < 0 ∧ a < nI (snum h)) := by
    rw [inR_i, lt_i, lt_i, sub_i (by rw [nI_toInt (by omega), h1']; omega) (by rw [nI_toInt (by omega), h1']; omega), nI_toInt (by omega), h0, h1']
    omega
  unfold w_X11_tells w_X12_tells
  rw [e_11_one, n1]
  refine b1 (fun q => p_findAll r.1 r.2.2.1 (fun s f e => p_howMany e ?_)) (fun q => ?_)
  · refine p_findAll (r.1.ag (f.ag rfl)) (r.2.2.1.ag (f.ag rfl)) (fun s2 f2 e2 => ?_)
    rw [fitP_fr f (fun _ => rfl)] at e2
    refine p_howMany e2 ?_
    have f12 := f.tr f2
    dsimp only
    rw [e_12_in, f12.i 53 14 rfl, n2]
    refine b1 (fun _ => p_findFits (r.2.2.1.ag (f12.ag rfl)) (fun s3 f3 e3 n3 x4 ex => ?_)) (fun w => absurd (hin.mpr q) w)
    have f13 : Fr (cl [20, 21, 77] [(53, 38)]) h s3 := (f12.up rfl).tr (f3.up rfl)
    refine p_findFits (r.2.2.1.ag (f13.ag rfl)) (fun s4 f4 e4 n4 => ⟨?_, u.fr ((f13.up rfl).tr (f4.up rfl))⟩)
    rw [n4, ex, n3, fitP_fr f13 (fun _ => rfl), fitP_fr f12 (fun _ => rfl)]
  · dsimp only
    rw [e_12_in, n2]
    exact b1 (fun w => absurd (hin.mp w) q) (fun _ => ⟨rfl, u⟩)
