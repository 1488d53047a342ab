/-! PURE: next -/
noncomputable def tS (pr : Nat → Nat) (p : Nat → Prop) : Nat → (Nat → Int32) × Int32
  | 0 => (fun _ => 0, 0)
  | i + 1 => @ite _ (p i) (Classical.propDecidable _) (fun j => if j = pr i then (tS pr p i).1 j + 1 else (tS pr p i).1 j, imax (tS pr p i).2 ((tS pr p i).1 (pr i) + 1)) (tS pr p i)
theorem tS_y {pr : Nat → Nat} {p : Nat → Prop} {i : Nat} (h : p i) : tS pr p (i + 1) = (fun j => if j = pr i then (tS pr p i).1 j + 1 else (tS pr p i).1 j, imax (tS pr p i).2 ((tS pr p i).1 (pr i) + 1)) := if_pos h
theorem tS_n {pr : Nat → Nat} {p : Nat → Prop} {i : Nat} (h : ¬ p i) : tS pr p (i + 1) = tS pr p i := if_neg h
def prN (h : mH) (c a : Int32) (i : Nat) : Nat := (prt h c (nI i + a)).toNatClampNeg
theorem prN_eq (h : mH) (c a : Int32) (i : Nat) : prt h c (nI i + a) = nI (prN h c a i) ∧ prN h c a i < 60 := by
  obtain ⟨j, hj, e⟩ := inR_nI (N := 59) rfl (by decide) (prt_in h c (nI i + a))
  unfold prN
  rw [e, nI_clamp (by omega)]
  exact ⟨rfl, by omega⟩
theorem p_alike11 {h : mH} {Q : Int32 → mH → Prop} {p : Nat → Prop} {c a : Int32} (rA : RA h) (hc : inR c 0 1) (e20 : ∀ m, m < 720 → gi h 20 m = bi (p m)) (g : ∀ s, Fr (cl [22] []) h s → Q (tS (prN h c a) p 720).2 s) : w_X3_mostAlike c a h Q := by
  unfold w_X3_mostAlike
  refine loop_0 (σ := mH) (fun n i s => w_X3_mostAlike_L3 _ Q c a n (nI i) s) (fun i s => Fr (cl [22] []) h s ∧ ∀ j, j < i → gi s 22 j = 0) 60 h ⟨Fr.rf _ h, fun j hj => absurd hj (Nat.not_lt_zero j)⟩ (fun n s e => ?_) (fun n i s hi e nx => ?_)
  · unfold w_X3_mostAlike_L3
    refine ⟨fun _ => ?_, fun q => absurd ((nl 60 60 (by decide) (by decide)).mpr (Nat.le_refl _)) q⟩
    have := loop_0 (σ := Int32 × mH) (fun n i s => w_X3_mostAlike_L30 (fun l4_9 h10 => Q l4_9 h10) Q c a n s.1 (nI i) s.2) (fun i s2 => Fr (cl [22] []) h s2.2 ∧ (∀ j, j < 60 → gi s2.2 22 j = (tS (prN h c a) p i).1 j) ∧ s2.1 = (tS (prN h c a) p i).2) 720 (0, s) ⟨e.1, fun j hj => e.2 j hj, rfl⟩ (fun n s e => ?_) (fun n i s hi e nx => ?_)
    · exact this
    · obtain ⟨x, s⟩ := s
      obtain ⟨f, e1, e2⟩ := e
      have e2' : x = (tS (prN h c a) p 720).2 := e2
      subst e2'
      unfold w_X3_mostAlike_L30
      exact ⟨fun _ => g s f, fun q => absurd ((nl 720 720 (by decide) (by decide)).mpr (Nat.le_refl _)) q⟩
    · obtain ⟨x, s⟩ := s
      obtain ⟨f, e1, e2⟩ := e
      have f' : Fr (cl [22] []) h s := f
      have e1' : ∀ j, j < 60 → gi s 22 j = (tS (prN h c a) p i).1 j := e1
      have e2' : x = (tS (prN h c a) p i).2 := e2
      obtain ⟨pe, pl⟩ := prN_eq h c a i
      unfold w_X3_mostAlike_L30
      rw [show (720 : Int32) = nI 720 from rfl, nl 720 i (by decide) (by omega)]
      refine ⟨fun q => absurd q (by omega), fun _ => ?_⟩
      rw [e_10_part (rA.ag (f'.ag rfl)) hc, prt_fr f' (fun _ => rfl) (fun _ => rfl), pe, nI_clamp (by omega), nI_clamp (by omega), f'.i 20 i rfl, e20 i hi, nI_1]
      refine ⟨vp_nI (by omega) (by decide), fun q => ?_, fun q => ?_⟩
      · exact nx (x, s) ⟨f', by rw [tS_n (bi_z.mp q)]; exact e1', by rw [tS_n (bi_z.mp q)]; exact e2'⟩
      · have q' : p i := Classical.byContradiction fun w => q (bi_z.mpr w)
        have v6 : vp_in (nI (prN h c a i)) 60 := vp_nI pl (by decide)
        rw [e_11_part]
        refine b0 (fun w => absurd (by exact nI_inR (N := 59) (by omega) (by decide)) w) (fun _ => ⟨v6, v6, fun h7 y7 => ⟨v6, fun x8 y8 => ?_⟩⟩)
        subst y7
        rw [gi_si, if_pos ⟨rfl, rfl⟩, e1' _ pl] at y8
        refine nx (x8, _) ⟨f'.si rfl, fun j hj => ?_, ?_⟩
        · rw [tS_y q']
          show gi (si s 22 (prN h c a i) (gi s 22 (prN h c a i) + 1)) 22 j = if j = prN h c a i then _ else _
          rw [gi_si, e1' _ pl]
          by_cases w : j = prN h c a i
          · rw [if_pos ⟨rfl, w⟩, if_pos w, w]
          · rw [if_neg (fun z => w z.2), if_neg w, e1' j hj]
        · rw [tS_y q']
          show x8 = _
          rw [y8, e2']
  · unfold w_X3_mostAlike_L3
    rw [show (60 : Int32) = nI 60 from rfl, nl 60 i (by decide) (by omega), nI_1, nI_clamp (by omega)]
    refine ⟨fun q => absurd q (by omega), fun _ => ⟨vp_nI (by omega) (by decide), fun h1 y1 => nx h1 ?_⟩⟩
    subst y1
    refine ⟨e.1.si rfl, fun j hj => ?_⟩
    rw [gi_si]
    by_cases q : j = i
    · rw [if_pos ⟨rfl, q⟩]
    · rw [if_neg (fun z => q z.2)]
      exact e.2 j (by omega)
theorem p_alike12 {h : mH} {Q : Int32 → mH → Prop} {p : Nat → Prop} {c a : Int32} (hc : inR c 0 1) (e77 : ∀ m, m < 720 → gi h 77 m = bi (p m)) (g : ∀ s, Fr (cl [78] []) h s → Q (tS (prN h c a) p 720).2 s) : w_X12_mostAlike c a h Q := by
  unfold w_X12_mostAlike
  refine loop_0 (σ := mH) (fun n i s => w_X12_mostAlike_L2 _ Q c a n (nI i) s) (fun i s => Fr (cl [78] []) h s ∧ ∀ j, j < i → gi s 78 j = 0) 60 h ⟨Fr.rf _ h, fun j hj => absurd hj (Nat.not_lt_zero j)⟩ (fun n s e => ?_) (fun n i s hi e nx => ?_)
  · unfold w_X12_mostAlike_L2
    refine ⟨fun _ => ?_, fun q => absurd ((nl 60 60 (by decide) (by decide)).mpr (Nat.le_refl _)) q⟩
    have := loop_0 (σ := Int32 × mH) (fun n i s => w_X12_mostAlike_L26 (fun l3_7 h8 => Q l3_7 h8) Q c a n s.1 (nI i) s.2) (fun i s2 => Fr (cl [78] []) h s2.2 ∧ (∀ j, j < 60 → gi s2.2 78 j = (tS (prN h c a) p i).1 j) ∧ s2.1 = (tS (prN h c a) p i).2) 720 (0, s) ⟨e.1, fun j hj => e.2 j hj, rfl⟩ (fun n s e => ?_) (fun n i s hi e nx => ?_)
    · exact this
    · obtain ⟨x, s⟩ := s
      obtain ⟨f, e1, e2⟩ := e
      have e2' : x = (tS (prN h c a) p 720).2 := e2
      subst e2'
      unfold w_X12_mostAlike_L26
      exact ⟨fun _ => g s f, fun q => absurd ((nl 720 720 (by decide) (by decide)).mpr (Nat.le_refl _)) q⟩
    · obtain ⟨x, s⟩ := s
      obtain ⟨f, e1, e2⟩ := e
      have f' : Fr (cl [78] []) h s := f
      have e1' : ∀ j, j < 60 → gi s 78 j = (tS (prN h c a) p i).1 j := e1
      have e2' : x = (tS (prN h c a) p i).2 := e2
      obtain ⟨pe, pl⟩ := prN_eq h c a i
      unfold w_X12_mostAlike_L26
      rw [show (720 : Int32) = nI 720 from rfl, nl 720 i (by decide) (by omega), nI_clamp (by omega), f'.i 77 i rfl, e77 i hi, nI_1]
      refine ⟨fun q => absurd q (by omega), fun _ => ⟨vp_nI (by omega) (by decide), fun q => ?_, fun q => ?_⟩⟩
      · have q' : p i := Classical.byContradiction fun w => q (bi_z.mpr w)
        have v6 : vp_in (nI (prN h c a i)) 60 := vp_nI pl (by decide)
        rw [e_12_part hc, prt_fr f' (fun _ => rfl) (fun _ => rfl), pe, nI_clamp (by omega)]
        refine ⟨v6, v6, fun h5 y5 => ⟨v6, ?_⟩⟩
        have val : gi h5 78 (prN h c a i) = (tS (prN h c a) p i).1 (prN h c a i) + 1 := by
          rw [y5, gi_si, if_pos ⟨rfl, rfl⟩, e1' _ pl]
        have fin : ∀ x6, x6 = imax x ((tS (prN h c a) p i).1 (prN h c a i) + 1) → w_X12_mostAlike_L26 (fun l3_7 h8 => Q l3_7 h8) Q c a n x6 (nI (i + 1)) h5 := fun x6 y6 => by
          subst y5
          refine nx (x6, _) ⟨f'.si rfl, fun j hj => ?_, ?_⟩
          · rw [tS_y q']
            show gi (si s 78 (prN h c a i) (gi s 78 (prN h c a i) + 1)) 78 j = if j = prN h c a i then _ else _
            rw [gi_si, e1' _ pl]
            by_cases w : j = prN h c a i
            · rw [if_pos ⟨rfl, w⟩, if_pos w, w]
            · rw [if_neg (fun z => w z.2), if_neg w, e1' j hj]
          · rw [tS_y q']
            show x6 = _
            rw [y6, e2']
        dsimp only
        rw [val]
        refine ⟨fun w => fin _ ?_, fun w => ⟨v6, fun x6 y6 => fin _ ?_⟩⟩
        · unfold imax
          rw [if_neg (fun z => by rw [le_i] at w; rw [lt_i] at z; omega)]
        · unfold imax
          rw [if_pos (by rw [le_i] at w; rw [lt_i]; omega)]
          exact y6
      · exact nx (x, s) ⟨f', by rw [tS_n (bi_z.mp q)]; exact e1', by rw [tS_n (bi_z.mp q)]; exact e2'⟩
  · unfold w_X12_mostAlike_L2
    rw [show (60 : Int32) = nI 60 from rfl, nl 60 i (by decide) (by omega), nI_1, nI_clamp (by omega)]
    refine ⟨fun q => absurd q (by omega), fun _ => ⟨vp_nI (by omega) (by decide), fun h1 y1 => nx h1 ?_⟩⟩
    subst y1
    refine ⟨e.1.si rfl, fun j hj => ?_⟩
    rw [gi_si]
    by_cases q : j = i
    · rw [if_pos ⟨rfl, q⟩]
    · rw [if_neg (fun z => q z.2)]
      exact e.2 j (by omega)
theorem prN_fr {P : Nat → Nat → Bool} {h s : mH} (f : Fr P h s) (d4 : ∀ k, P 54 k = false) (d5 : ∀ k, P 55 k = false) (c a : Int32) : prN s c a = prN h c a := by
  funext i
  unfold prN
  rw [prt_fr f d4 d5]
theorem J_next {i : Nat} {h : mH} (r : Inv i h) (a b : Int32) : w_X11_next a b h (fun v h1 => w_X12_next a b h1 (fun w h2 => v = w ∧ Inv (i + 1) h2)) := by
  have u := r.up
  have n1 : ¬ (inR a 0 99 ∧ inR b 0 1) → w_X12_next a b h (fun w h2 => -1 = w ∧ Inv (i + 1) h2) := fun q => by
    unfold w_X12_next
    rw [e_12_in]
    refine b0 (fun _ => ⟨rfl, u⟩) (fun ha => ?_)
    rw [e_12_in]
    exact b1 (fun hb => absurd ⟨ha, hb⟩ q) (fun _ => ⟨rfl, u⟩)
  unfold w_X11_next
  refine ⟨fun q => n1 (fun z => z.1.1 q), fun q1 => ⟨fun q => n1 (fun z => z.1.2 q), fun q2 => ?_⟩⟩
  rw [e_11_one, bi_i (one_inR 1 rfl)]
  refine b1 (fun hb => ?_) (fun q => n1 (fun z => q z.2))
  have ha : inR a 0 99 := ⟨q1, q2⟩
  have b01 : b = 0 ∨ b = 1 := inR_01 hb
  have cle := cnU_le (fitP h (-1)) 720
  have p2 : ∀ {s : mH} {v : Int32}, Fr (cl [20, 21, 22] []) h s → (cnU (fitP h (-1)) 720 = 0 → v = -2) → (¬ cnU (fitP h (-1)) 720 = 0 → v = if (tS (prN h 0 a) (fitP h (-1)) 720).2 ≤ (tS (prN h 1 a) (fitP h (-1)) 720).2 then (if b = 0 then 0 else (tS (prN h 0 a) (fitP h (-1)) 720).2) else (if b = 0 then 1 else (tS (prN h 1 a) (fitP h (-1)) 720).2)) → w_X12_next a b s (fun w h2 => v = w ∧ Inv (i + 1) h2) := fun {s v} f v1 v2 => by
    unfold w_X12_next
    rw [e_12_in]
    refine b0 (fun q => absurd ha q) (fun _ => ?_)
    rw [e_12_in]
    refine b1 (fun _ => p_findFits (r.2.2.1.ag (f.ag rfl)) (fun s2 f2 e2 n2 => ?_)) (fun q => absurd hb q)
    rw [fitP_fr f (fun _ => rfl)] at e2 n2
    have f02 : Fr (cl [20, 21, 22, 77, 78] [(53, 38)]) h s2 := (f.up rfl).tr (f2.up rfl)
    rw [n2]
    refine ⟨fun q => ?_, fun q => ?_⟩
    · have q' : ¬ cnU (fitP h (-1)) 720 = 0 := fun w => q (by rw [w]; rfl)
      refine p_alike12 i01 e2 (fun s3 f3 => p_alike12 i11 (fun m hm => by rw [f3.i 77 m rfl]; exact e2 m hm) (fun s4 f4 => ?_))
      have f03 : Fr (cl [20, 21, 22, 77, 78] [(53, 38)]) h s3 := f02.tr (f3.up rfl)
      have I : Inv (i + 1) s4 := u.fr ((f03.tr (f4.up rfl)).up rfl)
      rw [prN_fr f02 (fun _ => rfl) (fun _ => rfl), prN_fr f03 (fun _ => rfl) (fun _ => rfl)]
      have v2' := v2 q'
      refine ⟨fun w x y => ⟨?_, I⟩, fun w x y => ⟨?_, I⟩⟩
      · rw [if_pos w] at v2'
        rw [v2', y]
      · rw [if_neg w] at v2'
        rw [v2', y]
    · exact ⟨v1 ((nn _ 0 (by omega) (by decide)).mp q), u.fr (f02.up rfl)⟩
  refine p_findAll r.1 r.2.2.1 (fun s f e => p_howMany e ⟨fun q => ?_, fun q => p2 (f.up rfl) (fun _ => rfl) (fun w => absurd ((nn _ 0 (by omega) (by decide)).mp q) w)⟩)
  have q' : ¬ cnU (fitP h (-1)) 720 = 0 := fun w => q (by rw [w]; rfl)
  refine p_alike11 (r.1.ag (f.ag rfl)) i01 e (fun s2 f2 => ?_)
  have f02 : Fr (cl [20, 21, 22] []) h s2 := (f.up rfl).tr (f2.up rfl)
  refine p_alike11 (r.1.ag (f02.ag rfl)) i11 (fun m hm => by rw [f2.i 20 m rfl]; exact e m hm) (fun s3 f3 x10 y10 => ?_)
  have f03 : Fr (cl [20, 21, 22] []) h s3 := f02.tr (f3.up rfl)
  rw [prN_fr f (fun _ => rfl) (fun _ => rfl)] at y10 ⊢
  rw [prN_fr f02 (fun _ => rfl) (fun _ => rfl)] at y10 ⊢
  refine ⟨fun w => p2 f03 (fun z => absurd z q') (fun _ => ?_), fun w => p2 f03 (fun z => absurd z q') (fun _ => ?_)⟩
  · unfold imin
    by_cases y : (tS (prN h 0 a) (fitP h (-1)) 720).2 ≤ (tS (prN h 1 a) (fitP h (-1)) 720).2
    · rw [if_pos y, if_neg w, if_neg (fun z => by rw [le_i] at y; rw [lt_i] at z; omega)]
    · rw [if_neg y, if_neg w, if_pos (by rw [le_i] at y; rw [lt_i]; omega)]
  · rw [y10]
    by_cases y : (tS (prN h 0 a) (fitP h (-1)) 720).2 ≤ (tS (prN h 1 a) (fitP h (-1)) 720).2
    · rw [if_pos y, if_pos y, if_pos w]
    · rw [if_neg y, if_neg y, if_pos w]
