/-! PURE: lot -/
theorem RA.walk {h : mH} (r : RA h) : ∃ w0 w1, gi h 2 5 = nI w0 ∧ gi h 2 6 = nI w1 ∧ gi h 53 4 = nI w0 ∧ gi h 53 5 = nI w1 ∧ w0 ≤ w1 ∧ w1 ≤ 99 := by
  obtain ⟨⟨-, -, -, -, -, e5, e6⟩, -, -, -, -, -, k5, k6, le⟩ := r
  have a5 := k5.2.2.2 (by decide)
  have a6 := k6.2.2.2 (by decide)
  have n5 : gi h 2 5 = nI (gi h 2 5).toInt.toNat := nI_of_i (by omega)
  have n6 : gi h 2 6 = nI (gi h 2 6).toInt.toNat := nI_of_i (by omega)
  exact ⟨_, _, n5, n6, by rw [← e5]; exact n5, by rw [← e6]; exact n6, by omega, by omega⟩
def wP (h : mH) (p q : Int32) (w0 w1 : Nat) (m : Nat) : Prop := nv h 0 p m ∧ sees h 1 q w0 w1 m
theorem wP_fr {P : Nat → Nat → Bool} {h s : mH} (f : Fr P h s) (d4 : ∀ k, P 54 k = false) (d5 : ∀ k, P 55 k = false) (d3 : P 53 3 = false) (p q : Int32) (w0 w1 : Nat) : wP s p q w0 w1 = wP h p q w0 w1 := by
  funext m
  unfold wP
  rw [nv_fr f d4 d5 d3, sees_fr f d4 d5 d3]
theorem i01 : inR (0 : Int32) 0 1 := by exact nI_inR (j := 0) (N := 1) (by decide) (by decide)
theorem i11 : inR (1 : Int32) 0 1 := by exact nI_inR (j := 1) (N := 1) (by decide) (by decide)
theorem p_fw11 {h : mH} {Q : Int32 → mH → Prop} (rA : RA h) {w0 w1 : Nat} (e0 : gi h 2 5 = nI w0) (e1 : gi h 2 6 = nI w1) (hw : w0 ≤ w1) (hw1 : w1 ≤ 99) {x y : Int32} (g : ∀ s, Fr (cl [20, 21] []) h s → Q (nI (cnU (wP h (prt h 0 x) (prt h 1 (x + y)) w0 w1) 720)) s) : w_X3_fitsOfWalker x y h Q := by
  unfold w_X3_fitsOfWalker
  refine p_anew (fun s f e => ?_)
  have rS := rA.ag (f.ag rfl)
  rw [e_10_part rS i01]
  refine p_strike (f := 0) (t := 0) rS i01 (prt_in _ _ _) (Nat.le_refl _) (by decide) (fun s2 f2 e2 => ?_)
  have f02 := f.tr f2
  have rS2 := rA.ag (f02.ag rfl)
  rw [e_10_part rS2 i11, f02.i 2 5 rfl, f02.i 2 6 rfl, e0, e1]
  refine p_strike rS2 i11 (prt_in _ _ _) hw hw1 (fun s3 f3 e3 => ?_)
  refine p_howMany (p := wP h (prt h 0 x) (prt h 1 (x + y)) w0 w1) (fun m hm => ?_) (g s3 (f02.tr f3))
  have k2 := e2 m hm
  have k3 := e3 m hm
  rw [sees_fr f (fun _ => rfl) (fun _ => rfl) rfl, prt_fr f (fun _ => rfl) (fun _ => rfl), e m hm] at k2
  rw [sees_fr f02 (fun _ => rfl) (fun _ => rfl) rfl, prt_fr f02 (fun _ => rfl) (fun _ => rfl)] at k3
  have s0 : sees h 0 (prt h 0 x) 0 0 m ↔ nv h 0 (prt h 0 x) m := ⟨fun ⟨z, _, z2, z3⟩ => by have : z = 0 := by omega
                                                                                           subst this
                                                                                           exact z3, fun z => ⟨0, Nat.le_refl _, Nat.le_refl _, z⟩⟩
  by_cases q1 : sees h 1 (prt h 1 (x + y)) w0 w1 m
  · rw [k3.1 q1]
    by_cases q0 : sees h 0 (prt h 0 x) 0 0 m
    · rw [k2.1 q0, bi_1 ⟨s0.mp q0, q1⟩]
    · rw [k2.2 q0, bi_0 (fun w => q0 (s0.mpr w.1))]
  · rw [k3.2 q1, bi_0 (fun w => q1 w.2)]
theorem e_walkOf {h : mH} (rA : RA h) {a : Int32} {Q : Int32 → mH → Prop} (K : Q (gi h 53 4 + irm a (gi h 53 5 - gi h 53 4 + 1)) h) : w_X10_walkOf a h Q := by
  obtain ⟨w0, w1, e0, e1, e2, e3, hw, hw1⟩ := rA.walk
  unfold w_X10_walkOf
  intro x1 ex
  subst ex
  rw [e2, e3] at K
  rw [e0, e1]
  have k : nI w1 - nI w0 + 1 = nI (w1 - w0 + 1) := by rw [pk_sub hw, nI_1]
  rw [k] at K ⊢
  exact ⟨fun q => absurd q (nI_nle (by omega) (by omega)), fun _ => ⟨nI_ne0 (by omega) (by omega), K⟩⟩
theorem p_ws12 {h : mH} {Q : Int32 → mH → Prop} {w0 w1 m : Nat} (e0 : gi h 53 4 = nI w0) (e1 : gi h 53 5 = nI w1) (hw : w0 ≤ w1) (hw1 : w1 ≤ 99) (hm : m < 720) {p q : Int32} (K : Q (bi (wP h p q w0 w1 m)) h) : w_X12_walksSo (nI m) p q h Q := by
  unfold w_X12_walksSo
  rw [e_12_part i01, e_12_near]
  refine b1 (fun k => ?_) (fun k => by rw [bi_0 (fun w => k w.1)] at K; exact K)
  intro x5 ex
  rw [e0] at ex
  subst ex
  obtain ⟨J, hJ, st, go⟩ := least (p := fun j => w1 < w0 + j ∨ nv h 1 q (m + (w0 + j))) (w1 + 1 - w0) (Or.inl (by omega))
  have := loop_0 (σ := mH) (fun n j s => w_X12_walksSo_L22 (fun h10 => Q 0 h10) Q (nI m) q n (nI (w0 + j)) s) (fun j s => s = h) J h rfl (fun n s e => ?_) (fun n j s hj e nx => ?_)
  · exact this
  · subst e
    unfold w_X12_walksSo_L22
    rw [e1, nlt _ _ (by omega) (by omega)]
    refine ⟨fun z => ?_, fun z => ?_⟩
    · rw [bi_0 (fun w => ?_)] at K
      · exact K
      · obtain ⟨x, h1, h2, h3⟩ := w.2
        refine go (x - w0) (by omega) (Or.inr ?_)
        rw [show w0 + (x - w0) = x by omega]
        exact h3
    · have y : nv s 1 q (m + (w0 + J)) := st.resolve_left z
      rw [nI_add, e_12_part i11, e_12_near, show nr (gi s 53 3) (prt s 1 (nI (m + (w0 + J)))) q = nv s 1 q (m + (w0 + J)) from rfl, bi_1 y]
      rw [bi_1 ⟨k, w0 + J, by omega, by omega, y⟩] at K
      exact ⟨fun z => absurd z (by decide), fun _ => K⟩
  · subst e
    have hj2 := go j hj
    unfold w_X12_walksSo_L22
    rw [e1, nlt _ _ (by omega) (by omega)]
    refine ⟨fun z => absurd (Or.inl z) hj2, fun z => ?_⟩
    have y : ¬ nv s 1 q (m + (w0 + j)) := fun w => hj2 (Or.inr w)
    rw [nI_add, e_12_part i11, e_12_near, show nr (gi s 53 3) (prt s 1 (nI (m + (w0 + j)))) q = nv s 1 q (m + (w0 + j)) from rfl, bi_0 y, nI_1]
    exact ⟨fun _ => nx _ rfl, fun w => absurd rfl w⟩
theorem p_lot99 {h : mH} {K Q : _} {l2 l3 l4 l5 l6 p q : Int32} {w0 w1 : Nat} (e0 : gi h 53 4 = nI w0) (e1 : gi h 53 5 = nI w1) (hw : w0 ≤ w1) (hw1 : w1 ≤ 99) (g : K (nI (cnU (wP h p q w0 w1) 720)) h) : ∃ n, w_X12_lot_L99 K Q l2 l3 l4 l5 l6 p q n 0 0 h := by
  have := loop_0 (σ := Int32 × mH) (fun n i s => w_X12_lot_L99 K Q l2 l3 l4 l5 l6 p q n s.1 (nI i) s.2) (fun i s => s.2 = h ∧ s.1 = nI (cnU (wP h p q w0 w1) i)) 720 (0, h) ⟨rfl, rfl⟩ (fun n s e => ?_) (fun n i s hi e nx => ?_)
  · exact this
  · obtain ⟨x, t⟩ := s
    obtain ⟨rfl, e2⟩ := e
    have e3 : x = nI (cnU (wP t p q w0 w1) 720) := e2
    subst e3
    unfold w_X12_lot_L99
    exact ⟨fun _ => g, fun q => absurd ((nl 720 720 (by decide) (by decide)).mpr (Nat.le_refl _)) q⟩
  · obtain ⟨x, t⟩ := s
    obtain ⟨e2, e3⟩ := e
    have e2' : t = h := e2
    subst e2'
    have e3' : x = nI (cnU (wP t p q w0 w1) i) := e3
    subst e3'
    unfold w_X12_lot_L99
    rw [show (720 : Int32) = nI 720 from rfl, nl 720 i (by decide) (by omega), nI_1, nI_1]
    refine ⟨fun q => absurd q (by omega), fun _ => p_ws12 e0 e1 hw hw1 hi ⟨fun z => ?_, fun z => ?_⟩⟩
    · exact nx (_, t) ⟨rfl, by rw [cnU_n (bi_z.mp z)]⟩
    · have z' : wP t p q w0 w1 i := Classical.byContradiction fun w => z (bi_z.mpr w)
      exact nx (_, t) ⟨rfl, by rw [cnU_y z']; rfl⟩
def sd (x : Int32) : Int32 := x * 1103515245 + 12345
noncomputable def lotC (h : mH) (w0 w1 : Nat) (x : Int32) : Nat := cnU (wP h (prt h 0 (irm (ush (sd x) 8) 720)) (prt h 1 (irm (ush (sd x) 8) 720 + (gi h 53 4 + irm (ush (sd (sd x)) 8) (gi h 53 5 - gi h 53 4 + 1)))) w0 w1) 720
noncomputable def lotS (h : mH) (w0 w1 : Nat) (a : Int32) : Nat → Int32 × Int32 × Int32
  | 0 => (0, 0, a)
  | i + 1 => ((lotS h w0 w1 a i).1 + nI (lotC h w0 w1 (lotS h w0 w1 a i).2.2), (lotS h w0 w1 a i).2.1 + (if nI (lotC h w0 w1 (lotS h w0 w1 a i).2.2) = 1 then 1 else 0), sd (sd (lotS h w0 w1 a i).2.2))
theorem p_lot11 {h : mH} {K Q : _} {l3 a : Int32} {N w0 w1 : Nat} (rA : RA h) (e0 : gi h 2 5 = nI w0) (e1 : gi h 2 6 = nI w1) (hw : w0 ≤ w1) (hw1 : w1 ≤ 99) (hN : N ≤ 20) (g : ∀ s, Fr (cl [20, 21] []) h s → K (lotS h w0 w1 a N).1 (lotS h w0 w1 a N).2.1 s) : ∃ n, w_X11_lot_L33 K Q (nI N) l3 n 0 0 a 0 h := by
  have := loop_0 (σ := Int32 × Int32 × Int32 × mH) (fun n i s => w_X11_lot_L33 K Q (nI N) l3 n s.1 s.2.1 s.2.2.1 (nI i) s.2.2.2) (fun i s => Fr (cl [20, 21] []) h s.2.2.2 ∧ s.1 = (lotS h w0 w1 a i).1 ∧ s.2.1 = (lotS h w0 w1 a i).2.1 ∧ s.2.2.1 = (lotS h w0 w1 a i).2.2) N (0, 0, a, h) ⟨Fr.rf _ h, rfl, rfl, rfl⟩ (fun n s e => ?_) (fun n i s hi e nx => ?_)
  · exact this
  · obtain ⟨x, y, z, s⟩ := s
    obtain ⟨f, e2, e3, e4⟩ := e
    have e2' : x = (lotS h w0 w1 a N).1 := e2
    have e3' : y = (lotS h w0 w1 a N).2.1 := e3
    subst e2'
    subst e3'
    unfold w_X11_lot_L33
    exact ⟨fun _ => g s f, fun q => absurd ((nl N N (by omega) (by omega)).mpr (Nat.le_refl _)) q⟩
  · obtain ⟨x, y, z, s⟩ := s
    obtain ⟨f, e2, e3, e4⟩ := e
    have f' : Fr (cl [20, 21] []) h s := f
    have e2' : x = (lotS h w0 w1 a i).1 := e2
    have e3' : y = (lotS h w0 w1 a i).2.1 := e3
    have e4' : z = (lotS h w0 w1 a i).2.2 := e4
    have rS := rA.ag (f'.ag rfl)
    unfold w_X11_lot_L33 w_X11_drawn
    rw [nl N i (by omega) (by omega)]
    refine ⟨fun q => absurd q (by omega), fun _ x5 ex => e_walkOf rS (p_fw11 rS (w0 := w0) (w1 := w1) (by rw [f'.i 2 5 rfl]; exact e0) (by rw [f'.i 2 6 rfl]; exact e1) hw hw1 (fun s2 f2 x12 y12 x13 y13 x14 y14 => ?_))⟩
    rw [nI_1]
    rw [f'.i 53 4 rfl, f'.i 53 5 rfl, wP_fr f' (fun _ => rfl) (fun _ => rfl) rfl, prt_fr f' (fun _ => rfl) (fun _ => rfl), prt_fr f' (fun _ => rfl) (fun _ => rfl), ex] at y12 y13
    subst e4'
    refine nx (x12, x14, _, s2) ⟨f'.tr f2, ?_, ?_, rfl⟩
    · show x12 = _
      rw [y12, e2']
      rfl
    · show x14 = _
      rw [y14, y13, e3']
      rfl
theorem p_lot12 {h h1 : mH} {K Q : _} {l3 a : Int32} {N w0 w1 : Nat} (rA : RA h) (f1 : Fr (cl [20, 21] [(53, 40)]) h h1) (ea : gi h1 53 40 = a) (e0 : gi h 53 4 = nI w0) (e1 : gi h 53 5 = nI w1) (hw : w0 ≤ w1) (hw1 : w1 ≤ 99) (hN : N ≤ 20) (g : ∀ s, Fr (cl [20, 21] [(53, 40)]) h s → K (lotS h w0 w1 a N).1 (lotS h w0 w1 a N).2.1 s) : ∃ n, w_X12_lot_L35 K Q (nI N) l3 n 0 0 0 h1 := by
  have := loop_0 (σ := Int32 × Int32 × mH) (fun n i s => w_X12_lot_L35 K Q (nI N) l3 n s.1 s.2.1 (nI i) s.2.2) (fun i s => Fr (cl [20, 21] [(53, 40)]) h s.2.2 ∧ s.1 = (lotS h w0 w1 a i).1 ∧ s.2.1 = (lotS h w0 w1 a i).2.1 ∧ gi s.2.2 53 40 = (lotS h w0 w1 a i).2.2) N (0, 0, h1) ⟨f1, rfl, rfl, ea⟩ (fun n s e => ?_) (fun n i s hi e nx => ?_)
  · exact this
  · obtain ⟨x, y, s⟩ := s
    obtain ⟨f, e2, e3, e4⟩ := e
    have e2' : x = (lotS h w0 w1 a N).1 := e2
    have e3' : y = (lotS h w0 w1 a N).2.1 := e3
    subst e2'
    subst e3'
    unfold w_X12_lot_L35
    exact ⟨fun _ => g s f, fun q => absurd ((nl N N (by omega) (by omega)).mpr (Nat.le_refl _)) q⟩
  · obtain ⟨x, y, s⟩ := s
    obtain ⟨f, e2, e3, e4⟩ := e
    have f' : Fr (cl [20, 21] [(53, 40)]) h s := f
    have e2' : x = (lotS h w0 w1 a i).1 := e2
    have e3' : y = (lotS h w0 w1 a i).2.1 := e3
    have e4' : gi s 53 40 = (lotS h w0 w1 a i).2.2 := e4
    unfold w_X12_lot_L35 w_X12_draw
    rw [nl N i (by omega) (by omega)]
    refine ⟨fun q => absurd q (by omega), fun _ h5 y5 => ⟨by decide, fun h6 y6 => ?_⟩⟩
    subst y5
    subst y6
    have f5 : Fr (cl [20, 21] [(53, 40)]) h (si (si s 53 40 (gi s 53 40 * 1103515245 + 12345)) 53 40 (gi (si s 53 40 (gi s 53 40 * 1103515245 + 12345)) 53 40 * 1103515245 + 12345)) := (f'.si rfl).si rfl
    have c1 : gi (si s 53 40 (gi s 53 40 * 1103515245 + 12345)) 53 40 = sd (gi s 53 40) := rfl
    have c2 : gi (si (si s 53 40 (gi s 53 40 * 1103515245 + 12345)) 53 40 (gi (si s 53 40 (gi s 53 40 * 1103515245 + 12345)) 53 40 * 1103515245 + 12345)) 53 40 = sd (sd (gi s 53 40)) := rfl
    have f4 : Fr (cl [20, 21] [(53, 40)]) h (si s 53 40 (gi s 53 40 * 1103515245 + 12345)) := f'.si rfl
    generalize si (si s 53 40 (gi s 53 40 * 1103515245 + 12345)) 53 40 (gi (si s 53 40 (gi s 53 40 * 1103515245 + 12345)) 53 40 * 1103515245 + 12345) = s6 at f5 c2 ⊢
    generalize si s 53 40 (gi s 53 40 * 1103515245 + 12345) = s5 at c1 f4 ⊢
    dsimp only
    rw [c1, c2, f4.i 53 4 rfl, f4.i 53 5 rfl, e0, e1, e4']
    refine ⟨by rw [pk_sub hw, nI_1]; exact nI_ne0 (by omega) (by omega), fun x10 y10 => ?_⟩
    rw [e_12_part i01, e_12_part i11, prt_fr f5 (fun _ => rfl) (fun _ => rfl), prt_fr f5 (fun _ => rfl) (fun _ => rfl)]
    refine p_lot99 (w0 := w0) (w1 := w1) (by rw [f5.i 53 4 rfl]; exact e0) (by rw [f5.i 53 5 rfl]; exact e1) hw hw1 (fun x19 y19 => ?_)
    rw [wP_fr f5 (fun _ => rfl) (fun _ => rfl) rfl, y10] at *
    have cc : cnU (wP h (prt h 0 (irm (ush (sd (lotS h w0 w1 a i).2.2) 8) 720)) (prt h 1 (irm (ush (sd (lotS h w0 w1 a i).2.2) 8) 720 + (nI w0 + irm (ush (sd (sd (lotS h w0 w1 a i).2.2)) 8) (nI w1 - nI w0 + 1)))) w0 w1) 720 = lotC h w0 w1 (lotS h w0 w1 a i).2.2 := by
      unfold lotC
      rw [e0, e1]
    rw [cc] at y19 ⊢
    rw [nI_1]
    refine ⟨fun q => nx (x19, y, s6) ⟨f5, ?_, ?_, ?_⟩, fun q => nx (x19, y + 1, s6) ⟨f5, ?_, ?_, ?_⟩⟩
    · show x19 = _
      rw [y19, e2']
      rfl
    · show y = (lotS h w0 w1 a i).2.1 + (if nI (lotC h w0 w1 (lotS h w0 w1 a i).2.2) = 1 then 1 else 0)
      rw [if_neg q, e3', Int32.add_zero]
    · show gi s6 53 40 = _
      rw [c2, e4']
      rfl
    · show x19 = _
      rw [y19, e2']
      rfl
    · show y + 1 = (lotS h w0 w1 a i).2.1 + (if nI (lotC h w0 w1 (lotS h w0 w1 a i).2.2) = 1 then 1 else 0)
      rw [if_pos q, e3']
    · show gi s6 53 40 = _
      rw [c2, e4']
      rfl
theorem J_lot {i : Nat} {h : mH} (r : Inv i h) (a b c : Int32) : w_X11_lot a b c h (fun v h1 => w_X12_lot a b c h1 (fun w h2 => v = w ∧ Inv (i + 1) h2)) := by
  have u := r.up
  obtain ⟨w0, w1, e0, e1, e2, e3, hw, hw1⟩ := r.1.walk
  have h1' : (1 : Int32).toInt = 1 := rfl
  have h20 : (20 : Int32).toInt = 20 := rfl
  have hin : inR b 1 20 ↔ ¬ b < 1 ∧ ¬ 20 < b := Iff.rfl
  have n1 : ¬ (inR b 1 20 ∧ inR c 0 1) → w_X12_lot a b c h (fun w h2 => -1 = w ∧ Inv (i + 1) h2) := fun q => by
    unfold w_X12_lot
    rw [e_12_in]
    refine b0 (fun _ => ⟨rfl, u⟩) (fun hb => ?_)
    rw [e_12_in]
    exact b1 (fun hc => absurd ⟨hb, hc⟩ q) (fun _ => ⟨rfl, u⟩)
  unfold w_X11_lot
  refine ⟨fun q => n1 (fun z => z.1.1 q), fun q1 => ⟨fun q => n1 (fun z => z.1.2 q), fun q2 => ?_⟩⟩
  rw [e_11_one, bi_i (one_inR 1 rfl)]
  refine b1 (fun hc => ?_) (fun q => n1 (fun z => q z.2))
  have hb : inR b 1 20 := ⟨q1, q2⟩
  have hb' := inR_i.mp hb
  rw [h1', h20] at hb'
  have eb : b = nI b.toInt.toNat := nI_of_i (by omega)
  have hN : b.toInt.toNat ≤ 20 := by omega
  generalize b.toInt.toNat = N at eb hN
  subst eb
  refine p_lot11 r.1 e0 e1 hw hw1 hN (fun s f x19 y19 => ?_)
  unfold w_X12_lot
  dsimp only
  rw [e_12_in]
  refine b0 (fun q => absurd hb q) (fun _ => ?_)
  rw [e_12_in]
  refine b1 (fun _ h5 y5 => ?_) (fun q => absurd hc q)
  subst y5
  refine p_lot12 (a := a) r.1 (((f.up rfl : Fr (cl [20, 21] [(53, 40)]) h s)).si rfl) rfl e2 e3 hw hw1 hN (fun s2 f2 x24 y24 => ⟨?_, u.fr (f2.up rfl)⟩)
  rw [y19, y24]
