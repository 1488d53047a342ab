/-! PURE: lot -/
theorem RA.walk {h : mH} (r : RA h) : ∃ w0 w1, gi h 2 5 = nI w0 ∧ gi h 2 6 = nI w1 ∧ gi h 53 4 = nI w0 ∧ gi h 53 5 = nI w1 ∧ w0 ≤ w1 ∧ w1 ≤ 99 := by
  obtain ⟨⟨-, -, -, -, -, e5, e6⟩, -, -, -, -, -, k5, k6, le⟩ := r
  have a5 := k5.2.2.2 (by decide)
  have a6 := k6.2.2.2 (by decide)
  have n5 : gi h 2 5 = nI (gi h 2 5).toInt.toNat := nI_of_i (by omega)
  have n6 : gi h 2 6 = nI (gi h 2 6).toInt.toNat := nI_of_i (by omega)
  exact ⟨_, _, n5, n6, by rw [← e5]; exact n5, by rw [← e6]; exact n6, by omega, by omega⟩
def wP (h : mH) (p q : Int32) (w0 w1 : Nat) (m : Nat) : Prop := nv h 0 p m ∧ sees h 1 q w0 w1 m
theorem wP_fr {P : Nat → Nat → Bool} {h s : mH} (f : Fr P h s) (d4 : ∀ k, P 54 k = false) (d5 : ∀ k, P 55 k = false) (d3 : P 53 3 = false) (p q : Int32) (w0 w1 : Nat) : wP s p q w0 w1 = wP h p q w0 w1 := by
  funext m
  unfold wP
  rw [nv_fr f d4 d5 d3, sees_fr f d4 d5 d3]
theorem i01 : inR (0 : Int32) 0 1 := by exact nI_inR (j := 0) (N := 1) (by decide) (by decide)
theorem i11 : inR (1 : Int32) 0 1 := by exact nI_inR (j := 1) (N := 1) (by decide) (by decide)
theorem p_fw11 {h : mH} {Q : Int32 → mH → Prop} (rA : RA h) {w0 w1 : Nat} (e0 : gi h 2 5 = nI w0) (e1 : gi h 2 6 = nI w1) (hw : w0 ≤ w1) (hw1 : w1 ≤ 99) {x y : Int32} (g : ∀ s, Fr (cl [20, 21] []) h s → Q (nI (cnU (wP h (prt h 0 x) (prt h 1 (x + y)) w0 w1) 720)) s) : w_X3_fitsOfWalker x y h Q := by
  unfold w_X3_fitsOfWalker
  refine p_anew (fun s f e => ?_)
  have rS := rA.ag (f.ag rfl)
  rw [e_10_part rS i01]
  refine p_strike (f := 0) (t := 0) rS i01 (prt_in _ _ _) (Nat.le_refl _) (by decide) (fun s2 f2 e2 => ?_)
  have f02 := f.tr f2
  have rS2 := rA.ag (f02.ag rfl)
  rw [e_10_part rS2 i11, f02.i 2 5 rfl, f02.i 2 6 rfl, e0, e1]
  refine p_strike rS2 i11 (prt_in _ _ _) hw hw1 (fun s3 f3 e3 => ?_)
  refine p_howMany (p := wP h (prt h 0 x) (prt h 1 (x + y)) w0 w1) (fun m hm => ?_) (g s3 (f02.tr f3))
  have k2 := e2 m hm
  have k3 := e3 m hm
  rw [sees_fr f (fun _ => rfl) (fun _ => rfl) rfl, prt_fr f (fun _ => rfl) (fun _ => rfl), e m hm] at k2
  rw [sees_fr f02 (fun _ => rfl) (fun _ => rfl) rfl, prt_fr f02 (fun _ => rfl) (fun _ => rfl)] at k3
  have s0 : sees h 0 (prt h 0 x) 0 0 m ↔ nv h 0 (prt h 0 x) m := ⟨fun ⟨z, _, z2, z3⟩ => by have : z = 0 := by omega
                                                                                           subst this
                                                                                           exact z3, fun z => ⟨0, Nat.le_refl _, Nat.le_refl _, z⟩⟩
  by_cases q1 : sees h 1 (prt h 1 (x + y)) w0 w1 m
  · rw [k3.1 q1]
    by_cases q0 : sees h 0 (prt h 0 x) 0 0 m
    · rw [k2.1 q0, bi_1 ⟨s0.mp q0, q1⟩]
    · rw [k2.2 q0, bi_0 (fun w => q0 (s0.mpr w.1))]
  · rw [k3.2 q1, bi_0 (fun w => q1 w.2)]
theorem e_walkOf {h : mH} (rA : RA h) {a : Int32} {Q : Int32 → mH → Prop} (K : Q (gi h 53 4 + irm a (gi h 53 5 - gi h 53 4 + 1)) h) : w_X10_walkOf a h Q := by
  obtain ⟨w0, w1, e0, e1, e2, e3, hw, hw1⟩ := rA.walk
  unfold w_X10_walkOf
  intro x1 ex
  subst ex
  rw [e2, e3] at K
  rw [e0, e1]
  have k : nI w1 - nI w0 + 1 = nI (w1 - w0 + 1) := by rw [pk_sub hw, nI_1]
  rw [k] at K ⊢
  exact ⟨fun q => absurd q (nI_nle (by omega) (by omega)), fun _ => ⟨nI_ne0 (by omega) (by omega), K⟩⟩
theorem p_ws12 {h : mH} {Q : Int32 → mH → Prop} {w0 w1 m : Nat} (e0 : gi h 53 4 = nI w0) (e1 : gi h 53 5 = nI w1) (hw : w0 ≤ w1) (hw1 : w1 ≤ 99) (hm : m < 720) {p q : Int32} (K : Q (bi (wP h p q w0 w1 m)) h) : w_X12_walksSo (nI m) p q h Q := by
  unfold w_X12_walksSo
  rw [e_12_part i01, e_12_near]
  refine b1 (fun k => ?_) (fun k => by rw [bi_0 (fun w => k w.1)] at K; exact K)
  intro x5 ex
  rw [e0] at ex
  subst ex
  obtain ⟨J, hJ, st, go⟩ := least (p := fun j => w1 < w0 + j ∨ nv h 1 q (m + (w0 + j))) (w1 + 1 - w0) (Or.inl (by omega))
  have := loop_0 (σ := mH) (fun n j s => w_X12_walksSo_L22 (fun h10 => Q 0 h10) Q (nI m) q n (nI (w0 + j)) s) (fun j s => s = h) J h rfl (fun n s e => ?_) (fun n j s hj e nx => ?_)
  · exact this
  · subst e
    unfold w_X12_walksSo_L22
    rw [e1, nlt _ _ (by omega) (by omega)]
    refine ⟨fun z => ?_, fun z => ?_⟩
    · rw [bi_0 (fun w => ?_)] at K
      · exact K
      · obtain ⟨x, h1, h2, h3⟩ := w.2
        refine go (x - w0) (by omega) (Or.inr ?_)
        rw [show w0 + (x - w0) = x by omega]
        exact h3
    · have y : nv s 1 q (m + (w0 + J)) := st.resolve_left z
      rw [nI_add, e_12_part i11, e_12_near, show nr (gi s 53 3) (prt s 1 (nI (m + (w0 + J)))) q = nv s 1 q (m + (w0 + J)) from rfl, bi_1 y]
      rw [bi_1 ⟨k, w0 + J, by omega, by omega, y⟩] at K
      exact ⟨fun z => absurd z (by decide), fun _ => K⟩
  · subst e
    have hj2 := go j hj
    unfold w_X12_walksSo_L22
    rw [e1, nlt _ _ (by omega) (by omega)]
    refine ⟨fun z => absurd (Or.inl z) hj2, fun z => ?_⟩
    have y : ¬ nv s 1 q (m + (w0 + j)) := fun w => hj2 (Or.inr w)
    rw [nI_add, e_12_part i11, e_12_near, show nr (gi s 53 3) (prt s 1 (nI (m + (w0 + j)))) q = nv s 1 q (m + (w0 + j)) from rfl, bi_0 y, nI_1]
    exact ⟨fun _ => nx _ rfl, fun w => absurd rfl w⟩
theorem p_lot99 {h : mH} {K Q : _} {l2 l3 l4 l5 l6 p q : Int32} {w0 w1 : Nat} (e0 : gi h 53 4 = nI w0) (e1 : gi h 53 5 = nI w1) (hw : w0 ≤ w1) (hw1 : w1 ≤ 99) (g : K (nI (cnU (wP h p q w0 w1) 720)) h) : ∃ n, w_X12_lot_L99 K Q l2 l3 l4 l5 l6 p q n 0 0 h := by
  have := loop_0 (σ := Int32 × mH) (fun n i s => w_X12_lot_L99 K Q l2 l3 l4 l5 l6 p q n s.1 (nI i) s.2) (fun i s => s.2 = h ∧ s.1 = nI (cnU (wP h p q w0 w1) i)) 720 (0, h) ⟨rfl, rfl⟩ (fun n s e => ?_) (fun n i s hi e nx => ?_)
  · exact this
  · obtain ⟨x, t⟩ := s
    obtain ⟨rfl, e2⟩ := e
    have e3 : x = nI (cnU (wP t p q w0 w1) 720) := e2
    subst e3
    unfold w_X12_lot_L99
    exact ⟨fun _ => g, fun q => absurd ((nl 720 720 (by decide) (by decide)).mpr (Nat.le_refl _)) q⟩
  · obtain ⟨x, t⟩ := s
    obtain ⟨e2, e3⟩ := e
    have e2' : t = h := e2
    subst e2'
    have e3' : x = nI (cnU (wP t p q w0 w1) i) := e3
    subst e3'
    unfold w_X12_lot_L99
    rw [show (720 : Int32) = nI 720 from rfl, nl 720 i (by decide) (by omega), nI_1, nI_1]
    refine ⟨fun q => absurd q (by omega), fun _ => p_ws12 e0 e1 hw hw1 hi ⟨fun z => ?_, fun z => ?_⟩⟩
    · exact nx (_, t) ⟨rfl, by rw [cnU_n (bi_z.mp z)]⟩
    · have z' : wP t p q w0 w1 i := Classical.byContradiction fun w => z (bi_z.mpr w)
      exact nx (_, t) ⟨rfl, by rw [cnU_y z']; rfl⟩
