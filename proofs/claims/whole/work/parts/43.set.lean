/-! PURE: set -/
def fm (x : Int32) : Int32 := if 0 ≤ irm x 720 then irm x 720 else irm x 720 + 720
theorem fm_i (x : Int32) : (fm x).toInt = x.toInt % 720 := by
  unfold fm
  have hi := irm_i (x := x) (y := 720) (by decide)
  have h720 : (720 : Int32).toInt = 720 := rfl
  have h0 : (0 : Int32).toInt = 0 := rfl
  rw [h720] at hi
  have ht := Int.tdiv_mul_add_tmod x.toInt 720
  have hb : (x.toInt.tmod 720).natAbs < 720 := by
    rw [Int.natAbs_tmod]
    exact Nat.mod_lt _ (by decide)
  by_cases h1 : 0 ≤ irm x 720
  · rw [if_pos h1]
    rw [le_i, hi, h0] at h1
    rw [hi]
    omega
  · rw [if_neg h1]
    rw [le_i, hi, h0] at h1
    rw [Int32.toInt_add, hi, h720, Int.bmod_eq_of_le (by omega) (by omega)]
    omega
theorem set_v {t : Nat} (ht : t ≤ 99999) {g v : Int32} (hg : -9 ≤ g.toInt ∧ g.toInt ≤ 9) (hv : 0 ≤ v.toInt ∧ v.toInt < 720) : fm ((v - shw (nI t) 0 g) + 360) - 360 = (if fm ((v - nI t) - (nI t * g) / 100) < 360 then fm ((v - nI t) - (nI t * g) / 100) else fm ((v - nI t) - (nI t * g) / 100) - 720) ∧ -360 ≤ (fm ((v - shw (nI t) 0 g) + 360) - 360).toInt ∧ (fm ((v - shw (nI t) 0 g) + 360) - 360).toInt ≤ 359 := by
  have h0 : (0 : Int32).toInt = 0 := rfl
  have h360 : (360 : Int32).toInt = 360 := rfl
  have h720 : (720 : Int32).toInt = 720 := rfl
  have hs := shwI (t := t) (by omega) (o := 0) (g := g) (by rw [h0]; omega) hg
  obtain ⟨s0, s1, -⟩ := shw_i (nI t) 0 g
  have ht' : (nI t).toInt = t := nI_toInt (by omega)
  have b : -1800000 ≤ (t : Int) * g.toInt ∧ (t : Int) * g.toInt ≤ 1800000 := by
    have a1 : (t : Int) * g.toInt ≤ t * 9 := Int.mul_le_mul_of_nonneg_left hg.2 (by omega)
    have a2 : (t : Int) * (-9) ≤ t * g.toInt := Int.mul_le_mul_of_nonneg_left hg.1 (by omega)
    omega
  have em : (nI t * g).toInt = t * g.toInt := by rw [mul_i (by rw [ht']; omega) (by rw [ht']; omega), ht']
  have ed : (nI t * g / 100).toInt = ((t : Int) * g.toInt).tdiv 100 := by rw [div_i (by decide), em]; rfl
  have bd := tdiv_le ((t : Int) * g.toInt) 100 (by omega)
  rw [h0] at hs
  generalize shw (nI t) 0 g = s at hs s0 s1 ⊢
  generalize nI t * g / 100 = q at ed ⊢
  have e1 : (v - s).toInt = v.toInt - s.toInt := sub_i (by omega) (by omega)
  have e2 : (v - s + 360).toInt = v.toInt - s.toInt + 360 := by rw [add_i (by rw [e1, h360]; omega) (by rw [e1, h360]; omega), e1, h360]
  have e3 := fm_i (v - s + 360)
  rw [e2] at e3
  have e4 : (fm (v - s + 360) - 360).toInt = (fm (v - s + 360)).toInt - 360 := by rw [sub_i (by rw [e3, h360]; omega) (by rw [e3, h360]; omega), h360]
  have f1 : (v - nI t).toInt = v.toInt - t := by rw [sub_i (by rw [ht']; omega) (by rw [ht']; omega), ht']
  have f2 : (v - nI t - q).toInt = v.toInt - t - q.toInt := by rw [sub_i (by rw [f1]; omega) (by rw [f1]; omega), f1]
  have f3 := fm_i (v - nI t - q)
  rw [f2] at f3
  refine ⟨?_, by omega, by omega⟩
  by_cases w : fm (v - nI t - q) < 360
  · rw [if_pos w, eq_i, e4]
    rw [lt_i, h360] at w
    omega
  · rw [if_neg w, eq_i, e4, sub_i (by rw [h720]; omega) (by rw [h720]; omega), h720]
    rw [lt_i, h360] at w
    omega
def setH (h : mH) (k : Nat) (v t : Int32) : mH := si (si (si h 2 k v) 3 k (gi h 3 k + 1)) 4 k t
def setH2 (h : mH) (k : Nat) (v t : Int32) : mH := si (si (si h 54 k v) 56 k (gi h 56 k + 1)) 57 k t
theorem okL.nx {i : Nat} (hi : i < 1000) {n l m k t : Int32} (r : okL i n l m k) : okL (i + 1) (n + 1) t t (k + 1) := by
  obtain ⟨rfl, a1, a2, -, -⟩ := r
  have h1 : (1 : Int32).toInt = 1 := rfl
  have h0 : (0 : Int32).toInt = 0 := rfl
  have e : (n + 1).toInt = n.toInt + 1 := by rw [add_i (by rw [h1]; omega) (by rw [h1]; omega), h1]
  exact ⟨rfl, by omega, by rw [e]; omega, fun q => by rw [eq_i, e, h0] at q; omega, fun _ => rfl⟩
theorem inv_set {i : Nat} {h : mH} (r : Inv i h) (hi : i < 1000) {k : Nat} (hk : k = 0 ∨ k = 1) {v t : Int32} (hv : -360 ≤ v.toInt ∧ v.toInt ≤ 359) : Inv (i + 1) (setH2 (setH h k v t) k v t) := by
  have f : Fr (cl [3, 4, 54, 56, 57] [(2, 0), (2, 1)]) h (setH2 (setH h k v t) k v t) := by
    rcases hk with rfl | rfl
    · exact ((((((Fr.rf _ h).si rfl).si rfl).si rfl).si rfl).si rfl).si rfl
    · exact ((((((Fr.rf _ h).si rfl).si rfl).si rfl).si rfl).si rfl).si rfl
  have okv : ∀ p, p ≤ 1 → okA p v := fun p hp => ⟨fun _ => hv, fun q => by omega, fun q => by omega, fun q => by omega⟩
  have rA : RA (setH2 (setH h k v t) k v t) := by
    obtain ⟨⟨a0, a1, a2, a3, a4, a5, a6⟩, k0, k1, k2⟩ := r.1
    have g2 : ∀ x, 2 ≤ x → gi (setH2 (setH h k v t) k v t) 2 x = gi h 2 x := fun x hx => f.i 2 x (by unfold cl; simp; omega)
    have g5 : ∀ x, gi (setH2 (setH h k v t) k v t) 55 x = gi h 55 x := fun x => f.i 55 x rfl
    have g3 : ∀ x, gi (setH2 (setH h k v t) k v t) 53 x = gi h 53 x := fun x => f.i 53 x rfl
    unfold RA
    rw [g2 2 (by decide), g2 3 (by decide), g2 4 (by decide), g2 5 (by decide), g2 6 (by decide), g5, g5, g3, g3, g3]
    rcases hk with rfl | rfl
    · exact ⟨⟨rfl, a1, a2, a3, a4, a5, a6⟩, okv 0 (by decide), k1, k2⟩
    · exact ⟨⟨a0, rfl, a2, a3, a4, a5, a6⟩, k0, okv 1 (by decide), k2⟩
  have rD : RD (i + 1) (setH2 (setH h k v t) k v t) := by
    obtain ⟨d0, d1⟩ := r.2.1
    rcases hk with rfl | rfl
    · exact ⟨d0.nx hi, d1.up (Nat.le_succ i)⟩
    · exact ⟨d0.up (Nat.le_succ i), d1.nx hi⟩
  exact ⟨rA, rD, r.2.2.1.ag (Fr.ag f rfl), r.2.2.2.1.ag (Fr.ag f rfl), r.2.2.2.2.1.ag (Fr.ag f rfl), r.2.2.2.2.2.1.ag (Fr.ag f rfl), r.2.2.2.2.2.2.1.ag (Fr.ag f rfl), (r.2.2.2.2.2.2.2.1.up (Nat.le_succ i)).ag (Fr.ag f rfl), r.2.2.2.2.2.2.2.2.1.ag (Fr.ag f rfl), r.2.2.2.2.2.2.2.2.2.1.ag (Fr.ag f rfl), r.2.2.2.2.2.2.2.2.2.2.ag (Fr.ag f rfl)⟩
theorem J_set {i : Nat} {h : mH} (r : Inv i h) (hi : i < 1000) (a b : Int32) : w_X11_set a b h (fun v h1 => w_X12_set a b h1 (fun w h2 => v = w ∧ Inv (i + 1) h2)) := by
  have u := r.up
  have rA := r.1
  have oth : ∀ c : Int32, inR c 0 1 → inR (1 - c) 0 1 := fun c hc => by
    rcases inR_01 hc with rfl | rfl
    · exact nI_inR (j := 1) (N := 1) (by decide) (by decide)
    · exact nI_inR (j := 0) (N := 1) (by decide) (by decide)
  have p2 : ∀ {h1 : mH} {Q : Int32 → mH → Prop}, (¬ (inR a 0 1 ∧ inR b 0 99999) → Q (-2000000000) h1) → (∀ v, inR a 0 1 → inR b 0 99999 → v = (if fm ((tim h1 (1 - a) b - b) - (b * gi h1 55 a.toNatClampNeg) / 100) < 360 then fm ((tim h1 (1 - a) b - b) - (b * gi h1 55 a.toNatClampNeg) / 100) else fm ((tim h1 (1 - a) b - b) - (b * gi h1 55 a.toNatClampNeg) / 100) - 720) → Q v (setH2 h1 a.toNatClampNeg v b)) → w_X12_set a b h1 Q := by
    intro h1 Q f g
    unfold w_X12_set w_X12_set_J54
    rw [e_12_clock]
    refine b0 (fun q => f (fun z => q z.1)) (fun ha => ?_)
    rw [e_12_minute]
    refine b1 (fun hb => ?_) (fun q => f (fun z => q z.2))
    rw [e_12_show (oth a ha)]
    have v1 := vp_01 ha
    refine ⟨v1, fun x7 e7 => ?_⟩
    subst e7
    have fin : ∀ y, y = fm ((tim h1 (1 - a) b - b) - (b * gi h1 55 a.toNatClampNeg) / 100) → ∀ x8, x8 = (if y < 360 then y else y - 720) → vp_in a 2 ∧ ∀ h9, h9 = si h1 54 a.toNatClampNeg x8 → vp_in a 2 ∧ vp_in a 2 ∧ ∀ h10, h10 = si h9 56 a.toNatClampNeg ((gi h9 56 a.toNatClampNeg) + 1) → vp_in a 2 ∧ ∀ h11, h11 = si h10 57 a.toNatClampNeg b → vp_in a 2 ∧ Q (gi h11 54 a.toNatClampNeg) h11 := by
      intro y ey x8 e8
      subst ey
      refine ⟨v1, fun h9 e9 => ⟨v1, v1, fun h10 e10 => ⟨v1, fun h11 e11 => ⟨v1, ?_⟩⟩⟩⟩
      subst e9
      subst e10
      subst e11
      have := g x8 ha hb e8
      rw [gi_si, if_neg (fun z => absurd z.1 (by decide)), gi_si, if_neg (fun z => absurd z.1 (by decide)), gi_si, if_pos ⟨rfl, rfl⟩]
      exact this
    refine ⟨fun q => fin _ ?_, fun q => fin _ ?_⟩
    · unfold fm
      rw [if_pos q]
    · unfold fm
      rw [if_neg q]
  have n1 : ¬ (inR a 0 1 ∧ inR b 0 99999) → w_X12_set a b h (fun w h2 => -2000000000 = w ∧ Inv (i + 1) h2) := fun q =>
    p2 (fun _ => ⟨rfl, u⟩) (fun v y1 y2 => absurd ⟨y1, y2⟩ q)
  unfold w_X11_set w_X10_offToShow
  rw [e_11_clock]
  refine b0 (fun q => n1 (fun z => q z.1)) (fun ha => ?_)
  rw [e_11_minute]
  refine b1 (fun hb => ?_) (fun q => n1 (fun z => q z.2))
  rw [e_10_time rA (oth a ha), e_10_gain ha, e_10_timeBy]
  intro x5 e5
  rw [e_floorMod]
  subst e5
  obtain ⟨t, ht, rfl⟩ := inR_nI (N := 99999) rfl (by decide) hb
  obtain ⟨t0, t1, -⟩ := shw_i (nI t) (gi h 54 (1 - a).toNatClampNeg) (gi h 55 (1 - a).toNatClampNeg)
  have hgb := rA.gainB ha
  obtain ⟨E, b1, b2⟩ := set_v ht hgb (v := tim h (1 - a) (nI t)) ⟨t0, t1⟩
  rw [rA.gain ha]
  have fin : ∀ v, v = fm ((tim h (1 - a) (nI t) - shw (nI t) 0 (gi h 55 a.toNatClampNeg)) + 360) - 360 → w_X12_set a (nI t) (setH h a.toNatClampNeg v (nI t)) (fun w h2 => v = w ∧ Inv (i + 1) h2) := fun v ev => by
    have f : Fr (cl [2, 3, 4] []) h (setH h a.toNatClampNeg v (nI t)) := (((Fr.rf _ h).si rfl).si rfl).si rfl
    refine p2 (fun q => absurd ⟨ha, hb⟩ q) (fun w _ _ ew => ?_)
    have k : w = v := by
      have et : tim (setH h a.toNatClampNeg v (nI t)) (1 - a) (nI t) = tim h (1 - a) (nI t) := by
        unfold tim
        rw [f.i 54 _ rfl, f.i 55 _ rfl]
      rw [ew, et, f.i 55 _ rfl]
      exact (ev.trans E).symm
    rw [k]
    refine ⟨rfl, inv_set r hi ?_ (by rw [ev]; exact ⟨b1, b2⟩)⟩
    rcases inR_01 ha with rfl | rfl
    · exact Or.inl rfl
    · exact Or.inr rfl
  have := fin _ rfl
  have v7 : vp_in (0 + a) 7 ∧ (0 + a).toNatClampNeg = a.toNatClampNeg := by
    rcases inR_01 ha with rfl | rfl
    · exact ⟨vpd (by decide), rfl⟩
    · exact ⟨vpd (by decide), rfl⟩
  refine ⟨v7.1, fun h9 e9 => ⟨vp_01 ha, vp_01 ha, fun h10 e10 => ⟨vp_01 ha, fun h11 e11 => ?_⟩⟩⟩
  rw [v7.2] at e9
  subst e9
  subst e10
  subst e11
  exact this
