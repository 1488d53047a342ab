/-! PURE: chance -/
theorem nn0 {a : Nat} (h : a < 2 ^ 31) : (nI a = 0) ↔ a = 0 := nn a 0 h (by decide)
def smf (f : Nat → Nat) : Nat → Nat
  | 0 => 0
  | i + 1 => smf f i + f i
noncomputable def wf (W : Nat → Nat) (p : Nat → Prop) (a b i : Nat) : Nat := @ite _ (p i ∧ a ≤ i ∧ i ≤ b) (Classical.propDecidable _) (W i) 0
theorem wf_y {W : Nat → Nat} {p : Nat → Prop} {a b i : Nat} (h : p i ∧ a ≤ i ∧ i ≤ b) : wf W p a b i = W i := if_pos h
theorem wf_n {W : Nat → Nat} {p : Nat → Prop} {a b i : Nat} (h : ¬ (p i ∧ a ≤ i ∧ i ≤ b)) : wf W p a b i = 0 := if_neg h
theorem wf_le {W : Nat → Nat} (hW : ∀ j, W j ≤ 99) (p : Nat → Prop) (a b i : Nat) : wf W p a b i ≤ 99 := by
  by_cases h : p i ∧ a ≤ i ∧ i ≤ b
  · rw [wf_y h]; exact hW i
  · rw [wf_n h]; omega
theorem smf_le {f : Nat → Nat} (hf : ∀ j, f j ≤ 99) : ∀ i, smf f i ≤ 99 * i := by
  intro i
  induction i with
  | zero => exact Nat.le_refl _
  | succ i ih =>
    have := hf i
    show smf f i + f i ≤ _
    omega
theorem smf_0 {f : Nat → Nat} {a : Nat} (hf : ∀ j, j < a → f j = 0) : ∀ i, i ≤ a → smf f i = 0 := by
  intro i
  induction i with
  | zero => intro _; rfl
  | succ i ih =>
    intro hi
    show smf f i + f i = 0
    rw [ih (by omega), hf i (by omega)]
theorem smf_z {f : Nat → Nat} {b : Nat} (hf : ∀ j, b ≤ j → f j = 0) : ∀ i, smf f (b + i) = smf f b := by
  intro i
  induction i with
  | zero => rfl
  | succ i ih =>
    show smf f (b + i) + f (b + i) = _
    rw [ih, hf _ (by omega), Nat.add_zero]
theorem p_sum11 {h t : mH} {W : Nat → Nat} (hW : ∀ j, W j ≤ 99) (w1 : wOk11 h W) {p : Nat → Prop} (f0 : Fr (cl scr scf) h t) (e : ∀ m, m < 720 → gi t 20 m = bi (p m)) {a b : Nat} (hab : a ≤ b) (hb : b ≤ 719) {Q : Int32 → mH → Prop} (K : ∀ s, Fr (cl [10] []) t s → Q (nI (smf (wf W p a b) 720)) s) : w_X11_weightOfFits (nI a) (nI b) t Q := by
  unfold w_X11_weightOfFits
  have z0 : smf (wf W p a b) a = 0 := smf_0 (a := a) (fun j hj => wf_n (by omega)) a (Nat.le_refl _)
  have z1 : smf (wf W p a b) 720 = smf (wf W p a b) (b + 1) := by
    have := smf_z (f := wf W p a b) (b := b + 1) (fun j hj => wf_n (by omega)) (719 - b)
    rw [show b + 1 + (719 - b) = 720 by omega] at this
    exact this
  have := loop_0 (σ := Int32 × mH) (fun n j x => w_X11_weightOfFits_L5 (fun l3_5 h6 => Q l3_5 h6) Q (nI b) n x.1 (nI (a + j)) x.2) (fun j x => Fr (cl [10] []) t x.2 ∧ x.1 = nI (smf (wf W p a b) (a + j))) (b + 1 - a) (0, t) ⟨Fr.rf _ _, by rw [Nat.add_zero, z0]; rfl⟩ (fun n x ex => ?_) (fun n j x hj ex nx => ?_)
  · exact this
  · obtain ⟨y, s⟩ := x
    obtain ⟨fs, ey⟩ := ex
    have fs' : Fr (cl [10] []) t s := fs
    have ey' : y = nI (smf (wf W p a b) (a + (b + 1 - a))) := ey
    rw [show a + (b + 1 - a) = b + 1 by omega] at ey' ⊢
    unfold w_X11_weightOfFits_L5
    rw [nlt b (b + 1) (by omega) (by omega)]
    refine ⟨fun _ => ?_, fun q => absurd (by omega) q⟩
    have := K s fs'
    rw [z1, ← ey'] at this
    exact this
  · obtain ⟨y, s⟩ := x
    obtain ⟨fs, ey⟩ := ex
    have fs' : Fr (cl [10] []) t s := fs
    have ey' : y = nI (smf (wf W p a b) (a + j)) := ey
    unfold w_X11_weightOfFits_L5
    rw [nlt b (a + j) (by omega) (by omega), show (720 : Int32) = nI 720 from rfl, nl 720 (a + j) (by decide) (by omega), nI_clamp (by omega), fs'.i 20 _ rfl, e _ (by omega), nI_1]
    refine ⟨fun q => absurd q (by omega), fun _ => ⟨fun q => absurd q (by omega), fun _ => ⟨vp_nI (by omega) (by decide), fun q x1 e1 => ?_, fun q => ?_⟩⟩⟩
    · have q' := bi_z.mp q
      refine nx (x1, s) ⟨fs', ?_⟩
      show x1 = nI (smf (wf W p a b) (a + j) + wf W p a b (a + j))
      rw [wf_n (fun w => q' w.1), e1, ey', Int32.add_zero, Nat.add_zero]
    · have q' : p (a + j) := Classical.byContradiction fun w => q (bi_z.mpr w)
      refine w1 (a + j) s _ (by omega) (f0.tr (fs'.up rfl)) (fun s1 g1 x4 e4 => nx (x4, s1) ⟨fs'.tr g1, ?_⟩)
      show x4 = nI (smf (wf W p a b) (a + j) + wf W p a b (a + j))
      rw [wf_y ⟨q', by omega, by omega⟩, e4, ey', nI_add]
theorem p_sum12 {h t : mH} {W : Nat → Nat} (hW : ∀ j, W j ≤ 99) (w2 : wOk12 h W) {p : Nat → Prop} (f0 : Fr (cl scr scf) h t) (e : ∀ m, m < 720 → gi t 77 m = bi (p m)) {a b : Nat} (hab : a ≤ b) (hb : b ≤ 719) {x y : Int32} (hx : x / 1000 = nI a) (hy : irm x 1000 = nI b) {K117 : Int32 → Int32 → mH → Prop} {Q : Int32 → mH → Prop} (K : ∀ s, Fr (cl [75, 76] []) t s → K117 (nI (smf (wf W p a b) 720)) (nI (smf (wf W p 0 719) 720)) s) : ∃ n, w_X12_chance_L52 K117 Q x y n 0 0 0 t := by
  have := loop_0 (σ := (Int32 × Int32) × mH) (fun n j z => w_X12_chance_L52 K117 Q x y n z.1.1 z.1.2 (nI j) z.2) (fun j z => Fr (cl [75, 76] []) t z.2 ∧ z.1.1 = nI (smf (wf W p a b) j) ∧ z.1.2 = nI (smf (wf W p 0 719) j)) 720 ((0, 0), t) ⟨Fr.rf _ _, rfl, rfl⟩ (fun n z ez => ?_) (fun n j z hj ez nx => ?_)
  · exact this
  · obtain ⟨⟨u, v⟩, s⟩ := z
    obtain ⟨fs, eu, ev⟩ := ez
    have fs' : Fr (cl [75, 76] []) t s := fs
    have eu' : u = nI (smf (wf W p a b) 720) := eu
    have ev' : v = nI (smf (wf W p 0 719) 720) := ev
    unfold w_X12_chance_L52
    refine ⟨fun _ => ?_, fun q => absurd ((nl 720 720 (by decide) (by decide)).mpr (Nat.le_refl _)) q⟩
    have := K s fs'
    rw [← eu', ← ev'] at this
    exact this
  · obtain ⟨⟨u, v⟩, s⟩ := z
    obtain ⟨fs, eu, ev⟩ := ez
    have fs' : Fr (cl [75, 76] []) t s := fs
    have eu' : u = nI (smf (wf W p a b) j) := eu
    have ev' : v = nI (smf (wf W p 0 719) j) := ev
    unfold w_X12_chance_L52
    rw [show (720 : Int32) = nI 720 from rfl, nl 720 j (by decide) (by omega), nI_clamp (by omega), fs'.i 77 _ rfl, e _ (by omega), nI_1]
    refine ⟨fun q => absurd q (by omega), fun _ => ⟨vp_nI (by omega) (by decide), fun q => ?_, fun q => ?_⟩⟩
    · have q' : p j := Classical.byContradiction fun w => q (bi_z.mpr w)
      refine w2 j s _ hj (f0.tr (fs'.up rfl)) (fun s1 g1 x6 e6 => ?_)
      rw [e_12_in, hx, hy]
      have i6 : x6 = nI (smf (wf W p 0 719) (j + 1)) := by
        show x6 = nI (smf (wf W p 0 719) j + wf W p 0 719 j)
        rw [wf_y ⟨q', by omega, by omega⟩, e6, ev', nI_add]
      have iR : inR (nI j) (nI a) (nI b) ↔ a ≤ j ∧ j ≤ b := by
        rw [inR_i, nI_toInt (by omega), nI_toInt (by omega), nI_toInt (by omega)]
        omega
      refine b0 (fun c => ?_) (fun c x9 e9 => ?_)
      · refine nx ((u, x6), s1) ⟨fs'.tr g1, ?_, i6⟩
        show u = nI (smf (wf W p a b) j + wf W p a b j)
        rw [wf_n (fun w => c (iR.mpr w.2)), eu', Nat.add_zero]
      · refine nx ((x9, x6), s1) ⟨fs'.tr g1, ?_, i6⟩
        show x9 = nI (smf (wf W p a b) j + wf W p a b j)
        rw [wf_y ⟨q', iR.mp c⟩, e9, eu', nI_add]
    · have q' := bi_z.mp q
      refine nx ((u, v), s) ⟨fs', ?_, ?_⟩
      · show u = nI (smf (wf W p a b) j + wf W p a b j)
        rw [wf_n (fun w => q' w.1), eu', Nat.add_zero]
      · show v = nI (smf (wf W p 0 719) j + wf W p 0 719 j)
        rw [wf_n (fun w => q' w.1), ev', Nat.add_zero]
-- the common measure
def gc : Nat → Nat → Nat → Nat
  | 0, x, _ => x
  | k + 1, x, y => if y = 0 then x else gc k y (x % y)
def tmd : Nat → Nat → Nat → Prop
  | 0, _, y => y = 0
  | k + 1, x, y => y = 0 ∨ tmd k y (x % y)
theorem tmd_of : ∀ (m x y : Nat), y < 2 ^ m → tmd (2 * m) x y := by
  intro m
  induction m with
  | zero => intro x y h; show y = 0; omega
  | succ m ih =>
    intro x y h
    rw [show 2 * (m + 1) = 2 * m + 1 + 1 by omega]
    by_cases h0 : y = 0
    · exact Or.inl h0
    · refine Or.inr ?_
      by_cases h1 : x % y = 0
      · exact Or.inl h1
      · refine Or.inr (ih _ _ ?_)
        have h2 : x % y < y := Nat.mod_lt _ (by omega)
        have h3 : y % (x % y) < x % y := Nat.mod_lt _ (by omega)
        have h4 := Nat.div_add_mod y (x % y)
        have h5 : 1 ≤ y / (x % y) := (Nat.one_le_div_iff (by omega)).mpr (by omega)
        have h6 : x % y ≤ x % y * (y / (x % y)) := Nat.le_mul_of_pos_right _ (by omega)
        have h7 : 2 ^ (m + 1) = 2 ^ m * 2 := Nat.pow_succ 2 m
        omega
theorem gc_pos : ∀ (k x y : Nat), (0 < x ∨ 0 < y) → tmd k x y → 0 < gc k x y := by
  intro k
  induction k with
  | zero =>
    intro x y h t
    have t' : y = 0 := t
    show 0 < x
    omega
  | succ k ih =>
    intro x y h t
    show 0 < if y = 0 then x else gc k y (x % y)
    by_cases h0 : y = 0
    · rw [if_pos h0]; omega
    · rw [if_neg h0]
      exact ih y (x % y) (Or.inl (by omega)) (t.resolve_left h0)
theorem gc_lt : ∀ (k x y : Nat), x < 2 ^ 31 → y < 2 ^ 31 → gc k x y < 2 ^ 31 := by
  intro k
  induction k with
  | zero => intro x y h _; exact h
  | succ k ih =>
    intro x y h1 h2
    show (if y = 0 then x else gc k y (x % y)) < _
    by_cases h0 : y = 0
    · rw [if_pos h0]; exact h1
    · rw [if_neg h0]
      have := Nat.mod_lt x (show y > 0 by omega)
      exact ih y (x % y) h2 (by omega)
theorem p_common11 {h : mH} {Q : Int32 → mH → Prop} : ∀ (k i x y : Nat), tmd k x y → i + k < 64 → x < 2 ^ 31 → y < 2 ^ 31 → Q (nI (gc k x y)) h → w_X11_commonMeasure_L7 (fun l2_2 h3 => Q l2_2 h3) Q (k + 1) (nI x) (nI y) (nI i) h := by
  intro k
  induction k with
  | zero =>
    intro i x y t hi hx hy K
    have t' : y = 0 := t
    subst t'
    unfold w_X11_commonMeasure_L7
    exact ⟨fun _ => K, fun _ => ⟨fun _ => K, fun q => absurd rfl q⟩⟩
  | succ k ih =>
    intro i x y t hi hx hy K
    unfold w_X11_commonMeasure_L7
    have K' : Q (nI (if y = 0 then x else gc k y (x % y))) h := K
    rw [show (64 : Int32) = nI 64 from rfl, nl 64 i (by decide) (by omega), nn0 hy]
    refine ⟨fun q => absurd q (by omega), fun _ => ⟨fun q => ?_, fun q => ⟨q, fun x1 e1 => ?_⟩⟩⟩
    · rw [if_pos q] at K'
      exact K'
    · rw [if_neg q] at K'
      have := Nat.mod_lt x (show y > 0 by omega)
      have e1' : x1 = nI (x % y) := by rw [e1]; exact pk_rem hx (by omega) hy
      rw [e1', nI_1]
      exact ih (i + 1) y (x % y) (t.resolve_left q) (by omega) hy (by omega) K'
theorem p_common12 {h : mH} {Q : Int32 → mH → Prop} : ∀ (k x y : Nat), tmd k x y → x < 2 ^ 31 → y < 2 ^ 31 → Q (nI (gc k x y)) h → w_X12_common_L4 (fun l2_2 h3 => Q l2_2 h3) Q (k + 1) (nI x) (nI y) h := by
  intro k
  induction k with
  | zero =>
    intro x y t hx hy K
    have t' : y = 0 := t
    subst t'
    unfold w_X12_common_L4
    exact ⟨fun _ => K, fun q => absurd rfl q⟩
  | succ k ih =>
    intro x y t hx hy K
    unfold w_X12_common_L4
    have K' : Q (nI (if y = 0 then x else gc k y (x % y))) h := K
    rw [nn0 hy]
    refine ⟨fun q => ?_, fun q => ⟨q, fun x1 e1 => ?_⟩⟩
    · rw [if_pos q] at K'
      exact K'
    · rw [if_neg q] at K'
      have := Nat.mod_lt x (show y > 0 by omega)
      have e1' : x1 = nI (x % y) := by rw [e1]; exact pk_rem hx (by omega) hy
      rw [e1']
      exact ih y (x % y) (t.resolve_left q) hy (by omega) K'
theorem J_chance {i : Nat} {h : mH} (r : Inv i h) (x y : Int32) : w_X11_chance x y h (fun v h1 => w_X12_chance x y h1 (fun w h2 => v = w ∧ Inv (i + 1) h2)) := by
  have u := r.up
  obtain ⟨W, hW, w1, w2⟩ := weigh r
  by_cases hx : x < 0
  · unfold w_X11_chance
    refine ⟨fun _ => ?_, fun q => absurd hx q⟩
    unfold w_X12_chance
    exact ⟨fun _ => ⟨rfl, u⟩, fun q => absurd hx q⟩
  · obtain ⟨c, hc, rfl⟩ := nI_of hx
    have ed : nI c / 1000 = nI (c / 1000) := pk_div hc (by decide) (by decide)
    have em : irm (nI c) 1000 = nI (c % 1000) := pk_rem hc (by decide) (by decide)
    have hm : c % 1000 < 1000 := Nat.mod_lt _ (by decide)
    have hd : c / 1000 < 2 ^ 31 := by have := Nat.div_le_self c 1000; omega
    have bad : ∀ {s : mH}, ¬ (c / 1000 ≤ c % 1000 ∧ c % 1000 ≤ 719 ∧ inR y 0 1) → s = h → w_X12_chance (nI c) y s (fun w h2 => -1 = w ∧ Inv (i + 1) h2) := fun {s} q es => by
      subst es
      unfold w_X12_chance
      rw [ed, em, nlt _ _ (by omega) (by omega), show (720 : Int32) = nI 720 from rfl, nl 720 _ (by decide) (by omega), e_12_in]
      refine ⟨fun _ => ⟨rfl, u⟩, fun _ => ⟨fun _ => ⟨rfl, u⟩, fun q1 => ⟨fun _ => ⟨rfl, u⟩, fun q2 => b1 (fun q3 => absurd ⟨by omega, by omega, q3⟩ q) (fun _ => ⟨rfl, u⟩)⟩⟩⟩
    have good : ∀ {s : mH} {v : Int32}, c / 1000 ≤ c % 1000 → c % 1000 ≤ 719 → inR y 0 1 → Fr (cl scr scf) h s →
        (smf (wf W (fitP h (-1)) 0 719) 720 = 0 → v = y) → (¬ smf (wf W (fitP h (-1)) 0 719) 720 = 0 → v = (if y = 0 then nI (smf (wf W (fitP h (-1)) (c / 1000) (c % 1000)) 720) else nI (smf (wf W (fitP h (-1)) 0 719) 720)) / nI (gc 34 (smf (wf W (fitP h (-1)) (c / 1000) (c % 1000)) 720) (smf (wf W (fitP h (-1)) 0 719) 720))) →
        w_X12_chance (nI c) y s (fun w h2 => v = w ∧ Inv (i + 1) h2) := fun {s v} h1 h2 h3 f v1 v2 => by
      unfold w_X12_chance
      rw [ed, em, nlt _ _ (by omega) (by omega), show (720 : Int32) = nI 720 from rfl, nl 720 _ (by decide) (by omega), e_12_in]
      refine ⟨fun q => absurd q hx, fun _ => ⟨fun q => absurd q (by omega), fun _ => ⟨fun q => absurd q (by omega), fun _ => b1 (fun _ => ?_) (fun q => absurd h3 q)⟩⟩⟩
      refine p_findFits (r.2.2.1.ag (f.ag rfl)) (fun s2 f2 e2 _ => ?_)
      rw [fitP_fr f (fun _ => rfl)] at e2
      have f02 : Fr (cl scr scf) h s2 := f.tr (f2.up rfl)
      refine p_sum12 hW w2 f02 e2 h1 h2 ed em (fun s3 f3 => ?_)
      have I3 : Inv (i + 1) s3 := u.fr (f02.tr (f3.up rfl))
      have b1 := smf_le (wf_le hW (fitP h (-1)) (c / 1000) (c % 1000)) 720
      have b2 := smf_le (wf_le hW (fitP h (-1)) 0 719) 720
      rw [nn0 (show smf (wf W (fitP h (-1)) 0 719) 720 < 2 ^ 31 by omega)]
      refine ⟨fun q => ?_, fun q => ⟨v1 q, I3⟩⟩
      have t34 : tmd 34 (smf (wf W (fitP h (-1)) (c / 1000) (c % 1000)) 720) (smf (wf W (fitP h (-1)) 0 719) 720) := tmd_of 17 _ _ (by omega)
      have gp := gc_pos 34 _ _ (Or.inr (by omega)) t34
      have gl := gc_lt 34 (smf (wf W (fitP h (-1)) (c / 1000) (c % 1000)) 720) (smf (wf W (fitP h (-1)) 0 719) 720) (by omega) (by omega)
      have v2' := v2 q
      unfold w_X12_common
      refine ⟨34 + 1, p_common12 34 _ _ t34 (by omega) (by omega) ⟨fun w => ⟨nI_ne0 gp gl, ?_, I3⟩, fun w => ⟨nI_ne0 gp gl, ?_, I3⟩⟩⟩
      · rw [if_neg w] at v2'
        exact v2'
      · rw [if_pos w] at v2'
        exact v2'
    unfold w_X11_chance
    rw [e_11_one, bi_i (one_inR 1 rfl)]
    refine ⟨fun q => absurd q hx, fun _ => b1 (fun h3 => ?_) (fun q => bad (fun w => q w.2.2) rfl)⟩
    intro x3 e3 x4 e4
    rw [ed] at e3
    rw [em] at e4
    rw [e3, e4, e_11_time]
    have i7 : inR (nI (c % 1000)) 0 719 ↔ c % 1000 ≤ 719 := by
      rw [inR_i, nI_toInt (by omega)]
      show (0 : Int) ≤ _ ∧ _ ≤ (719 : Int) ↔ _
      omega
    refine b0 (fun q => bad (fun w => q (i7.mpr w.2.1)) rfl) (fun q => ?_)
    have h2 := i7.mp q
    rw [nl _ _ hd (by omega)]
    refine ⟨fun h1 => ?_, fun q2 => bad (fun w => q2 w.1) rfl⟩
    refine p_findAll r.1 r.2.2.1 (fun s f e => ?_)
    have f0 : Fr (cl scr scf) h s := f.up rfl
    refine p_sum11 hW w1 f0 e h1 h2 (fun s2 f2 => ?_)
    have f02 : Fr (cl scr scf) h s2 := f0.tr (f2.up rfl)
    refine p_sum11 (a := 0) (b := 719) hW w1 f02 (fun m hm => by rw [f2.i 20 m rfl]; exact e m hm) (by decide) (by decide) (fun s3 f3 => ?_)
    have f03 : Fr (cl scr scf) h s3 := f02.tr (f3.up rfl)
    have b1 := smf_le (wf_le hW (fitP h (-1)) (c / 1000) (c % 1000)) 720
    have b2 := smf_le (wf_le hW (fitP h (-1)) 0 719) 720
    have y01 := inR_01 h3
    rw [show (0 : Int32) < nI (smf (wf W (fitP h (-1)) 0 719) 720) ↔ 0 < smf (wf W (fitP h (-1)) 0 719) 720 from nlt 0 _ (by decide) (by omega)]
    refine ⟨fun q => ?_, fun q x18 e18 => ?_⟩
    · have t34 : tmd 34 (smf (wf W (fitP h (-1)) (c / 1000) (c % 1000)) 720) (smf (wf W (fitP h (-1)) 0 719) 720) := tmd_of 17 _ _ (by omega)
      have gp := gc_pos 34 _ _ (Or.inr (by omega)) t34
      have gl := gc_lt 34 (smf (wf W (fitP h (-1)) (c / 1000) (c % 1000)) 720) (smf (wf W (fitP h (-1)) 0 719) 720) (by omega) (by omega)
      unfold w_X11_commonMeasure
      refine ⟨34 + 1, p_common11 34 0 _ _ t34 (by decide) (by omega) (by omega) (fun x14 e14 x15 e15 => ?_)⟩
      have g0 : ¬ nI (gc 34 (smf (wf W (fitP h (-1)) (c / 1000) (c % 1000)) 720) (smf (wf W (fitP h (-1)) 0 719) 720)) ≤ 0 := fun w => by
        have := (nl _ 0 gl (by decide)).mp w
        omega
      rw [if_neg g0] at e15
      rw [e15, e14]
      exact ⟨nI_ne0 gp gl, good h1 h2 h3 f03 (fun w => absurd w (by omega)) (fun _ => rfl)⟩
    · refine good h1 h2 h3 f03 (fun _ => ?_) (fun w => absurd (by omega) q)
      rw [e18]
      rcases y01 with rfl | rfl <;> rfl
