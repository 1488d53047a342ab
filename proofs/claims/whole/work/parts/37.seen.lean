/-! PURE: judge, and the sights of a row -/
theorem least {p : Nat → Prop} (N : Nat) (h : p N) : ∃ J, J ≤ N ∧ p J ∧ ∀ j, j < J → ¬ p j := by
  induction N using Nat.strongRecOn with
  | ind N ih =>
    by_cases q : ∃ j, j < N ∧ p j
    · obtain ⟨j, hj, hp⟩ := q
      obtain ⟨J, a, b, c⟩ := ih j hj hp
      exact ⟨J, by omega, b, c⟩
    · exact ⟨N, Nat.le_refl _, h, fun j hj hp => q ⟨j, hj, hp⟩⟩
def jl (h : mH) (k j : Nat) : Int64 := gl h 88 (60 * k + j)
def so (h : mH) (k j : Nat) : Prop := inR (jl h k (3 * j)).toInt32 0 1 ∧ ¬ (jl h k (3 * j + 1)).toInt32 < 0 ∧ (prt h (jl h k (3 * j)).toInt32 (jl h k (3 * j + 1)).toInt32).toInt64 = jl h k (3 * j + 2)
def soS (h : mH) (k n J : Nat) : Prop := n ≤ 3 * J ∨ ¬ (3 * J + 2 < n ∧ so h k J)
theorem e_11_so {h : mH} {k n j s : Nat} {Q : Int32 → mH → Prop} (rA : RA h) (hk : k < 6) (z : sR h k s n) (hj : j ≤ 20) (K : Q (bi (3 * j + 2 < n ∧ so h k j)) h) : w_X11_isSo (41 + 2 * k) (nI (3 * j)) h Q := by
  unfold w_X11_isSo
  obtain ⟨r1, r2, r3⟩ := rf_sh k hk
  have n60 := z.2.2.1
  have h3 : (3 : Int32).toInt = 3 := rfl
  rw [z.2.2.2.2.2.1, r2, r3, nI_clamp (by omega)]
  refine ⟨fun q => absurd q (nI_pos (by omega)), fun _ => ⟨fun q => ?_, fun q => ?_⟩⟩
  · have hj2 : 3 * j + 2 < n := by
      rw [le_i, sub_i (by rw [nI_toInt (by omega), h3]; omega) (by rw [nI_toInt (by omega), h3]; omega), nI_toInt (by omega), nI_toInt (by omega), h3] at q
      omega
    rw [nI_1, show (2 : Int32) = nI 2 from rfl, nI_add, nI_clamp (by omega), nI_clamp (by omega)]
    refine ⟨vp_nI (by omega) (by decide), fun x1 e1 => ⟨vp_nI (by omega) (by decide), fun x2 e2 => ?_⟩⟩
    rw [z.2.2.2.2.2.2.2 _ (by omega)] at e1 e2
    subst e1
    subst e2
    rw [e_11_clock]
    refine b0 (fun q => ?_) (fun hc => ⟨fun q => ?_, fun q => ?_⟩)
    · rw [bi_0 (fun w => q w.2.1)] at K
      exact K
    · rw [bi_0 (fun w => w.2.2.1 q)] at K
      exact K
    · rw [e_10_part rA hc, z.2.2.2.2.2.2.2 _ (by omega)]
      refine ⟨vp_nI (by omega) (by decide), fun w => ?_, fun w => ?_⟩
      · rw [lg_cmp_eq] at w
        rw [bi_0 (fun y => w y.2.2.2)] at K
        exact K
      · rw [lg_cmp_eq] at w
        rw [bi_1 ⟨hj2, hc, q, w⟩] at K
        exact K
  · have hj2 : ¬ 3 * j + 2 < n := by
      rw [le_i, sub_i (by rw [nI_toInt (by omega), h3]; omega) (by rw [nI_toInt (by omega), h3]; omega), nI_toInt (by omega), nI_toInt (by omega), h3] at q
      omega
    rw [bi_0 (fun w => hj2 w.1)] at K
    exact K
theorem p_jd11 {h : mH} {k n J s : Nat} {K Q : _} (rA : RA h) (hk : k < 6) (z : sR h k s n) (hJ : J ≤ 20) (st : soS h k n J) (go : ∀ j, j < J → ¬ soS h k n j) (f : n ≤ 3 * J → K h) (g : ¬ n ≤ 3 * J → Q (nI J) h) : ∃ m, w_X11_judge_L33 K Q (41 + 2 * k) m 0 h := by
  have n60 := z.2.2.1
  refine loop_0 (σ := mH) (fun n i s => w_X11_judge_L33 K Q (41 + 2 * k) n (nI i) s) (fun i s => s = h) J h rfl (fun m s e => ?_) (fun m i s hi e nx => ?_)
  · subst e
    unfold w_X11_judge_L33
    rw [z.2.2.2.2.2.1, show (3 : Int32) = nI 3 from rfl, pk_mul, nl n (3 * J) (by omega) (by omega)]
    refine ⟨f, fun q => e_11_so rA hk z hJ ?_⟩
    rw [bi_0 (fun w => st.elim q (fun y => y w))]
    exact ⟨fun w => absurd rfl w, fun _ => g q⟩
  · subst e
    unfold w_X11_judge_L33
    rw [z.2.2.2.2.2.1, show (3 : Int32) = nI 3 from rfl, pk_mul, nl n (3 * i) (by omega) (by omega)]
    refine ⟨fun q => absurd (Or.inl q) (go i hi), fun q => e_11_so rA hk z (by omega) ?_⟩
    rw [bi_1 (Classical.byContradiction fun w => go i hi (Or.inr w)), nI_1]
    exact ⟨fun _ => nx _ rfl, fun w => absurd w (by decide)⟩
theorem p_jd12b {h h1 : mH} {k n j s m : Nat} {K Q : _} (e54 : ∀ j, gi h1 54 j = gi h 54 j) (e55 : ∀ j, gi h1 55 j = gi h 55 j) (e87 : gi h1 87 k = gi h 87 k) (e88 : ∀ j, gl h1 88 j = gl h 88 j) (hk : k < 6) (z : sR h k s n) (hj : j ≤ 20) (f : n ≤ 3 * j → K h1) (g : ¬ n ≤ 3 * j → ¬ (3 * j + 2 < n ∧ so h k j) → Q (nI j) h1) (nx : ¬ soS h k n j → w_X12_judge_L38 K Q (nI k) m (nI (j + 1)) h1) : w_X12_judge_L38 K Q (nI k) (m + 1) (nI j) h1 := by
  have n60 := z.2.2.1
  have ck : (nI k).toNatClampNeg = k := nI_clamp (by omega)
  have pe : ∀ c t, prt h1 c t = prt h c t := fun c t => by unfold prt tim; rw [e54, e55]
  have hv : vp_in (nI k) 6 := vp_nI hk (by decide)
  unfold w_X12_judge_L38
  rw [ck, e87, z.2.2.2.2.2.2.1, show (3 : Int32) = nI 3 from rfl, pk_mul, nl n (3 * j) (by omega) (by omega), show (2 : Int32) = nI 2 from rfl, nI_add, nlt _ n (by omega) (by omega), show (60 : Int32) = nI 60 from rfl, pk_mul, nI_add]
  refine ⟨hv, f, fun q => ⟨hv, fun w x3 e3 => ?_, fun w => g q (fun y => w y.1)⟩⟩
  subst e3
  rw [nI_1, nI_1, nI_add, nI_clamp (by omega), nI_clamp (by omega), nI_clamp (by omega), e88, e88]
  refine ⟨vp_nI (by omega) (by decide), fun x4 e4 => ⟨vp_nI (by omega) (by decide), fun x5 e5 => ?_⟩⟩
  subst e4
  subst e5
  rw [e_12_clock]
  refine b0 (fun y => g q (fun y2 => y y2.2.1)) (fun hc => ⟨fun y => g q (fun y2 => y2.2.2.1 y), fun y => ?_⟩)
  rw [e_12_part hc, pe]
  refine ⟨vp_nI (by omega) (by decide), fun y1 => ?_, fun y1 => ?_⟩
  · rw [e88, lg_cmp_eq] at y1
    exact nx (fun y2 => y2.elim q (fun y3 => y3 ⟨w, hc, y, y1⟩))
  · rw [e88, lg_cmp_eq] at y1
    exact g q (fun y2 => y1 y2.2.2.2)
theorem p_jd12 {h h1 : mH} {k n J s : Nat} {K Q : _} (e54 : ∀ j, gi h1 54 j = gi h 54 j) (e55 : ∀ j, gi h1 55 j = gi h 55 j) (e87 : gi h1 87 k = gi h 87 k) (e88 : ∀ j, gl h1 88 j = gl h 88 j) (hk : k < 6) (z : sR h k s n) (hJ : J ≤ 20) (st : soS h k n J) (go : ∀ j, j < J → ¬ soS h k n j) (f : n ≤ 3 * J → K h1) (g : ¬ n ≤ 3 * J → Q (nI J) h1) : ∃ m, w_X12_judge_L38 K Q (nI k) m 0 h1 := by
  refine loop_0 (σ := mH) (fun n i s => w_X12_judge_L38 K Q (nI k) n (nI i) s) (fun i s => s = h1) J h1 rfl (fun m s e => ?_) (fun m i s hi e nx => ?_)
  · subst e
    exact p_jd12b e54 e55 e87 e88 hk z hJ f (fun q _ => g q) (fun q => absurd st q)
  · subst e
    exact p_jd12b e54 e55 e87 e88 hk z (by omega) (fun q => absurd (Or.inl q) (go i hi)) (fun q w => absurd (Or.inr w) (go i hi)) (fun _ => nx _ rfl)
theorem J_judge {i : Nat} {h : mH} (r : Inv i h) (a : Int32) : w_X11_judge a h (fun v h1 => w_X12_judge a h1 (fun w h2 => v = w ∧ Inv (i + 1) h2)) := by
  have u := r.up
  have rH := r.2.2.2.2.2.2.2.2.2.2
  have rB := r.2.2.2.2.2.2.2.2.1
  have rA := r.1
  have m3 : (-3 : Int32).toInt = -3 := rfl
  have m1 : (-1 : Int32).toInt = -1 := rfl
  have p2 : ∀ {Q : Int32 → mH → Prop}, (¬ inR a 0 5 → Q (-1) h) → (∀ k, k < 6 → a = nI k → sN h k → Q (-11) h) → (∀ k, k < 6 → a = nI k → ¬ sN h k → (∀ n, ¬ sR h k 1 n) → Q (-12) h) → (∀ k n, k < 6 → a = nI k → sR h k 1 n → ∃ m, w_X12_judge_L38 (fun h10 => Q (-2) h10) Q (nI k) m 0 h) → w_X12_judge a h Q := by
    intro Q f1 f2 f3 g
    unfold w_X12_judge
    rw [e_12_shelf]
    refine b1 (fun ha => ?_) f1
    obtain ⟨k, hk, rfl, hc, hv⟩ := sh_k ha
    rw [hc]
    rcases (RH.all.mp rH k hk).cs with z | ⟨b, z⟩ | ⟨s, n, z⟩
    · rw [z.2]
      exact ⟨hv, fun q => absurd rfl q, fun _ => f2 k hk rfl z⟩
    · have hb := rB.lt z
      rw [z.2.1]
      refine ⟨hv, fun _ => ⟨hv, fun q => ?_, fun _ => f3 k hk rfl (fun w => sx_NB w z) (fun n w => sx_BR z w)⟩, fun q => absurd q (nI_m1 (by omega))⟩
      exfalso
      rw [eq_i, nI_toInt (by omega), m3] at q
      omega
    · have ks := kd s z.2.1
      have hs := z.2.1
      have q1 : ¬ (-2 - nI s : Int32) = -1 := fun q => by rw [eq_i, ks, m1] at q; omega
      rw [z.2.2.2.2.1]
      refine ⟨hv, fun _ => ⟨hv, fun q => ?_, fun q => f3 k hk rfl (fun w => sx_NR w z) (fun n2 w => ?_)⟩, fun q => absurd q q1⟩
      · have : s = 1 := by rw [eq_i, ks, m3] at q; omega
        subst this
        exact g k n hk rfl z
      · obtain ⟨rfl, -⟩ := sx_RR z w
        exact q rfl
  unfold w_X11_judge w_X11_refusalOfRow
  rw [e_11_shelf]
  refine b1 (fun ha => ?_) (fun q => ⟨fun w => absurd w (by decide), fun _ => p2 (fun _ => ⟨rfl, u⟩) (fun k hk e _ => absurd (kin hk e) q) (fun k hk e _ _ => absurd (kin hk e) q) (fun k _ hk e _ => absurd (kin hk e) q)⟩)
  obtain ⟨k, hk, rfl, hc, hv⟩ := sh_k ha
  obtain ⟨r1, r2, r3⟩ := rf_sh k hk
  have p3 : ∀ {Q : Int32 → mH → Prop}, (sN h k → Q (-11) h) → (¬ sN h k → (∀ n, ¬ sR h k 1 n) → Q (-12) h) → (∀ n, sR h k 1 n → ∃ m, w_X12_judge_L38 (fun h10 => Q (-2) h10) Q (nI k) m 0 h) → w_X12_judge (nI k) h Q := by
    intro Q f2 f3 g
    refine p2 (fun q => absurd ha q) (fun k2 hk2 e => ?_) (fun k2 hk2 e => ?_) (fun k2 n hk2 e => ?_) <;> (have := nIne hk hk2 e; subst this)
    · exact f2
    · exact f3
    · exact g n
  refine ⟨hv, fun r3' e3 x4 e4 => ?_⟩
  subst e4
  subst e3
  rw [hc, r1]
  rcases (RH.all.mp rH k hk).cs with z | ⟨b, z⟩ | ⟨s, n, z⟩
  · rw [z.1]
    exact ⟨fun q => absurd rfl q, fun _ => ⟨fun q => absurd q (by decide), fun _ => p3 (fun _ => ⟨rfl, u⟩) (fun w => absurd z w) (fun n w => (sx_NR z w).elim)⟩⟩
  · rw [z.1]
    refine ⟨fun _ x5 e5 => ?_, fun q => absurd q (by decide)⟩
    subst e5
    rw [if_neg (by decide)]
    exact ⟨fun q => absurd q (by decide), fun _ => p3 (fun w => (sx_NB w z).elim) (fun _ _ => ⟨rfl, u⟩) (fun n w => (sx_BR z w).elim)⟩
  · have n60 := z.2.2.1
    rw [z.1]
    refine ⟨fun _ x5 e5 => ?_, fun q => absurd q (by decide)⟩
    subst e5
    rw [if_pos rfl]
    refine ⟨fun _ => ⟨hv, fun r3' e3 => ?_⟩, fun q => absurd rfl q⟩
    subst e3
    unfold w_X9_holdsRow
    rw [z.1, z.2.2.2.1]
    refine ⟨fun q => absurd rfl q, fun _ => ⟨fun q => ⟨fun w => absurd rfl w, fun _ => p3 (fun w => (sx_NR w z).elim) (fun _ _ => ⟨rfl, u⟩) (fun n w => ?_)⟩, fun q => ⟨fun _ => ?_, fun w => absurd w (by decide)⟩⟩⟩
    · obtain ⟨rfl, -⟩ := sx_RR z w
      exact absurd rfl q
    · have : s = 1 := (nn s 1 (by have := z.2.1; omega) (by decide)).mp q
      subst this
      obtain ⟨J, hJ, st, go⟩ := least (p := soS h k n) 20 (Or.inl n60)
      have p4 : ∀ v, (n ≤ 3 * J → v = -2) → (¬ n ≤ 3 * J → v = nI J) → w_X12_judge (nI k) h (fun w h2 => v = w ∧ Inv (i + 1) h2) := fun v v1 v2 => by
        refine p3 (fun w => (sx_NR w z).elim) (fun _ w => absurd z (w n)) (fun n' w => ?_)
        obtain ⟨-, rfl⟩ := sx_RR z w
        exact p_jd12 (fun _ => rfl) (fun _ => rfl) rfl (fun _ => rfl) hk z hJ st go (fun q => ⟨v1 q, u⟩) (fun q => ⟨v2 q, u⟩)
      exact p_jd11 rA hk z hJ st go (fun q => p4 _ (fun _ => rfl) (fun w => absurd q w)) (fun q => p4 _ (fun w => absurd w q) (fun _ => rfl))
