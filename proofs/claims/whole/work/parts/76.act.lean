/-! PURE: act; the rows kr_.. are printed by wip/gen/act.py -/
def tg (o k r : Nat) (h : mH) (n : Int32) : mH := if 24 ≤ gi h o k then si h o k (gi h o k + 1) else si (si h r (gi h o k).toNatClampNeg n) o k (gi h o k + 1)
def tgs (o k r : Nat) : mH → List Int32 → mH
  | h, [] => h
  | h, n :: l => tgs o k r (tg o k r h n) l
theorem tgs_app {o k r : Nat} : ∀ (l l' : List Int32) (h : mH), tgs o k r h (l ++ l') = tgs o k r (tgs o k r h l) l' := by
  intro l
  induction l with
  | nil => intro l' h; rfl
  | cons n l ih => intro l' h; exact ih l' _
def cnt (o k : Nat) (h : mH) (B : Nat) : Prop := ∃ m, m ≤ B ∧ gi h o k = nI m
theorem cnt_tg {o k r : Nat} {h : mH} {B : Nat} (n : Int32) (c : cnt o k h B) : cnt o k (tg o k r h n) (B + 1) := by
  obtain ⟨m, hm, e⟩ := c
  refine ⟨m + 1, by omega, ?_⟩
  unfold tg
  by_cases q : 24 ≤ gi h o k
  · rw [if_pos q, gi_si, if_pos ⟨rfl, rfl⟩, e, nI_1]
  · rw [if_neg q, gi_si, if_pos ⟨rfl, rfl⟩, e, nI_1]
theorem cnt_tgs {o k r : Nat} : ∀ (l : List Int32) {h : mH} {B : Nat}, cnt o k h B → cnt o k (tgs o k r h l) (B + l.length) := by
  intro l
  induction l with
  | nil => intro h B c; exact c
  | cons n l ih =>
    intro h B c
    have := ih (cnt_tg (r := r) n c)
    rw [List.length_cons, show B + (l.length + 1) = B + 1 + l.length by omega]
    exact this
theorem Fr_tg {o k r : Nat} {h : mH} (n : Int32) : Fr (cl [r] [(o, k)]) h (tg o k r h n) := by
  unfold tg
  by_cases q : 24 ≤ gi h o k
  · rw [if_pos q]
    exact (Fr.rf _ _).si (by simp [cl])
  · rw [if_neg q]
    exact ((Fr.rf _ _).si (by simp [cl])).si (by simp [cl])
theorem Fr_tgs {o k r : Nat} : ∀ (l : List Int32) (h : mH), Fr (cl [r] [(o, k)]) h (tgs o k r h l) := by
  intro l
  induction l with
  | nil => intro h; exact Fr.rf _ _
  | cons n l ih => intro h; exact (Fr_tg n).tr (ih _)
/-- what stands in the row afterwards -/
theorem tgs_row {o k r : Nat} (hor : ¬ o = r) : ∀ (l : List Int32) (h : mH) (m : Nat), m + l.length < 1000 → gi h o k = nI m → gi (tgs o k r h l) o k = nI (m + l.length) ∧ ∀ j, j < 24 → gi (tgs o k r h l) r j = if m ≤ j ∧ j < m + l.length then l.getD (j - m) 0 else gi h r j := by
  intro l
  induction l with
  | nil =>
    intro h m hm e
    exact ⟨e, fun j hj => by rw [if_neg (by rw [List.length_nil]; omega)]; rfl⟩
  | cons n l ih =>
    intro h m hm e
    rw [List.length_cons] at hm ⊢
    have e1 : gi (tg o k r h n) o k = nI (m + 1) := by
      unfold tg
      by_cases q : 24 ≤ gi h o k
      · rw [if_pos q, gi_si, if_pos ⟨rfl, rfl⟩, e, nI_1]
      · rw [if_neg q, gi_si, if_pos ⟨rfl, rfl⟩, e, nI_1]
    have e2 : ∀ j, j < 24 → gi (tg o k r h n) r j = if j = m then n else gi h r j := fun j hj => by
      unfold tg
      have hq : 24 ≤ gi h o k ↔ 24 ≤ m := by rw [e]; exact nl 24 m (by decide) (by omega)
      by_cases q : 24 ≤ m
      · rw [if_pos (hq.mpr q), gi_si, if_neg (fun w => hor w.1.symm), if_neg (by omega)]
      · rw [if_neg (fun w => q (hq.mp w)), gi_si, if_neg (fun w => hor w.1.symm), gi_si, e, nI_clamp (by omega)]
        by_cases y : j = m
        · rw [if_pos ⟨rfl, y⟩, if_pos y]
        · rw [if_neg (fun w => y w.2), if_neg y]
    obtain ⟨k1, k2⟩ := ih (tg o k r h n) (m + 1) (by omega) e1
    refine ⟨?_, fun j hj => ?_⟩
    · show gi (tgs o k r (tg o k r h n) l) o k = _
      rw [k1, show m + 1 + l.length = m + (l.length + 1) by omega]
    · show gi (tgs o k r (tg o k r h n) l) r j = _
      rw [k2 j hj, e2 j hj]
      by_cases q : j = m
      · subst q
        rw [if_neg (by omega), if_pos rfl, if_pos (by omega), Nat.sub_self]
        rfl
      · rw [if_neg q]
        by_cases y : m + 1 ≤ j ∧ j < m + 1 + l.length
        · rw [if_pos y, if_pos (by omega)]
          obtain ⟨x, hx⟩ : ∃ x, j - m = x + 1 := ⟨j - m - 1, by omega⟩
          rw [hx, show j - (m + 1) = x by omega]
          rfl
        · rw [if_neg y, if_neg (by omega)]
-- the class
def ab (k : Nat) : Nat := ([0, 0, 0, 2, 1, 3, 0, 6] : List Nat).getD k 0
def fkf : Nat → Nat → Nat → Nat
  | 0, k, _ => k
  | n + 1, k, a => if m_own (4 * k + a) = 0 then fkf n (ab k) a else k
theorem ab_ok : ∀ k, k < 8 → ∀ a, a < 4 → m_own (4 * k + a) = 0 → ab k < 8 ∧ m_abv k = nI (ab k) := by decide
theorem fkf_ok : ∀ k, k < 8 → ∀ a, a < 4 → ¬ m_own (4 * fkf 3 k a + a) = 0 ∧ fkf 3 k a < 8 := by decide
theorem k_up {A B C K40 K85 : _} {Q : Int32 → mH → Prop} {l2 l4 l5 : Int32} {a : Nat} (ha : a < 4) {h : mH} : ∀ (n k i : Nat), k < 8 → i + n < 8 → ¬ m_own (4 * fkf n k a + a) = 0 → K40 (nI (fkf n k a)) (m_own (4 * fkf n k a + a)) h → w_X0_from_L6 A B C K40 K85 Q l2 (nI a) l4 l5 (n + 1) (nI k) (nI i) h := by
  intro n
  induction n with
  | zero =>
    intro k i hk hi ne K
    unfold w_X0_from_L6
    rw [show (8 : Int32) = nI 8 from rfl, nl 8 i (by decide) (by omega), e_11_one, bi_1 ⟨nI_pos (by omega), (nlt k 8 (by omega) (by decide)).mpr hk⟩, show (4 : Int32) = nI 4 from rfl, pk_mul, nI_add, Nat.mul_comm k 4, nI_clamp (by omega)]
    refine ⟨fun q => by omega, fun _ => ⟨fun q => absurd q (by decide), fun _ => ⟨vp_nI (by omega) (by decide), fun x3 e3 => ⟨fun q => ?_, fun _ => ?_⟩⟩⟩⟩
    · rw [e3] at q
      exact absurd q ne
    · rw [e3]
      exact K
  | succ n ih =>
    intro k i hk hi ne K
    unfold w_X0_from_L6
    rw [show (8 : Int32) = nI 8 from rfl, nl 8 i (by decide) (by omega), e_11_one, bi_1 ⟨nI_pos (by omega), (nlt k 8 (by omega) (by decide)).mpr hk⟩, show (4 : Int32) = nI 4 from rfl, pk_mul, nI_add, Nat.mul_comm k 4, nI_clamp (show 4 * k + a < 2 ^ 31 by omega), nI_clamp (show k < 2 ^ 31 by omega), nI_1]
    refine ⟨fun q => by omega, fun _ => ⟨fun q => absurd q (by decide), fun _ => ⟨vp_nI (by omega) (by decide), fun x3 e3 => ⟨fun q => ⟨vp_nI hk (by decide), fun x4 e4 => ?_⟩, fun q => ?_⟩⟩⟩⟩
    · rw [e3] at q
      obtain ⟨q1, q2⟩ := ab_ok k hk a ha q
      have ef : fkf (n + 1) k a = fkf n (ab k) a := by
        show (if m_own (4 * k + a) = 0 then fkf n (ab k) a else k) = _
        rw [if_pos q]
      rw [ef] at ne K
      rw [e4, q2]
      exact ih (ab k) (i + 1) q1 (by omega) ne K
    · rw [e3] at q ⊢
      have ef : fkf (n + 1) k a = k := by
        show (if m_own (4 * k + a) = 0 then fkf n (ab k) a else k) = _
        rw [if_neg q]
      rw [ef] at K
      exact K
/-- a body of a kind, as the class keeps it -/
def isB (h : mH) (b k : Nat) : Prop := ∃ n, n ≤ 50 ∧ b < n ∧ gi h 37 2 = nI n ∧ gi h 38 b = nI k ∧ k < 8
theorem isB.mv {h s : mH} {b k : Nat} (w : isB h b k) (f : Fr (cl [39] [(37, 3)]) h s) : isB s b k := by
  obtain ⟨n, h1, h2, h3, h4, h5⟩ := w
  exact ⟨n, h1, h2, by rw [f.i 37 2 rfl]; exact h3, by rw [f.i 38 b rfl]; exact h4, h5⟩
theorem k_own {N b k : Nat} {a x d : Int32} {h : mH} {Q : Int32 → mH → Prop} (w : isB h b k) (K : (wr_1 N).2.1 (nI k) (nI b) a x d h Q) : (wr_1 (N + 1)).1 (nI b) a x d h Q := by
  obtain ⟨n, h1, h2, h3, h4, h5⟩ := w
  show wb_X0_own (wr_1 N).1 (wr_1 N).2.1 (wr_1 N).2.2 (nI b) a x d h Q
  unfold wb_X0_own w_X0_kindOf
  rw [e_11_one, h3, bi_1 ⟨nI_pos (by omega), (nlt b n (by omega) (by omega)).mpr h2⟩]
  refine ⟨fun q => absurd q (by decide), fun _ => ⟨vp_nI (by omega) (by decide), ?_⟩⟩
  rw [nI_clamp (by omega), h4]
  exact K
theorem k_from {N k d : Nat} {b x : Int32} {h : mH} {Q : Int32 → mH → Prop} (hk : k < 8) (a : Nat) (ha : a < 4) (hd : d < 40) (K : (wr_1 N).2.2 (m_own (4 * fkf 3 k a + a)) (m_abv (fkf 3 k a)) b x (nI (d + 1)) h Q) : (wr_1 (N + 1)).2.1 (nI k) b (nI a) x (nI d) h Q := by
  show wb_X0_from (wr_1 N).1 (wr_1 N).2.1 (wr_1 N).2.2 (nI k) b (nI a) x (nI d) h Q
  unfold wb_X0_from
  obtain ⟨h1, h2⟩ := fkf_ok k hk a ha
  refine ⟨4, k_up ha 3 k 0 hk (by decide) h1 ⟨fun q => ?_, fun _ => ⟨vp_nI h2 (by decide), ?_⟩⟩⟩
  · have := (nl 40 d (by decide) (by omega)).mp q
    omega
  · rw [nI_clamp (by omega), nI_1]
    exact K
theorem k_run {N : Nat} {n ab b x d : Int32} {h : mH} {Q : Int32 → mH → Prop} {B : Nat} (C : cnt 37 3 h B) (hB : B < 1000) (K : ∀ h1, h1 = tg 37 3 39 h n → ((n = 1 → Q (x + b) h1) ∧ (n = 2 → (wr_1 N).1 b 1 x d h1 (fun v4 h3 => (wr_1 N).1 b 2 1 d h3 (fun v6 h5 => Q (v4 - v6) h5))) ∧ (n = 10 → (wr_1 N).1 b 0 x d h1 (fun v9 h8 => Q (v9 * 2) h8)) ∧ (n = 11 → Q (x ^^^ b) h1) ∧ (n = 20 → (wr_1 N).2.1 ab b 0 x d h1 (fun v13 h12 => Q (v13 + 3) h12)) ∧ (n = 30 → (wr_1 N).2.1 ab b 1 x d h1 (fun v16 h15 => Q (-v16) h15)) ∧ (n = 40 → (wr_1 N).2.1 ab b 2 x d h1 (fun v19 h18 => Q (v19 * 3) h18)) ∧ (n = 41 → (wr_1 N).2.1 ab b 1 (x + 1) d h1 (fun v22 h21 => Q v22 h21)) ∧ (n = 50 → (wr_1 N).2.1 ab b 3 x d h1 (fun v25 h24 => Q (v25 ^^^ 5) h24)) ∧ (n = 60 → (wr_1 N).2.1 ab b 2 x d h1 (fun v28 h27 => (wr_1 N).1 b 0 2 d h27 (fun v30 h29 => Q (v28 - v30) h29))) ∧ (n = 61 → (wr_1 N).2.1 ab b 3 x d h1 (fun v33 h32 => Q (v33 + 1) h32)) ∧ (n = 70 → (wr_1 N).2.1 ab b 0 x d h1 (fun v36 h35 => Q (v36 * 2) h35)) ∧ (n = 80 → (wr_1 N).2.1 ab b 1 x d h1 (fun v39 h38 => (wr_1 N).1 b 2 2 d h38 (fun v41 h40 => Q (v39 + v41) h40))) ∧ (n = 81 → (wr_1 N).2.1 ab b 0 x d h1 (fun v44 h43 => Q (v44 - 1) h43)) ∧ ((∀ k ∈ ([1, 2, 10, 11, 20, 30, 40, 41, 50, 60, 61, 70, 80, 81] : List Int32), ¬ n = k) → Q 0 h1))) : (wr_1 (N + 1)).2.2 n ab b x d h Q := by
  show wb_X0_run (wr_1 N).1 (wr_1 N).2.1 (wr_1 N).2.2 n ab b x d h Q
  obtain ⟨m, hm, e⟩ := C
  unfold wb_X0_run w_X0_run_J19
  refine ⟨fun q h1 e1 => K h1 ?_, fun q => ⟨?_, fun h46 e46 h1 e1 => K h1 ?_⟩⟩
  · unfold tg
    rw [if_pos q, e1]
  · rw [e] at q ⊢
    rw [show (24 : Int32) = nI 24 from rfl, nl 24 m (by decide) (by omega)] at q
    exact vp_nI (by omega) (by decide)
  · unfold tg
    rw [if_neg q, e1, e46]
    rfl
theorem kr_1 {N : Nat} {ab b x d : Int32} {h : mH} {Q : Int32 → mH → Prop} {B : Nat} (C : cnt 37 3 h B) (hB : B < 1000) (K : Q (x + b) (tg 37 3 39 h 1)) : (wr_1 (N + 1)).2.2 1 ab b x d h Q :=
  k_run C hB (fun h1 e1 => by subst e1; exact ⟨fun _ => K, fun q => absurd q (by decide), fun q => absurd q (by decide), fun q => absurd q (by decide), fun q => absurd q (by decide), fun q => absurd q (by decide), fun q => absurd q (by decide), fun q => absurd q (by decide), fun q => absurd q (by decide), fun q => absurd q (by decide), fun q => absurd q (by decide), fun q => absurd q (by decide), fun q => absurd q (by decide), fun q => absurd q (by decide), fun q => absurd rfl (q 1 (by decide))⟩)
theorem kr_2 {N : Nat} {ab b x d : Int32} {h : mH} {Q : Int32 → mH → Prop} {B : Nat} (C : cnt 37 3 h B) (hB : B < 1000) (K : (wr_1 N).1 b 1 x d (tg 37 3 39 h 2) (fun v4 h3 => (wr_1 N).1 b 2 1 d h3 (fun v6 h5 => Q (v4 - v6) h5))) : (wr_1 (N + 1)).2.2 2 ab b x d h Q :=
  k_run C hB (fun h1 e1 => by subst e1; exact ⟨fun q => absurd q (by decide), fun _ => K, fun q => absurd q (by decide), fun q => absurd q (by decide), fun q => absurd q (by decide), fun q => absurd q (by decide), fun q => absurd q (by decide), fun q => absurd q (by decide), fun q => absurd q (by decide), fun q => absurd q (by decide), fun q => absurd q (by decide), fun q => absurd q (by decide), fun q => absurd q (by decide), fun q => absurd q (by decide), fun q => absurd rfl (q 2 (by decide))⟩)
theorem kr_10 {N : Nat} {ab b x d : Int32} {h : mH} {Q : Int32 → mH → Prop} {B : Nat} (C : cnt 37 3 h B) (hB : B < 1000) (K : (wr_1 N).1 b 0 x d (tg 37 3 39 h 10) (fun v9 h8 => Q (v9 * 2) h8)) : (wr_1 (N + 1)).2.2 10 ab b x d h Q :=
  k_run C hB (fun h1 e1 => by subst e1; exact ⟨fun q => absurd q (by decide), fun q => absurd q (by decide), fun _ => K, fun q => absurd q (by decide), fun q => absurd q (by decide), fun q => absurd q (by decide), fun q => absurd q (by decide), fun q => absurd q (by decide), fun q => absurd q (by decide), fun q => absurd q (by decide), fun q => absurd q (by decide), fun q => absurd q (by decide), fun q => absurd q (by decide), fun q => absurd q (by decide), fun q => absurd rfl (q 10 (by decide))⟩)
theorem kr_11 {N : Nat} {ab b x d : Int32} {h : mH} {Q : Int32 → mH → Prop} {B : Nat} (C : cnt 37 3 h B) (hB : B < 1000) (K : Q (x ^^^ b) (tg 37 3 39 h 11)) : (wr_1 (N + 1)).2.2 11 ab b x d h Q :=
  k_run C hB (fun h1 e1 => by subst e1; exact ⟨fun q => absurd q (by decide), fun q => absurd q (by decide), fun q => absurd q (by decide), fun _ => K, fun q => absurd q (by decide), fun q => absurd q (by decide), fun q => absurd q (by decide), fun q => absurd q (by decide), fun q => absurd q (by decide), fun q => absurd q (by decide), fun q => absurd q (by decide), fun q => absurd q (by decide), fun q => absurd q (by decide), fun q => absurd q (by decide), fun q => absurd rfl (q 11 (by decide))⟩)
theorem kr_20 {N : Nat} {ab b x d : Int32} {h : mH} {Q : Int32 → mH → Prop} {B : Nat} (C : cnt 37 3 h B) (hB : B < 1000) (K : (wr_1 N).2.1 ab b 0 x d (tg 37 3 39 h 20) (fun v9 h8 => Q (v9 + 3) h8)) : (wr_1 (N + 1)).2.2 20 ab b x d h Q :=
  k_run C hB (fun h1 e1 => by subst e1; exact ⟨fun q => absurd q (by decide), fun q => absurd q (by decide), fun q => absurd q (by decide), fun q => absurd q (by decide), fun _ => K, fun q => absurd q (by decide), fun q => absurd q (by decide), fun q => absurd q (by decide), fun q => absurd q (by decide), fun q => absurd q (by decide), fun q => absurd q (by decide), fun q => absurd q (by decide), fun q => absurd q (by decide), fun q => absurd q (by decide), fun q => absurd rfl (q 20 (by decide))⟩)
theorem kr_30 {N : Nat} {ab b x d : Int32} {h : mH} {Q : Int32 → mH → Prop} {B : Nat} (C : cnt 37 3 h B) (hB : B < 1000) (K : (wr_1 N).2.1 ab b 1 x d (tg 37 3 39 h 30) (fun v9 h8 => Q (-v9) h8)) : (wr_1 (N + 1)).2.2 30 ab b x d h Q :=
  k_run C hB (fun h1 e1 => by subst e1; exact ⟨fun q => absurd q (by decide), fun q => absurd q (by decide), fun q => absurd q (by decide), fun q => absurd q (by decide), fun q => absurd q (by decide), fun _ => K, fun q => absurd q (by decide), fun q => absurd q (by decide), fun q => absurd q (by decide), fun q => absurd q (by decide), fun q => absurd q (by decide), fun q => absurd q (by decide), fun q => absurd q (by decide), fun q => absurd q (by decide), fun q => absurd rfl (q 30 (by decide))⟩)
theorem kr_40 {N : Nat} {ab b x d : Int32} {h : mH} {Q : Int32 → mH → Prop} {B : Nat} (C : cnt 37 3 h B) (hB : B < 1000) (K : (wr_1 N).2.1 ab b 2 x d (tg 37 3 39 h 40) (fun v9 h8 => Q (v9 * 3) h8)) : (wr_1 (N + 1)).2.2 40 ab b x d h Q :=
  k_run C hB (fun h1 e1 => by subst e1; exact ⟨fun q => absurd q (by decide), fun q => absurd q (by decide), fun q => absurd q (by decide), fun q => absurd q (by decide), fun q => absurd q (by decide), fun q => absurd q (by decide), fun _ => K, fun q => absurd q (by decide), fun q => absurd q (by decide), fun q => absurd q (by decide), fun q => absurd q (by decide), fun q => absurd q (by decide), fun q => absurd q (by decide), fun q => absurd q (by decide), fun q => absurd rfl (q 40 (by decide))⟩)
theorem kr_41 {N : Nat} {ab b x d : Int32} {h : mH} {Q : Int32 → mH → Prop} {B : Nat} (C : cnt 37 3 h B) (hB : B < 1000) (K : (wr_1 N).2.1 ab b 1 (x + 1) d (tg 37 3 39 h 41) (fun v9 h8 => Q v9 h8)) : (wr_1 (N + 1)).2.2 41 ab b x d h Q :=
  k_run C hB (fun h1 e1 => by subst e1; exact ⟨fun q => absurd q (by decide), fun q => absurd q (by decide), fun q => absurd q (by decide), fun q => absurd q (by decide), fun q => absurd q (by decide), fun q => absurd q (by decide), fun q => absurd q (by decide), fun _ => K, fun q => absurd q (by decide), fun q => absurd q (by decide), fun q => absurd q (by decide), fun q => absurd q (by decide), fun q => absurd q (by decide), fun q => absurd q (by decide), fun q => absurd rfl (q 41 (by decide))⟩)
theorem kr_50 {N : Nat} {ab b x d : Int32} {h : mH} {Q : Int32 → mH → Prop} {B : Nat} (C : cnt 37 3 h B) (hB : B < 1000) (K : (wr_1 N).2.1 ab b 3 x d (tg 37 3 39 h 50) (fun v9 h8 => Q (v9 ^^^ 5) h8)) : (wr_1 (N + 1)).2.2 50 ab b x d h Q :=
  k_run C hB (fun h1 e1 => by subst e1; exact ⟨fun q => absurd q (by decide), fun q => absurd q (by decide), fun q => absurd q (by decide), fun q => absurd q (by decide), fun q => absurd q (by decide), fun q => absurd q (by decide), fun q => absurd q (by decide), fun q => absurd q (by decide), fun _ => K, fun q => absurd q (by decide), fun q => absurd q (by decide), fun q => absurd q (by decide), fun q => absurd q (by decide), fun q => absurd q (by decide), fun q => absurd rfl (q 50 (by decide))⟩)
theorem kr_60 {N : Nat} {ab b x d : Int32} {h : mH} {Q : Int32 → mH → Prop} {B : Nat} (C : cnt 37 3 h B) (hB : B < 1000) (K : (wr_1 N).2.1 ab b 2 x d (tg 37 3 39 h 60) (fun v28 h27 => (wr_1 N).1 b 0 2 d h27 (fun v30 h29 => Q (v28 - v30) h29))) : (wr_1 (N + 1)).2.2 60 ab b x d h Q :=
  k_run C hB (fun h1 e1 => by subst e1; exact ⟨fun q => absurd q (by decide), fun q => absurd q (by decide), fun q => absurd q (by decide), fun q => absurd q (by decide), fun q => absurd q (by decide), fun q => absurd q (by decide), fun q => absurd q (by decide), fun q => absurd q (by decide), fun q => absurd q (by decide), fun _ => K, fun q => absurd q (by decide), fun q => absurd q (by decide), fun q => absurd q (by decide), fun q => absurd q (by decide), fun q => absurd rfl (q 60 (by decide))⟩)
theorem kr_61 {N : Nat} {ab b x d : Int32} {h : mH} {Q : Int32 → mH → Prop} {B : Nat} (C : cnt 37 3 h B) (hB : B < 1000) (K : (wr_1 N).2.1 ab b 3 x d (tg 37 3 39 h 61) (fun v9 h8 => Q (v9 + 1) h8)) : (wr_1 (N + 1)).2.2 61 ab b x d h Q :=
  k_run C hB (fun h1 e1 => by subst e1; exact ⟨fun q => absurd q (by decide), fun q => absurd q (by decide), fun q => absurd q (by decide), fun q => absurd q (by decide), fun q => absurd q (by decide), fun q => absurd q (by decide), fun q => absurd q (by decide), fun q => absurd q (by decide), fun q => absurd q (by decide), fun q => absurd q (by decide), fun _ => K, fun q => absurd q (by decide), fun q => absurd q (by decide), fun q => absurd q (by decide), fun q => absurd rfl (q 61 (by decide))⟩)
theorem kr_70 {N : Nat} {ab b x d : Int32} {h : mH} {Q : Int32 → mH → Prop} {B : Nat} (C : cnt 37 3 h B) (hB : B < 1000) (K : (wr_1 N).2.1 ab b 0 x d (tg 37 3 39 h 70) (fun v9 h8 => Q (v9 * 2) h8)) : (wr_1 (N + 1)).2.2 70 ab b x d h Q :=
  k_run C hB (fun h1 e1 => by subst e1; exact ⟨fun q => absurd q (by decide), fun q => absurd q (by decide), fun q => absurd q (by decide), fun q => absurd q (by decide), fun q => absurd q (by decide), fun q => absurd q (by decide), fun q => absurd q (by decide), fun q => absurd q (by decide), fun q => absurd q (by decide), fun q => absurd q (by decide), fun q => absurd q (by decide), fun _ => K, fun q => absurd q (by decide), fun q => absurd q (by decide), fun q => absurd rfl (q 70 (by decide))⟩)
theorem kr_80 {N : Nat} {ab b x d : Int32} {h : mH} {Q : Int32 → mH → Prop} {B : Nat} (C : cnt 37 3 h B) (hB : B < 1000) (K : (wr_1 N).2.1 ab b 1 x d (tg 37 3 39 h 80) (fun v28 h27 => (wr_1 N).1 b 2 2 d h27 (fun v30 h29 => Q (v28 + v30) h29))) : (wr_1 (N + 1)).2.2 80 ab b x d h Q :=
  k_run C hB (fun h1 e1 => by subst e1; exact ⟨fun q => absurd q (by decide), fun q => absurd q (by decide), fun q => absurd q (by decide), fun q => absurd q (by decide), fun q => absurd q (by decide), fun q => absurd q (by decide), fun q => absurd q (by decide), fun q => absurd q (by decide), fun q => absurd q (by decide), fun q => absurd q (by decide), fun q => absurd q (by decide), fun q => absurd q (by decide), fun _ => K, fun q => absurd q (by decide), fun q => absurd rfl (q 80 (by decide))⟩)
theorem kr_81 {N : Nat} {ab b x d : Int32} {h : mH} {Q : Int32 → mH → Prop} {B : Nat} (C : cnt 37 3 h B) (hB : B < 1000) (K : (wr_1 N).2.1 ab b 0 x d (tg 37 3 39 h 81) (fun v9 h8 => Q (v9 - 1) h8)) : (wr_1 (N + 1)).2.2 81 ab b x d h Q :=
  k_run C hB (fun h1 e1 => by subst e1; exact ⟨fun q => absurd q (by decide), fun q => absurd q (by decide), fun q => absurd q (by decide), fun q => absurd q (by decide), fun q => absurd q (by decide), fun q => absurd q (by decide), fun q => absurd q (by decide), fun q => absurd q (by decide), fun q => absurd q (by decide), fun q => absurd q (by decide), fun q => absurd q (by decide), fun q => absurd q (by decide), fun q => absurd q (by decide), fun _ => K, fun q => absurd rfl (q 81 (by decide))⟩)
