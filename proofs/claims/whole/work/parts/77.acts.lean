/-! PURE: act, the class: what each kind does; the rows kf_.. are printed by wip/gen/act.py -/
theorem kf_0_0 {N d : Nat} {b x : Int32} {h : mH} {Q : Int32 → mH → Prop} (hd : d < 40) (K : (wr_1 N).2.2 1 (-1) b x (nI (d + 1)) h Q) : (wr_1 (N + 1)).2.1 (nI 0) b 0 x (nI d) h Q := k_from (k := 0) (by decide) 0 (by decide) hd (by rw [show m_own (4 * fkf 3 0 0 + 0) = 1 from by decide, show m_abv (fkf 3 0 0) = (-1) from by decide]; exact K)
theorem kf_0_1 {N d : Nat} {b x : Int32} {h : mH} {Q : Int32 → mH → Prop} (hd : d < 40) (K : (wr_1 N).2.2 10 (-1) b x (nI (d + 1)) h Q) : (wr_1 (N + 1)).2.1 (nI 0) b 1 x (nI d) h Q := k_from (k := 0) (by decide) 1 (by decide) hd (by rw [show m_own (4 * fkf 3 0 1 + 1) = 10 from by decide, show m_abv (fkf 3 0 1) = (-1) from by decide]; exact K)
theorem kf_0_2 {N d : Nat} {b x : Int32} {h : mH} {Q : Int32 → mH → Prop} (hd : d < 40) (K : (wr_1 N).2.2 11 (-1) b x (nI (d + 1)) h Q) : (wr_1 (N + 1)).2.1 (nI 0) b 2 x (nI d) h Q := k_from (k := 0) (by decide) 2 (by decide) hd (by rw [show m_own (4 * fkf 3 0 2 + 2) = 11 from by decide, show m_abv (fkf 3 0 2) = (-1) from by decide]; exact K)
theorem kf_0_3 {N d : Nat} {b x : Int32} {h : mH} {Q : Int32 → mH → Prop} (hd : d < 40) (K : (wr_1 N).2.2 2 (-1) b x (nI (d + 1)) h Q) : (wr_1 (N + 1)).2.1 (nI 0) b 3 x (nI d) h Q := k_from (k := 0) (by decide) 3 (by decide) hd (by rw [show m_own (4 * fkf 3 0 3 + 3) = 2 from by decide, show m_abv (fkf 3 0 3) = (-1) from by decide]; exact K)
theorem kf_1_0 {N d : Nat} {b x : Int32} {h : mH} {Q : Int32 → mH → Prop} (hd : d < 40) (K : (wr_1 N).2.2 20 (nI 0) b x (nI (d + 1)) h Q) : (wr_1 (N + 1)).2.1 (nI 1) b 0 x (nI d) h Q := k_from (k := 1) (by decide) 0 (by decide) hd (by rw [show m_own (4 * fkf 3 1 0 + 0) = 20 from by decide, show m_abv (fkf 3 1 0) = (nI 0) from by decide]; exact K)
theorem kf_1_1 {N d : Nat} {b x : Int32} {h : mH} {Q : Int32 → mH → Prop} (hd : d < 40) (K : (wr_1 N).2.2 10 (-1) b x (nI (d + 1)) h Q) : (wr_1 (N + 1)).2.1 (nI 1) b 1 x (nI d) h Q := k_from (k := 1) (by decide) 1 (by decide) hd (by rw [show m_own (4 * fkf 3 1 1 + 1) = 10 from by decide, show m_abv (fkf 3 1 1) = (-1) from by decide]; exact K)
theorem kf_1_2 {N d : Nat} {b x : Int32} {h : mH} {Q : Int32 → mH → Prop} (hd : d < 40) (K : (wr_1 N).2.2 11 (-1) b x (nI (d + 1)) h Q) : (wr_1 (N + 1)).2.1 (nI 1) b 2 x (nI d) h Q := k_from (k := 1) (by decide) 2 (by decide) hd (by rw [show m_own (4 * fkf 3 1 2 + 2) = 11 from by decide, show m_abv (fkf 3 1 2) = (-1) from by decide]; exact K)
theorem kf_1_3 {N d : Nat} {b x : Int32} {h : mH} {Q : Int32 → mH → Prop} (hd : d < 40) (K : (wr_1 N).2.2 2 (-1) b x (nI (d + 1)) h Q) : (wr_1 (N + 1)).2.1 (nI 1) b 3 x (nI d) h Q := k_from (k := 1) (by decide) 3 (by decide) hd (by rw [show m_own (4 * fkf 3 1 3 + 3) = 2 from by decide, show m_abv (fkf 3 1 3) = (-1) from by decide]; exact K)
theorem kf_2_0 {N d : Nat} {b x : Int32} {h : mH} {Q : Int32 → mH → Prop} (hd : d < 40) (K : (wr_1 N).2.2 1 (-1) b x (nI (d + 1)) h Q) : (wr_1 (N + 1)).2.1 (nI 2) b 0 x (nI d) h Q := k_from (k := 2) (by decide) 0 (by decide) hd (by rw [show m_own (4 * fkf 3 2 0 + 0) = 1 from by decide, show m_abv (fkf 3 2 0) = (-1) from by decide]; exact K)
theorem kf_2_1 {N d : Nat} {b x : Int32} {h : mH} {Q : Int32 → mH → Prop} (hd : d < 40) (K : (wr_1 N).2.2 30 (nI 0) b x (nI (d + 1)) h Q) : (wr_1 (N + 1)).2.1 (nI 2) b 1 x (nI d) h Q := k_from (k := 2) (by decide) 1 (by decide) hd (by rw [show m_own (4 * fkf 3 2 1 + 1) = 30 from by decide, show m_abv (fkf 3 2 1) = (nI 0) from by decide]; exact K)
theorem kf_2_2 {N d : Nat} {b x : Int32} {h : mH} {Q : Int32 → mH → Prop} (hd : d < 40) (K : (wr_1 N).2.2 11 (-1) b x (nI (d + 1)) h Q) : (wr_1 (N + 1)).2.1 (nI 2) b 2 x (nI d) h Q := k_from (k := 2) (by decide) 2 (by decide) hd (by rw [show m_own (4 * fkf 3 2 2 + 2) = 11 from by decide, show m_abv (fkf 3 2 2) = (-1) from by decide]; exact K)
theorem kf_2_3 {N d : Nat} {b x : Int32} {h : mH} {Q : Int32 → mH → Prop} (hd : d < 40) (K : (wr_1 N).2.2 2 (-1) b x (nI (d + 1)) h Q) : (wr_1 (N + 1)).2.1 (nI 2) b 3 x (nI d) h Q := k_from (k := 2) (by decide) 3 (by decide) hd (by rw [show m_own (4 * fkf 3 2 3 + 3) = 2 from by decide, show m_abv (fkf 3 2 3) = (-1) from by decide]; exact K)
theorem kf_3_0 {N d : Nat} {b x : Int32} {h : mH} {Q : Int32 → mH → Prop} (hd : d < 40) (K : (wr_1 N).2.2 1 (-1) b x (nI (d + 1)) h Q) : (wr_1 (N + 1)).2.1 (nI 3) b 0 x (nI d) h Q := k_from (k := 3) (by decide) 0 (by decide) hd (by rw [show m_own (4 * fkf 3 3 0 + 0) = 1 from by decide, show m_abv (fkf 3 3 0) = (-1) from by decide]; exact K)
theorem kf_3_1 {N d : Nat} {b x : Int32} {h : mH} {Q : Int32 → mH → Prop} (hd : d < 40) (K : (wr_1 N).2.2 41 (nI 2) b x (nI (d + 1)) h Q) : (wr_1 (N + 1)).2.1 (nI 3) b 1 x (nI d) h Q := k_from (k := 3) (by decide) 1 (by decide) hd (by rw [show m_own (4 * fkf 3 3 1 + 1) = 41 from by decide, show m_abv (fkf 3 3 1) = (nI 2) from by decide]; exact K)
theorem kf_3_2 {N d : Nat} {b x : Int32} {h : mH} {Q : Int32 → mH → Prop} (hd : d < 40) (K : (wr_1 N).2.2 40 (nI 2) b x (nI (d + 1)) h Q) : (wr_1 (N + 1)).2.1 (nI 3) b 2 x (nI d) h Q := k_from (k := 3) (by decide) 2 (by decide) hd (by rw [show m_own (4 * fkf 3 3 2 + 2) = 40 from by decide, show m_abv (fkf 3 3 2) = (nI 2) from by decide]; exact K)
theorem kf_3_3 {N d : Nat} {b x : Int32} {h : mH} {Q : Int32 → mH → Prop} (hd : d < 40) (K : (wr_1 N).2.2 2 (-1) b x (nI (d + 1)) h Q) : (wr_1 (N + 1)).2.1 (nI 3) b 3 x (nI d) h Q := k_from (k := 3) (by decide) 3 (by decide) hd (by rw [show m_own (4 * fkf 3 3 3 + 3) = 2 from by decide, show m_abv (fkf 3 3 3) = (-1) from by decide]; exact K)
theorem kf_4_0 {N d : Nat} {b x : Int32} {h : mH} {Q : Int32 → mH → Prop} (hd : d < 40) (K : (wr_1 N).2.2 20 (nI 0) b x (nI (d + 1)) h Q) : (wr_1 (N + 1)).2.1 (nI 4) b 0 x (nI d) h Q := k_from (k := 4) (by decide) 0 (by decide) hd (by rw [show m_own (4 * fkf 3 4 0 + 0) = 20 from by decide, show m_abv (fkf 3 4 0) = (nI 0) from by decide]; exact K)
theorem kf_4_1 {N d : Nat} {b x : Int32} {h : mH} {Q : Int32 → mH → Prop} (hd : d < 40) (K : (wr_1 N).2.2 10 (-1) b x (nI (d + 1)) h Q) : (wr_1 (N + 1)).2.1 (nI 4) b 1 x (nI d) h Q := k_from (k := 4) (by decide) 1 (by decide) hd (by rw [show m_own (4 * fkf 3 4 1 + 1) = 10 from by decide, show m_abv (fkf 3 4 1) = (-1) from by decide]; exact K)
theorem kf_4_2 {N d : Nat} {b x : Int32} {h : mH} {Q : Int32 → mH → Prop} (hd : d < 40) (K : (wr_1 N).2.2 11 (-1) b x (nI (d + 1)) h Q) : (wr_1 (N + 1)).2.1 (nI 4) b 2 x (nI d) h Q := k_from (k := 4) (by decide) 2 (by decide) hd (by rw [show m_own (4 * fkf 3 4 2 + 2) = 11 from by decide, show m_abv (fkf 3 4 2) = (-1) from by decide]; exact K)
theorem kf_4_3 {N d : Nat} {b x : Int32} {h : mH} {Q : Int32 → mH → Prop} (hd : d < 40) (K : (wr_1 N).2.2 50 (nI 1) b x (nI (d + 1)) h Q) : (wr_1 (N + 1)).2.1 (nI 4) b 3 x (nI d) h Q := k_from (k := 4) (by decide) 3 (by decide) hd (by rw [show m_own (4 * fkf 3 4 3 + 3) = 50 from by decide, show m_abv (fkf 3 4 3) = (nI 1) from by decide]; exact K)
theorem kf_5_0 {N d : Nat} {b x : Int32} {h : mH} {Q : Int32 → mH → Prop} (hd : d < 40) (K : (wr_1 N).2.2 1 (-1) b x (nI (d + 1)) h Q) : (wr_1 (N + 1)).2.1 (nI 5) b 0 x (nI d) h Q := k_from (k := 5) (by decide) 0 (by decide) hd (by rw [show m_own (4 * fkf 3 5 0 + 0) = 1 from by decide, show m_abv (fkf 3 5 0) = (-1) from by decide]; exact K)
theorem kf_5_1 {N d : Nat} {b x : Int32} {h : mH} {Q : Int32 → mH → Prop} (hd : d < 40) (K : (wr_1 N).2.2 41 (nI 2) b x (nI (d + 1)) h Q) : (wr_1 (N + 1)).2.1 (nI 5) b 1 x (nI d) h Q := k_from (k := 5) (by decide) 1 (by decide) hd (by rw [show m_own (4 * fkf 3 5 1 + 1) = 41 from by decide, show m_abv (fkf 3 5 1) = (nI 2) from by decide]; exact K)
theorem kf_5_2 {N d : Nat} {b x : Int32} {h : mH} {Q : Int32 → mH → Prop} (hd : d < 40) (K : (wr_1 N).2.2 60 (nI 3) b x (nI (d + 1)) h Q) : (wr_1 (N + 1)).2.1 (nI 5) b 2 x (nI d) h Q := k_from (k := 5) (by decide) 2 (by decide) hd (by rw [show m_own (4 * fkf 3 5 2 + 2) = 60 from by decide, show m_abv (fkf 3 5 2) = (nI 3) from by decide]; exact K)
theorem kf_5_3 {N d : Nat} {b x : Int32} {h : mH} {Q : Int32 → mH → Prop} (hd : d < 40) (K : (wr_1 N).2.2 61 (nI 3) b x (nI (d + 1)) h Q) : (wr_1 (N + 1)).2.1 (nI 5) b 3 x (nI d) h Q := k_from (k := 5) (by decide) 3 (by decide) hd (by rw [show m_own (4 * fkf 3 5 3 + 3) = 61 from by decide, show m_abv (fkf 3 5 3) = (nI 3) from by decide]; exact K)
theorem kf_6_0 {N d : Nat} {b x : Int32} {h : mH} {Q : Int32 → mH → Prop} (hd : d < 40) (K : (wr_1 N).2.2 70 (nI 0) b x (nI (d + 1)) h Q) : (wr_1 (N + 1)).2.1 (nI 6) b 0 x (nI d) h Q := k_from (k := 6) (by decide) 0 (by decide) hd (by rw [show m_own (4 * fkf 3 6 0 + 0) = 70 from by decide, show m_abv (fkf 3 6 0) = (nI 0) from by decide]; exact K)
theorem kf_6_1 {N d : Nat} {b x : Int32} {h : mH} {Q : Int32 → mH → Prop} (hd : d < 40) (K : (wr_1 N).2.2 10 (-1) b x (nI (d + 1)) h Q) : (wr_1 (N + 1)).2.1 (nI 6) b 1 x (nI d) h Q := k_from (k := 6) (by decide) 1 (by decide) hd (by rw [show m_own (4 * fkf 3 6 1 + 1) = 10 from by decide, show m_abv (fkf 3 6 1) = (-1) from by decide]; exact K)
theorem kf_6_2 {N d : Nat} {b x : Int32} {h : mH} {Q : Int32 → mH → Prop} (hd : d < 40) (K : (wr_1 N).2.2 11 (-1) b x (nI (d + 1)) h Q) : (wr_1 (N + 1)).2.1 (nI 6) b 2 x (nI d) h Q := k_from (k := 6) (by decide) 2 (by decide) hd (by rw [show m_own (4 * fkf 3 6 2 + 2) = 11 from by decide, show m_abv (fkf 3 6 2) = (-1) from by decide]; exact K)
theorem kf_6_3 {N d : Nat} {b x : Int32} {h : mH} {Q : Int32 → mH → Prop} (hd : d < 40) (K : (wr_1 N).2.2 2 (-1) b x (nI (d + 1)) h Q) : (wr_1 (N + 1)).2.1 (nI 6) b 3 x (nI d) h Q := k_from (k := 6) (by decide) 3 (by decide) hd (by rw [show m_own (4 * fkf 3 6 3 + 3) = 2 from by decide, show m_abv (fkf 3 6 3) = (-1) from by decide]; exact K)
theorem kf_7_0 {N d : Nat} {b x : Int32} {h : mH} {Q : Int32 → mH → Prop} (hd : d < 40) (K : (wr_1 N).2.2 81 (nI 6) b x (nI (d + 1)) h Q) : (wr_1 (N + 1)).2.1 (nI 7) b 0 x (nI d) h Q := k_from (k := 7) (by decide) 0 (by decide) hd (by rw [show m_own (4 * fkf 3 7 0 + 0) = 81 from by decide, show m_abv (fkf 3 7 0) = (nI 6) from by decide]; exact K)
theorem kf_7_1 {N d : Nat} {b x : Int32} {h : mH} {Q : Int32 → mH → Prop} (hd : d < 40) (K : (wr_1 N).2.2 80 (nI 6) b x (nI (d + 1)) h Q) : (wr_1 (N + 1)).2.1 (nI 7) b 1 x (nI d) h Q := k_from (k := 7) (by decide) 1 (by decide) hd (by rw [show m_own (4 * fkf 3 7 1 + 1) = 80 from by decide, show m_abv (fkf 3 7 1) = (nI 6) from by decide]; exact K)
theorem kf_7_2 {N d : Nat} {b x : Int32} {h : mH} {Q : Int32 → mH → Prop} (hd : d < 40) (K : (wr_1 N).2.2 11 (-1) b x (nI (d + 1)) h Q) : (wr_1 (N + 1)).2.1 (nI 7) b 2 x (nI d) h Q := k_from (k := 7) (by decide) 2 (by decide) hd (by rw [show m_own (4 * fkf 3 7 2 + 2) = 11 from by decide, show m_abv (fkf 3 7 2) = (-1) from by decide]; exact K)
theorem kf_7_3 {N d : Nat} {b x : Int32} {h : mH} {Q : Int32 → mH → Prop} (hd : d < 40) (K : (wr_1 N).2.2 2 (-1) b x (nI (d + 1)) h Q) : (wr_1 (N + 1)).2.1 (nI 7) b 3 x (nI d) h Q := k_from (k := 7) (by decide) 3 (by decide) hd (by rw [show m_own (4 * fkf 3 7 3 + 3) = 2 from by decide, show m_abv (fkf 3 7 3) = (-1) from by decide]; exact K)
def shV (k : Nat) (b x : Int32) : Int32 := if k = 1 ∨ k = 4 then x + b + 3 else if k = 7 then (x + b) * 2 - 1 else if k = 6 then (x + b) * 2 else x + b
def shL (k : Nat) : List Int32 := if k = 1 ∨ k = 4 then [20, 1] else if k = 7 then [81, 70, 1] else if k = 6 then [70, 1] else [1]
def wkV (k : Nat) (b x : Int32) : Int32 := if k = 5 then (x ^^^ b) * 3 - shV k b 2 else if k = 3 then (x ^^^ b) * 3 else x ^^^ b
def wkL (k : Nat) : List Int32 := if k = 5 then [60, 40, 11] ++ shL k else if k = 3 then [40, 11] else [11]
def ptV (k : Nat) (b x : Int32) : Int32 := if k = 3 ∨ k = 5 then -(shV k b (x + 1) * 2) else if k = 7 then shV k b x * 2 + wkV k b 2 else if k = 2 then -(shV k b x * 2) else shV k b x * 2
def ptL (k : Nat) : List Int32 := if k = 3 ∨ k = 5 then [41, 30, 10] ++ shL k else if k = 7 then [80, 10] ++ shL k ++ wkL k else if k = 2 then [30, 10] ++ shL k else [10] ++ shL k
def tlV (k : Nat) (b x : Int32) : Int32 := if k = 4 then (ptV k b x - wkV k b 1) ^^^ 5 else if k = 5 then ptV k b x - wkV k b 1 + 1 else ptV k b x - wkV k b 1
def tlL (k : Nat) : List Int32 := (if k = 4 then [50, 2] else if k = 5 then [61, 2] else [2]) ++ ptL k ++ wkL k
theorem kinds {k : Nat} (h : k < 8) : k = 0 ∨ k = 1 ∨ k = 2 ∨ k = 3 ∨ k = 4 ∨ k = 5 ∨ k = 6 ∨ k = 7 := by omega
theorem lens : ∀ k, k < 8 → (shL k).length ≤ 3 ∧ (wkL k).length ≤ 6 ∧ (ptL k).length ≤ 11 ∧ (tlL k).length ≤ 19 := by decide
abbrev tc (h : mH) (l : List Int32) : mH := tgs 37 3 39 h l
theorem tc1 {h : mH} {a : Int32} {l : List Int32} : tc h ([a] ++ l) = tc (tg 37 3 39 h a) l := rfl
theorem tc2 {h : mH} {a b : Int32} {l : List Int32} : tc h ([a, b] ++ l) = tc (tg 37 3 39 (tg 37 3 39 h a) b) l := rfl
theorem tc3 {h : mH} {a b c : Int32} {l : List Int32} : tc h ([a, b, c] ++ l) = tc (tg 37 3 39 (tg 37 3 39 (tg 37 3 39 h a) b) c) l := rfl
section ACT
variable {N k d B : Nat} {x : Int32} {h : mH} {Q : Int32 → mH → Prop}
theorem c_sh {b : Int32} (hk : k < 8) (hd : d + 8 ≤ 40) (C : cnt 37 3 h B) (hB : B < 900) (K : Q (shV k b x) (tc h (shL k))) : (wr_1 (N + 6)).2.1 (nI k) b 0 x (nI d) h Q := by
  have C1 : ∀ n, cnt 37 3 (tg 37 3 39 h n) (B + 1) := fun n => cnt_tg n C
  have C2 : ∀ n n', cnt 37 3 (tg 37 3 39 (tg 37 3 39 h n) n') (B + 2) := fun n n' => cnt_tg n' (C1 n)
  rcases kinds hk with rfl | rfl | rfl | rfl | rfl | rfl | rfl | rfl
  · exact kf_0_0 (by omega) (kr_1 C (by omega) K)
  · exact kf_1_0 (by omega) (kr_20 C (by omega) (kf_0_0 (by omega) (kr_1 (C1 _) (by omega) K)))
  · exact kf_2_0 (by omega) (kr_1 C (by omega) K)
  · exact kf_3_0 (by omega) (kr_1 C (by omega) K)
  · exact kf_4_0 (by omega) (kr_20 C (by omega) (kf_0_0 (by omega) (kr_1 (C1 _) (by omega) K)))
  · exact kf_5_0 (by omega) (kr_1 C (by omega) K)
  · exact kf_6_0 (by omega) (kr_70 C (by omega) (kf_0_0 (by omega) (kr_1 (C1 _) (by omega) K)))
  · exact kf_7_0 (by omega) (kr_81 C (by omega) (kf_6_0 (by omega) (kr_70 (C1 _) (by omega) (kf_0_0 (by omega) (kr_1 (C2 _ _) (by omega) K)))))
theorem c_wk {b : Nat} (w : isB h b k) (hd : d + 10 ≤ 40) (C : cnt 37 3 h B) (hB : B < 800) (K : Q (wkV k (nI b) x) (tc h (wkL k))) : (wr_1 (N + 12)).2.1 (nI k) (nI b) 2 x (nI d) h Q := by
  have hk : k < 8 := by obtain ⟨_, _, _, _, _, z⟩ := w; exact z
  have C1 : ∀ n, cnt 37 3 (tg 37 3 39 h n) (B + 1) := fun n => cnt_tg n C
  have C2 : ∀ n n', cnt 37 3 (tg 37 3 39 (tg 37 3 39 h n) n') (B + 2) := fun n n' => cnt_tg n' (C1 n)
  rcases kinds hk with rfl | rfl | rfl | rfl | rfl | rfl | rfl | rfl
  · exact kf_0_2 (by omega) (kr_11 C (by omega) K)
  · exact kf_1_2 (by omega) (kr_11 C (by omega) K)
  · exact kf_2_2 (by omega) (kr_11 C (by omega) K)
  · exact kf_3_2 (by omega) (kr_40 C (by omega) (kf_2_2 (by omega) (kr_11 (C1 _) (by omega) K)))
  · exact kf_4_2 (by omega) (kr_11 C (by omega) K)
  · refine kf_5_2 (by omega) (kr_60 C (by omega) (kf_3_2 (by omega) (kr_40 (C1 _) (by omega) (kf_2_2 (by omega) (kr_11 (C2 _ _) (by omega) ?_)))))
    have w3 : isB (tg 37 3 39 (tg 37 3 39 (tg 37 3 39 h 60) 40) 11) b 5 := ((w.mv (Fr_tg 60)).mv (Fr_tg 40)).mv (Fr_tg 11)
    rw [show wkL 5 = [60, 40, 11] ++ shL 5 from rfl, tc3, show wkV 5 (nI b) x = (x ^^^ nI b) * 3 - shV 5 (nI b) 2 from rfl] at K
    exact k_own w3 (c_sh (by decide) (by omega) (cnt_tg 11 (C2 60 40)) (by omega) K)
  · exact kf_6_2 (by omega) (kr_11 C (by omega) K)
  · exact kf_7_2 (by omega) (kr_11 C (by omega) K)
theorem c_pt {b : Nat} (w : isB h b k) (hd : d + 16 ≤ 40) (C : cnt 37 3 h B) (hB : B < 700) (K : Q (ptV k (nI b) x) (tc h (ptL k))) : (wr_1 (N + 20)).2.1 (nI k) (nI b) 1 x (nI d) h Q := by
  have hk : k < 8 := by obtain ⟨_, _, _, _, _, z⟩ := w; exact z
  have C1 : ∀ n, cnt 37 3 (tg 37 3 39 h n) (B + 1) := fun n => cnt_tg n C
  have C2 : ∀ n n', cnt 37 3 (tg 37 3 39 (tg 37 3 39 h n) n') (B + 2) := fun n n' => cnt_tg n' (C1 n)
  have C3 : ∀ n n' n2, cnt 37 3 (tg 37 3 39 (tg 37 3 39 (tg 37 3 39 h n) n') n2) (B + 3) := fun n n' n2 => cnt_tg n2 (C2 n n')
  have w1 : ∀ n, isB (tg 37 3 39 h n) b k := fun n => w.mv (Fr_tg n)
  have w2 : ∀ n n', isB (tg 37 3 39 (tg 37 3 39 h n) n') b k := fun n n' => (w1 n).mv (Fr_tg n')
  have w3 : ∀ n n' n2, isB (tg 37 3 39 (tg 37 3 39 (tg 37 3 39 h n) n') n2) b k := fun n n' n2 => (w2 n n').mv (Fr_tg n2)
  rcases kinds hk with rfl | rfl | rfl | rfl | rfl | rfl | rfl | rfl
  · rw [show ptL 0 = [10] ++ shL 0 from rfl, tc1, show ptV 0 (nI b) x = shV 0 (nI b) x * 2 from rfl] at K
    exact kf_0_1 (by omega) (kr_10 C (by omega) (k_own (w1 _) (c_sh (by decide) (by omega) (C1 _) (by omega) K)))
  · rw [show ptL 1 = [10] ++ shL 1 from rfl, tc1, show ptV 1 (nI b) x = shV 1 (nI b) x * 2 from rfl] at K
    exact kf_1_1 (by omega) (kr_10 C (by omega) (k_own (w1 _) (c_sh (by decide) (by omega) (C1 _) (by omega) K)))
  · rw [show ptL 2 = [30, 10] ++ shL 2 from rfl, tc2, show ptV 2 (nI b) x = -(shV 2 (nI b) x * 2) from rfl] at K
    exact kf_2_1 (by omega) (kr_30 C (by omega) (kf_0_1 (by omega) (kr_10 (C1 _) (by omega) (k_own (w2 _ _) (c_sh (by decide) (by omega) (C2 _ _) (by omega) K)))))
  · rw [show ptL 3 = [41, 30, 10] ++ shL 3 from rfl, tc3, show ptV 3 (nI b) x = -(shV 3 (nI b) (x + 1) * 2) from rfl] at K
    exact kf_3_1 (by omega) (kr_41 C (by omega) (kf_2_1 (by omega) (kr_30 (C1 _) (by omega) (kf_0_1 (by omega) (kr_10 (C2 _ _) (by omega) (k_own (w3 _ _ _) (c_sh (by decide) (by omega) (C3 _ _ _) (by omega) K)))))))
  · rw [show ptL 4 = [10] ++ shL 4 from rfl, tc1, show ptV 4 (nI b) x = shV 4 (nI b) x * 2 from rfl] at K
    exact kf_4_1 (by omega) (kr_10 C (by omega) (k_own (w1 _) (c_sh (by decide) (by omega) (C1 _) (by omega) K)))
  · rw [show ptL 5 = [41, 30, 10] ++ shL 5 from rfl, tc3, show ptV 5 (nI b) x = -(shV 5 (nI b) (x + 1) * 2) from rfl] at K
    exact kf_5_1 (by omega) (kr_41 C (by omega) (kf_2_1 (by omega) (kr_30 (C1 _) (by omega) (kf_0_1 (by omega) (kr_10 (C2 _ _) (by omega) (k_own (w3 _ _ _) (c_sh (by decide) (by omega) (C3 _ _ _) (by omega) K)))))))
  · rw [show ptL 6 = [10] ++ shL 6 from rfl, tc1, show ptV 6 (nI b) x = shV 6 (nI b) x * 2 from rfl] at K
    exact kf_6_1 (by omega) (kr_10 C (by omega) (k_own (w1 _) (c_sh (by decide) (by omega) (C1 _) (by omega) K)))
  · rw [show ptL 7 = [80, 10] ++ (shL 7 ++ wkL 7) from rfl, tc2, show ptV 7 (nI b) x = shV 7 (nI b) x * 2 + wkV 7 (nI b) 2 from rfl] at K
    have K2 : Q (shV 7 (nI b) x * 2 + wkV 7 (nI b) 2) (tc (tc (tg 37 3 39 (tg 37 3 39 h 80) 10) (shL 7)) (wkL 7)) := by
      have e := tgs_app (o := 37) (k := 3) (r := 39) (shL 7) (wkL 7) (tg 37 3 39 (tg 37 3 39 h 80) 10)
      unfold tc at K ⊢
      rw [e] at K
      exact K
    refine kf_7_1 (by omega) (kr_80 C (by omega) (kf_6_1 (by omega) (kr_10 (C1 _) (by omega) (k_own (w2 _ _) (c_sh (by decide) (by omega) (C2 _ _) (by omega) ?_)))))
    have w5 := (w2 80 10).mv (Fr_tgs (shL 7) (tg 37 3 39 (tg 37 3 39 h 80) 10))
    have C5 := cnt_tgs (r := 39) (shL 7) (C2 80 10)
    exact k_own w5 (c_wk w5 (by omega) C5 (by have : (shL 7).length = 3 := by decide
                                              omega) K2)
theorem c_tl {b : Nat} (w : isB h b k) (hd : d + 20 ≤ 40) (C : cnt 37 3 h B) (hB : B < 600) (K : Q (tlV k (nI b) x) (tc h (tlL k))) : (wr_1 (N + 26)).2.1 (nI k) (nI b) 3 x (nI d) h Q := by
  have hk : k < 8 := by obtain ⟨_, _, _, _, _, z⟩ := w; exact z
  have C1 : ∀ n, cnt 37 3 (tg 37 3 39 h n) (B + 1) := fun n => cnt_tg n C
  have w1 : ∀ n, isB (tg 37 3 39 h n) b k := fun n => w.mv (Fr_tg n)
  -- plain tells, on any contents
  have pl : ∀ {M d2 : Nat} {g : mH} {B2 : Nat} {ab : Int32} {R : Int32 → mH → Prop}, isB g b k → d2 + 18 ≤ 40 → cnt 37 3 g B2 → B2 < 650 → R (ptV k (nI b) x - wkV k (nI b) 1) (tc (tc (tg 37 3 39 g 2) (ptL k)) (wkL k)) → (wr_1 (M + 22)).2.2 2 ab (nI b) x (nI d2) g R := fun {M d2 g B2 ab R} wg hd2 Cg hB2 Kg => by
    have wg1 : isB (tg 37 3 39 g 2) b k := wg.mv (Fr_tg 2)
    have Cg1 : cnt 37 3 (tg 37 3 39 g 2) (B2 + 1) := cnt_tg 2 Cg
    have wg2 := wg1.mv (Fr_tgs (ptL k) (tg 37 3 39 g 2))
    have Cg2 := cnt_tgs (r := 39) (ptL k) Cg1
    have ln := lens k hk
    exact kr_2 Cg (by omega) (k_own wg1 (c_pt wg1 (by omega) Cg1 (by omega) (k_own wg2 (c_wk wg2 (by omega) Cg2 (by omega) Kg))))
  have e2 : ∀ l : List Int32, tc h (l ++ ptL k ++ wkL k) = tc (tc (tc h l) (ptL k)) (wkL k) := fun l => by
    unfold tc
    rw [tgs_app, tgs_app]
  unfold tlV tlL at K
  by_cases k4 : k = 4
  · rw [if_pos k4, if_pos k4, e2] at K
    subst k4
    exact kf_4_3 (by omega) (kr_50 C (by omega) (kf_1_3 (by omega) (pl (w1 _) (by omega) (C1 _) (by omega) K)))
  · rw [if_neg k4, if_neg k4] at K
    by_cases k5 : k = 5
    · rw [if_pos k5, if_pos k5, e2] at K
      subst k5
      exact kf_5_3 (by omega) (kr_61 C (by omega) (kf_3_3 (by omega) (pl (w1 _) (by omega) (C1 _) (by omega) K)))
    · rw [if_neg k5, if_neg k5, e2] at K
      have go : ∀ {ab}, (wr_1 (N + 25)).2.2 2 ab (nI b) x (nI (d + 1)) h Q := fun {ab} => pl w (by omega) C (by omega) K
      rcases kinds hk with rfl | rfl | rfl | rfl | rfl | rfl | rfl | rfl
      · exact kf_0_3 (by omega) go
      · exact kf_1_3 (by omega) go
      · exact kf_2_3 (by omega) go
      · exact kf_3_3 (by omega) go
      · exact absurd rfl k4
      · exact absurd rfl k5
      · exact kf_6_3 (by omega) go
      · exact kf_7_3 (by omega) go
end ACT
