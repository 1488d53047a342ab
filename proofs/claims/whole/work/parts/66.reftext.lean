/-! PURE: the reference reads a line, a text -/
theorem s16 {a : Nat} (h : a < 32768) : (nI a).toInt16.toInt32 = nI a := by
  rw [← Int32.toInt_inj, Int16.toInt_toInt32, Int32.toInt_toInt16, nI_toInt (by omega)]
  exact Int.bmod_eq_of_le (by omega) (by omega)
theorem v16 {a : Nat} (h : a < 32768) : vp_nar .short (nI a) = nI a := by rw [vp_nar_short, s16 h]
theorem rcq_b {q : qS} (h : okq q.1) : (rcq q).1.toInt8.toInt32 = (rcq q).1 := by
  unfold rcq
  by_cases h1 : nm q.1
  · rw [if_pos h1]; rfl
  · rw [if_neg h1]
    by_cases h2 : q.1 = 110
    · rw [if_pos h2]; rfl
    · rw [if_neg h2]
      by_cases h3 : q.1 = 33
      · rw [if_pos h3]; rfl
      · rw [if_neg h3]
        by_cases h4 : q.1 = 126
        · rw [if_pos h4]; rfl
        · rw [if_neg h4]
          rcases h with h | h | h | h | h
          · exact absurd h h1
          · exact absurd h h2
          · exact absurd h h3
          · exact absurd h h4
          · exact byt_bsn h
def PR (a k : Nat) : Bool := ((a == 70 || a == 71) && Nat.ble 130 k) || ((a == 73 || a == 74) && Nat.ble 61 k) || (a == 72 && k == 1) || (a == 53 && (k == 24 || k == 25 || k == 26 || k == 27 || k == 28))
theorem PE_PR (a k : Nat) (h : PR a k = false) : PE a k = false := by
  unfold PR at h
  unfold PE
  simp only [Bool.or_eq_false_iff] at h ⊢
  refine ⟨h.1.1.1, ?_⟩
  have h2 := h.2
  rw [Bool.and_eq_false_iff] at h2 ⊢
  refine h2.imp_right (fun q => ?_)
  simp only [Bool.or_eq_false_iff] at q ⊢
  exact ⟨⟨⟨q.1.1.1.2, q.1.1.2⟩, q.1.2⟩, q.2⟩
/-- at the start of a line: the lines so far -/
def TR (hB : mH) (n : Nat) (h : mH) (p : Nat) (L : List qL) : Prop := Fr PR hB h ∧ gi h 53 26 = -1 ∧ gi h 53 25 = nI p ∧ p ≤ n ∧ gi h 53 27 = 0 ∧ gi h 53 28 = nI (fr L).length ∧ ly (gi h 70) (gi h 71) 130 ((fr L).map rcq) ∧ gi h 72 1 = nI L.length ∧ le_ (gi h 73) (gi h 74) 61 0 L ∧ gi h 53 24 = nI n
def TD (hB : mH) (n : Nat) (h : mH) (f : Nat) : Prop := Fr PR hB h ∧ gi h 53 26 = nI f ∧ f ≤ n ∧ gi h 53 24 = nI n
section READ
variable {hB : mH} {n : Nat} {ch : Nat → Int32}
theorem HR.mv (H : HR hB n ch) {h : mH} (f : Fr PR hB h) (e : gi h 53 24 = nI n) : HR h n ch := ⟨H.1, e, fun p hp => by rw [f.i 69 p rfl, H.2.2.1 p hp], H.2.2.2⟩
theorem r_lineJ (H : HR hB n ch) {h : mH} {x : Int32} {m : Nat} (hx : x = nI m) (hm : m < 122) {Q : mH → Prop} (K : ∀ h1, h1 = si (si h 74 m (vp_nar .short ((gi h 53 28).toInt16.toInt32))) 72 1 (gi h 72 1 + 1) → Q h1) : w_X12_line_J66 Q x h := by
  unfold w_X12_line_J66
  rw [hx, nI_clamp (by omega)]
  refine ⟨vp_nI hm (by decide), fun h4 e4 h5 e5 => K h5 ?_⟩
  rw [e5, e4]
  rfl
theorem r_lineD (H : HR hB n ch) {h2 h3 : mH} (f2 : Fr PR hB h2) {m : Nat} (hm1 : 61 ≤ m) (hm : m < 122) {f p0 L0 : Nat} (D : DR h2 n h3 f p0 L0) (e24 : gi h2 53 24 = nI n) {Q : mH → Prop} (K : ∀ h1, TD hB n h1 f → Q h1) : w_X12_line_J66 Q (nI m) h3 := by
  refine r_lineJ H rfl hm (fun h1 e1 => K h1 ?_)
  obtain ⟨fr, hf, e0, -⟩ := D
  have b1 : Nat.ble 61 m = true := Nat.ble_eq.mpr hm1
  rw [e1]
  exact ⟨((f2.tr (fr.mono PE_PR)).si (by simp [PR, b1])).si rfl, e0, hf, (show gi h3 53 24 = nI n by rw [fr.i 53 24 rfl, e24])⟩
theorem r_lineS (H : HR hB n ch) {h2 h3 : mH} (f2 : Fr PR hB h2) {L : List qL} {x : qL} {p1 : Nat} (hL : L.length ≤ 60) (S : SR h2 n h3 p1 0 (fr L ++ (x.1 ++ x.2))) (hp : (fr L).length + (x.1.length + x.2.length) ≤ 200) (e24 : gi h2 53 24 = nI n) (e72 : gi h2 72 1 = nI L.length) (e73 : le_ (gi h2 73) (gi h2 74) 61 0 L) (ex : gi h2 73 (61 + L.length) = nI ((fr L).length + x.1.length)) {Q : mH → Prop} (K : ∀ h1, TR hB n h1 p1 (L ++ [x]) → Q h1) : w_X12_line_J66 Q (nI (61 + L.length)) h3 := by
  refine r_lineJ H rfl (by omega) (fun h1 e1 => K h1 ?_)
  obtain ⟨f, e3, e2, hp1, eo, el, hy⟩ := S
  have b1 : Nat.ble 61 (61 + L.length) = true := Nat.ble_eq.mpr (Nat.le_add_right _ _)
  have q72 : gi h3 72 1 = nI L.length := by rw [f.i 72 1 rfl, e72]
  have q73 : ∀ k, gi h3 73 k = gi h2 73 k := fun k => f.i 73 k rfl
  have q74 : ∀ k, gi h3 74 k = gi h2 74 k := fun k => f.i 74 k rfl
  have frx : fr (L ++ [x]) = fr L ++ (x.1 ++ x.2) := by
    rw [fr_app]
    show fr L ++ (x.1 ++ (x.2 ++ [])) = _
    rw [List.append_nil]
  rw [el, pk_vs, s16 (by rw [List.length_append, List.length_append]; omega), q72, nI_1] at e1
  rw [e1]
  refine ⟨((f2.tr (f.mono PE_PR)).si (by simp [PR, b1])).si rfl, e3, e2, hp1, eo, ?_, ?_, ?_, ?_, (show gi h3 53 24 = nI n by rw [f.i 53 24 rfl, e24])⟩
  · rw [frx]; exact el
  · rw [frx]; exact hy
  · rw [gi_si, if_pos ⟨rfl, rfl⟩, List.length_append, List.length_singleton]
  · refine (le_app L [x] 61 0).mpr ⟨le_co L 61 0 (fun j _ hj => ⟨?_, ?_⟩) e73, ⟨⟨?_, ?_⟩, trivial⟩⟩
    · rw [gi_si, if_neg (by omega), gi_si, if_neg (by omega), q73]
    · rw [gi_si, if_neg (by omega), gi_si, if_neg (by omega), q74]
    · rw [gi_si, if_neg (by omega), gi_si, if_neg (by omega), q73, ex, Nat.zero_add]
    · rw [gi_si, if_neg (by omega), gi_si, if_pos ⟨rfl, rfl⟩, List.length_append, List.length_append, Nat.zero_add, Nat.add_assoc]
theorem r_line (H : HR hB n ch) {p : Nat} {L : List qL} {h : mH} {Q : mH → Prop} (T : TR hB n h p L) (hl : (fr L).length ≤ p) (h2L : 2 * L.length ≤ p) (fa : ∀ f, pli ch n p = .inl f → ∀ h1, TD hB n h1 f → Q h1) (su : ∀ p' x, pli ch n p = .inr (p', x) → ∀ h1, TR hB n h1 p' (L ++ [x]) → Q h1) : w_X12_line h Q := by
  obtain ⟨fB, e26, e25, hp, e27, e28, hy, e72, e73, e24⟩ := T
  have hn := H.1
  have he := H.2.2.2
  have b1 : Nat.ble 61 (61 + L.length) = true := Nat.ble_eq.mpr (Nat.le_add_right _ _)
  unfold w_X12_line
  intro x1 ex1
  rw [e72, show (61 : Int32) = nI 61 from rfl, nI_add] at ex1
  subst ex1
  rw [nI_clamp (by omega), e28, pk_vs, s16 (by omega)]
  refine ⟨vp_nI (by omega) (by decide), fun h2 e2 => ?_⟩
  have f2 : Fr PR hB h2 := by rw [e2]; exact fB.si (by simp [PR, b1])
  have g24 : gi h2 53 24 = nI n := by rw [e2]; exact e24
  have g72 : gi h2 72 1 = nI L.length := by rw [e2]; exact e72
  have g73 : le_ (gi h2 73) (gi h2 74) 61 0 L := le_co L 61 0 (fun j _ hj => by
    rw [e2]
    exact ⟨by rw [gi_si, if_neg (by omega)], by rw [gi_si, if_neg (by omega)]⟩) e73
  have gx73 : gi h2 73 (61 + L.length) = nI ((fr L).length) := by rw [e2, gi_si, if_pos ⟨rfl, rfl⟩]
  have H2 := H.mv f2 g24
  have S2 : SR h2 n h2 p 0 (fr L) := ⟨Fr.rf _ _, by rw [e2]; exact e26, by rw [e2]; exact e25, hp, by rw [e2]; exact e27, by rw [e2]; exact e28, by rw [e2]; exact hy⟩
  refine r_pe H2 p (fr L) h2 _ S2 hl (fun f ef h3 D3 => ?_) (fun p1 l1 ef h3 S3 => ?_)
  · refine ⟨fun _ => r_lineD H f2 (Nat.le_add_right _ _) (by omega) D3 g24 (fun h4 D4 => fa f ?_ h4 D4), fun q => absurd (D3.pos H2) q⟩
    unfold pli
    rw [ef]
  · obtain ⟨a1, a2, a3, a4⟩ := (gd_pe he p hp).2 p1 l1 ef
    refine ⟨fun q => absurd q S3.neg, fun _ => r_look H2 S3 ⟨fun c => ?_, fun c h8 e8 => ?_⟩⟩
    · refine r_lineS (x := ([], l1)) H f2 (by omega) (by rw [show (([] : List qS), l1).1 ++ (([] : List qS), l1).2 = l1 from rfl]; exact S3) (by show _ + (0 + l1.length) ≤ _; omega) g24 g72 g73 gx73 (fun h4 T4 => su p1 _ ?_ h4 T4)
      unfold pli
      rw [ef]
      dsimp only
      rw [if_neg c]
    · have hp1 : p1 < n := ch_lt he (fun q => by rw [q] at c; exact absurd c (by decide))
      have S8 := r_stp S3 hp1 e8
      obtain ⟨f8, i3, i2, -, io, il, iy⟩ := S8
      rw [il, pk_vs, List.length_append, s16 (by omega)]
      refine ⟨vp_nI (by omega) (by decide), fun h9 e9 => ?_⟩
      have f9 : Fr PR hB h9 := by rw [e9]; exact (f2.tr (f8.mono PE_PR)).si (by simp [PR, b1])
      have k24 : gi h9 53 24 = nI n := by rw [e9]; exact (f8.i 53 24 rfl).trans g24
      have k72 : gi h9 72 1 = nI L.length := by rw [e9]; exact (f8.i 72 1 rfl).trans g72
      have k73 : le_ (gi h9 73) (gi h9 74) 61 0 L := le_co L 61 0 (fun j _ hj => by
        rw [e9]
        exact ⟨by rw [gi_si, if_neg (by omega)]; exact f8.i 73 j rfl, by rw [gi_si, if_neg (by omega)]; exact f8.i 74 j rfl⟩) g73
      have kx : gi h9 73 (61 + L.length) = nI ((fr L).length + l1.length) := by rw [e9, gi_si, if_pos ⟨rfl, rfl⟩]
      have H9 := H.mv f9 k24
      have len : (fr L ++ l1).length ≤ p1 + 1 := by rw [List.length_append]; omega
      have S9 : SR h9 n h9 (p1 + 1) 0 (fr L ++ l1) := ⟨Fr.rf _ _, by rw [e9]; exact i3, by rw [e9]; exact i2, hp1, by rw [e9]; exact io, by rw [e9]; exact il, by rw [e9]; exact iy⟩
      refine r_pe H9 (p1 + 1) _ h9 _ S9 len (fun f eg h10 D10 => ?_) (fun p2 l2 eg h10 S10 => ?_)
      · refine r_lineD H f9 (Nat.le_add_right _ _) (by omega) D10 k24 (fun h4 D4 => fa f ?_ h4 D4)
        unfold pli
        rw [ef]
        dsimp only
        rw [if_pos c, eg]
      · obtain ⟨d1, d2, d3, d4⟩ := (gd_pe he (p1 + 1) hp1).2 p2 l2 eg
        rw [List.append_assoc] at S10
        refine r_lineS (x := (l1, l2)) H f9 (by omega) S10 (by show _ + (l1.length + l2.length) ≤ _; omega) k24 k72 k73 kx (fun h4 T4 => su p2 _ ?_ h4 T4)
        unfold pli
        rw [ef]
        dsimp only
        rw [if_pos c, eg]
theorem r_text (H : HR hB n ch) {KK : mH → Prop} {Q : Int32 → mH → Prop} {a : Int32} : ∀ (k p : Nat) (L : List qL) (h : mH) (CC : mH → Prop), (∀ h6, w_X12_readText_L31 KK Q a (k + 1) h6 → CC h6) → n < p + k → TR hB n h p L → (fr L).length ≤ p → 2 * L.length ≤ p →
    (∀ f, px ch n k p L = .inl f → ∀ h1, (TD hB n h1 f ∨ ∃ L', TR hB n h1 f L' ∧ f < n) → KK h1) →
    (∀ L', px ch n k p L = .inr L' → ∀ h1, TR hB n h1 n L' → (fr L').length ≤ n → L'.length ≤ 61 → KK h1) →
    w_X12_line h CC := by
  intro k
  induction k with
  | zero =>
    intro p L h CC hC hk T _ _ _ _
    have := T.2.2.2.1
    omega
  | succ k ih =>
    intro p L h CC hC hk T hl h2L fa su
    have hn := H.1
    have hp := T.2.2.2.1
    have he := H.2.2.2
    refine r_line H T hl h2L (fun f ef h1 D1 => hC h1 ?_) (fun p1 x ef h1 T1 => hC h1 ?_)
    · unfold w_X12_readText_L31
      have hf := D1.2.2.1
      refine ⟨fun _ => fa f (by unfold px; rw [ef]) h1 (Or.inl D1), fun q => absurd ?_ q⟩
      rw [D1.2.1]
      exact nI_pos' (by omega)
    · obtain ⟨a1, a2, a3, a4, a5, a6⟩ := (gd_pli he hp).2 p1 x ef
      have H1 := H.mv T1.1 T1.2.2.2.2.2.2.2.2.2
      have S1 : SR h1 n h1 p1 0 (fr (L ++ [x])) := ⟨Fr.rf _ _, T1.2.1, T1.2.2.1, a2, T1.2.2.2.2.1, T1.2.2.2.2.2.1, T1.2.2.2.2.2.2.1⟩
      have len : (fr (L ++ [x])).length ≤ p1 := by
        rw [fr_app, List.length_append]
        show (fr L).length + (x.1 ++ (x.2 ++ [])).length ≤ _
        rw [List.append_nil, List.length_append]
        omega
      unfold w_X12_readText_L31
      refine ⟨fun q => absurd q S1.neg, fun _ => r_look H1 S1 ⟨fun e => ?_, fun e h9 e9 => ?_⟩⟩
      · by_cases y : p1 < n
        · refine fa p1 ?_ h1 (Or.inr ⟨_, T1, y⟩)
          unfold px
          rw [ef]
          dsimp only
          rw [if_neg e, if_pos y]
        · have e1 : p1 = n := by omega
          subst e1
          refine su (L ++ [x]) ?_ h1 T1 len (by rw [List.length_append, List.length_singleton]; omega)
          unfold px
          rw [ef]
          dsimp only
          rw [if_neg e, if_neg y]
      · have hp1 : p1 < n := ch_lt he (fun q => by rw [q] at e; exact absurd e (by decide))
        obtain ⟨fB, e26, e25, -, e27, e28, hy, e72, e73, e24⟩ := T1
        have T9 : TR hB n h9 (p1 + 1) (L ++ [x]) := by
          rw [e9]
          exact ⟨fB.si rfl, e26, by rw [gi_si, if_pos ⟨rfl, rfl⟩, e25, nI_1], hp1, e27, e28, hy, e72, e73, e24⟩
        refine ih (p1 + 1) (L ++ [x]) h9 _ (fun _ y => y) (by omega) T9 (by omega) (by rw [List.length_append, List.length_singleton]; omega) (fun f e2 => fa f ?_) (fun L' e2 => su L' ?_)
        · unfold px
          rw [ef]
          dsimp only
          rw [if_pos e]
          exact e2
        · unfold px
          rw [ef]
          dsimp only
          rw [if_pos e]
          exact e2
end READ
