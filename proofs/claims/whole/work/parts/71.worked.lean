/-! PURE: the reference works a law out as vals says -/
theorem nix_lt (c : Int32) : nix c < 5 := by
  unfold nix
  by_cases h1 : c = 116
  · rw [if_pos h1]; omega
  · rw [if_neg h1]
    by_cases h2 : c = 104
    · rw [if_pos h2]; omega
    · rw [if_neg h2]
      by_cases h3 : c = 109
      · rw [if_pos h3]; omega
      · rw [if_neg h3]
        by_cases h4 : c = 115
        · rw [if_pos h4]; omega
        · rw [if_neg h4]; omega
theorem bsn_14 {c : Int32} (h : bsn c) : ¬ c = 1 ∧ ¬ c = 2 ∧ ¬ c = 3 ∧ ¬ c = 4 := by
  rcases h with h | h | h | h | h | h | h | h | h | h <;> rw [h] <;> decide
section VAL
variable {h0 : mH} {F : Int32 → Int32} {K188 : mH → Prop} {Q : Int32 → mH → Prop}
theorem u_steps (hF : ∀ c, nm c → gi h0 75 (nix c) = F c) {E : Nat} (hE : E ≤ 121) (m : Nat) : ∀ (l : List qS) (i : Nat) (a a' : List Int32) (h : mH), ly (gi h0 70) (gi h0 71) i (l.map rcq) → (∀ q ∈ l, okq q.1) → i + l.length ≤ E → a.length ≤ i → evs F l a = some a' → Fr (cl [76] []) h0 h → sk (gi h 76) a →
    (∀ h1, Fr (cl [76] []) h0 h1 → sk (gi h1 76) a' → w_X12_worked_L12 K188 Q 0 (nI E) m (nI a'.length) (nI (i + l.length)) h1) → w_X12_worked_L12 K188 Q 0 (nI E) (m + l.length) (nI a.length) (nI i) h := by
  intro l
  induction l with
  | nil =>
    intro i a a' h _ _ _ _ ev f hs K
    cases ev
    exact K h f hs
  | cons q l ih =>
    intro i a a' h hy ho hi ha ev f hs K
    rw [List.length_cons] at hi
    obtain ⟨⟨y1, y2⟩, y3⟩ := hy
    have oq := ho q List.mem_cons_self
    have ev' : (ev1 F q a).bind (evs F l) = some a' := ev
    cases e1 : ev1 F q a with
    | none => rw [e1] at ev'; cases ev'
    | some b =>
      rw [e1] at ev'
      have ev2 : evs F l b = some a' := ev'
      have lb := ev1_len e1
      have go : ∀ h1, Fr (cl [76] []) h h1 → sk (gi h1 76) b → w_X12_worked_L12 K188 Q 0 (nI E) (m + l.length) (nI b.length) (nI (i + 1)) h1 := fun h1 f1 s1 => by
        refine ih (i + 1) b a' h1 y3 (fun x hx => ho x (List.mem_cons_of_mem _ hx)) (by omega) (by omega) ev2 (f.tr f1) s1 (fun h2 f2 s2 => ?_)
        have := K h2 f2 s2
        rw [List.length_cons, show i + (l.length + 1) = i + 1 + l.length by omega] at this
        exact this
      have pu : ∀ x : Int32, b = x :: a → w_X12_worked_L12 K188 Q 0 (nI E) (m + l.length) (nI (a.length + 1)) (nI (i + 1)) (si h 76 a.length x) := fun x ex => by
        have := go (si h 76 a.length x) ((Fr.rf _ _).si rfl) (by
          rw [ex]
          exact ⟨by rw [gi_si, if_pos ⟨rfl, rfl⟩], sk_co a (fun j hj => by rw [gi_si, if_neg (by omega)]) hs⟩)
        rw [ex, List.length_cons] at this
        exact this
      rw [List.length_cons, show m + (l.length + 1) = m + l.length + 1 by omega]
      unfold w_X12_worked_L12
      rw [m0, nl E i (by omega) (by omega), nI_clamp (show i < 2 ^ 31 by omega), f.i 70 i rfl, y1, nI_1]
      refine ⟨fun w => absurd w (by omega), fun _ => ⟨vp_nI (by omega) (by decide), fun x2 e2 => ?_⟩⟩
      subst e2
      have k71 : gi h 71 i = (rcq q).2 := by rw [f.i 71 i rfl]; exact y2
      unfold ev1 at e1
      by_cases c : nm q.1
      · have er : rcq q = (2, nI (nix q.1)) := by unfold rcq; rw [if_pos c]
        rw [if_pos c] at e1
        rw [er] at k71 ⊢
        dsimp only at k71 ⊢
        have hx := nix_lt q.1
        refine ⟨fun w => absurd w (by decide), fun _ => ⟨fun w => absurd rfl w, fun _ => ?_⟩⟩
        unfold w_X12_worked_J45
        refine ⟨fun _ => ⟨vp_nI (by omega) (by decide), ?_⟩, fun w => absurd w (by decide)⟩
        rw [nI_clamp (show i < 2 ^ 31 by omega), k71, nI_clamp (show nix q.1 < 2 ^ 31 by omega), f.i 75 _ rfl, hF _ c, nI_clamp (show a.length < 2 ^ 31 by omega), nI_1, nI_1]
        refine ⟨vp_nI hx (by decide), vp_nI (by omega) (by decide), fun h3 e3 => ?_⟩
        rw [e3]
        exact pu _ (by cases e1; rfl)
      · rw [if_neg c] at e1
        by_cases c2 : q.1 = 110
        · have er : rcq q = (1, q.2) := by unfold rcq; rw [if_neg c, if_pos c2]
          rw [if_pos c2] at e1
          rw [er] at k71 ⊢
          refine ⟨fun _ => ?_, fun w => absurd rfl w⟩
          unfold w_X12_worked_J45
          refine ⟨fun w => absurd rfl w, fun _ => ⟨vp_nI (by omega) (by decide), ?_⟩⟩
          rw [nI_clamp (show i < 2 ^ 31 by omega), k71, nI_clamp (show a.length < 2 ^ 31 by omega), nI_1, nI_1]
          refine ⟨vp_nI (by omega) (by decide), fun h3 e3 => ?_⟩
          rw [e3]
          exact pu _ (by cases e1; rfl)
        · rw [if_neg c2] at e1
          cases a with
          | nil => cases e1
          | cons b0 s1 =>
            dsimp only at e1
            rw [List.length_cons] at ha ⊢
            have top : gi h 76 s1.length = b0 := hs.1
            have put : ∀ x : Int32, b = x :: s1 → w_X12_worked_L12 K188 Q 0 (nI E) (m + l.length) (nI (s1.length + 1)) (nI (i + 1)) (si h 76 s1.length x) := fun x ex => by
              have := go (si h 76 s1.length x) ((Fr.rf _ _).si rfl) (by
                rw [ex]
                exact ⟨by rw [gi_si, if_pos ⟨rfl, rfl⟩], sk_co s1 (fun j hj => by rw [gi_si, if_neg (by omega)]) hs.2⟩)
              rw [ex, List.length_cons] at this
              exact this
            by_cases c3 : q.1 = 33
            · have er : rcq q = (3, 0) := by unfold rcq; rw [if_neg c, if_neg c2, if_pos c3]
              rw [if_pos c3] at e1
              rw [er]
              refine ⟨fun w => absurd w (by decide), fun _ => ⟨fun _ => ⟨fun w => absurd rfl w, fun _ => ?_⟩, fun w => absurd w (by decide)⟩⟩
              rw [nI_pred, nI_clamp (show s1.length < 2 ^ 31 by omega), top]
              refine ⟨vp_nI (by omega) (by decide), fun x9 e9 => ⟨vp_nI (by omega) (by decide), fun h10 e10 => ?_⟩⟩
              rw [e10, e9]
              exact put _ (by cases e1; rfl)
            · rw [if_neg c3] at e1
              by_cases c4 : q.1 = 126
              · have er : rcq q = (4, 0) := by unfold rcq; rw [if_neg c, if_neg c2, if_neg c3, if_pos c4]
                rw [if_pos c4] at e1
                rw [er]
                refine ⟨fun w => absurd w (by decide), fun _ => ⟨fun _ => ⟨fun _ => ⟨fun w => absurd rfl w, fun _ => ?_⟩, fun w => absurd w (by decide)⟩, fun w => absurd w (by decide)⟩⟩
                rw [nI_pred, nI_clamp (show s1.length < 2 ^ 31 by omega), top]
                refine ⟨vp_nI (by omega) (by decide), vp_nI (by omega) (by decide), fun h8 e8 => ?_⟩
                rw [e8]
                exact put _ (by cases e1; rfl)
              · have er : rcq q = (q.1, 0) := by unfold rcq; rw [if_neg c, if_neg c2, if_neg c3, if_neg c4]
                rw [if_neg c4] at e1
                rw [er]
                have bs : bsn q.1 := by
                  rcases oq with w | w | w | w | w
                  · exact absurd w c
                  · exact absurd w c2
                  · exact absurd w c3
                  · exact absurd w c4
                  · exact w
                obtain ⟨b1, b2, b3, b4⟩ := bsn_14 bs
                cases s1 with
                | nil => cases e1
                | cons a0 s2 =>
                  dsimp only at e1
                  rw [List.length_cons] at ha top ⊢
                  have nx : gi h 76 s2.length = a0 := hs.2.1
                  refine ⟨fun w => absurd w b1, fun _ => ⟨fun _ => ⟨fun _ => ⟨fun _ => ?_, fun w => absurd w b4⟩, fun w => absurd w b3⟩, fun w => absurd w b2⟩⟩
                  rw [pk_m1, nI_pred, nI_clamp (show s2.length < 2 ^ 31 by omega), nI_clamp (show s2.length + 1 < 2 ^ 31 by omega), top, nx]
                  refine ⟨vp_nI (by omega) (by decide), vp_nI (by omega) (by decide), e_two12 bs ⟨vp_nI (by omega) (by decide), fun h7 e7 => ?_⟩⟩
                  cases e1
                  have := go h7 (by rw [e7]; exact (Fr.rf _ _).si rfl) (by
                    rw [e7]
                    exact ⟨by rw [gi_si, if_pos ⟨rfl, rfl⟩], sk_co s2 (fun x hx => by rw [gi_si, if_neg (by omega)]) hs.2.2⟩)
                  rw [List.length_cons] at this
                  exact this
theorem u_worked (hF : ∀ c, nm c → gi h0 75 (nix c) = F c) {l : List qS} {a b : Nat} {h : mH} (hb : b = a + l.length) (hE : b ≤ 121) (hy : ly (gi h0 70) (gi h0 71) a (l.map rcq)) (g : gx l) (f : Fr (cl [76] []) h0 h) (K : ∀ h1, Fr (cl [76] []) h0 h1 → Q (lv F l) h1) : w_X12_worked 0 (nI a) (nI b) h Q := by
  unfold w_X12_worked
  intro x1 e1
  rw [m0] at e1
  subst e1
  refine ⟨1 + l.length, u_steps hF hE 1 l a [] [lv F l] h hy g.1 (by omega) (Nat.zero_le _) (lv_gx g []) f trivial (fun h1 f1 s1 => ?_)⟩
  unfold w_X12_worked_L12
  rw [m0, nl b _ (by omega) (by omega)]
  refine ⟨fun _ => ?_, fun q => absurd (by omega) q⟩
  rw [show gi h1 76 0 = lv F l from s1.1]
  exact K h1 f1
theorem u_lines (hF : ∀ c, nm c → gi h0 75 (nix c) = F c) {M : Nat} (hM : M ≤ 61) (e72 : gi h0 72 0 = nI M) : ∀ (r : List qL) (k a : Nat) (h : mH), (∀ x ∈ r, gx x.2 ∧ (x.1 = [] ∨ gx x.1)) → le_ (gi h0 73) (gi h0 74) k a r → ly (gi h0 70) (gi h0 71) a ((fr r).map rcq) → k + r.length = M → a + (fr r).length ≤ 121 → Fr (cl [76] []) h0 h →
    (∀ h1, Fr (cl [76] []) h0 h1 → Q (vals F r) h1) → w_X12_gives_L7 (fun l3_5 h6 => vp_in l3_5 122 ∧ vp_in l3_5 122 ∧ w_X12_worked 0 (gi h6 73 l3_5.toNatClampNeg) (gi h6 74 l3_5.toNatClampNeg) h6 (fun v8 h7 => Q v8 h7)) (fun h9 => Q 0 h9) Q 0 (r.length + 1) (nI a) (nI k) h := by
  intro r
  induction r with
  | nil =>
    intro k a h _ _ _ hk _ f K
    have hk' : k = M := hk
    subst hk'
    unfold w_X12_gives_L7
    rw [show ((0 : Int32).toNatClampNeg) = 0 from rfl, f.i 72 0 rfl, e72, show (61 : Int32) * 0 + nI k = nI k from m0 _ _]
    exact ⟨vpd (by decide), fun _ => K h f, fun q => absurd ((nl _ _ (by omega) (by omega)).mpr (Nat.le_refl _)) q⟩
  | cons x r ih =>
    intro k a h hg hl hy hk ha f K
    rw [List.length_cons] at hk ⊢
    have hx := hg x List.mem_cons_self
    obtain ⟨⟨l1, l2⟩, l3⟩ := hl
    have efr : fr (x :: r) = x.1 ++ (x.2 ++ fr r) := rfl
    rw [efr] at hy ha
    rw [List.map_append, List.map_append] at hy
    obtain ⟨ya, yb⟩ := (ly_app _ _ _).mp hy
    obtain ⟨yc, yd⟩ := (ly_app _ _ _).mp yb
    rw [List.length_map] at yb yc yd
    rw [List.length_map] at yd
    rw [List.length_append, List.length_append] at ha
    have g73 : ∀ {h1}, Fr (cl [76] []) h0 h1 → gi h1 73 k = nI (a + x.1.length) := fun {h1} f1 => by rw [f1.i 73 k rfl]; exact l1
    have g74 : ∀ {h1}, Fr (cl [76] []) h0 h1 → gi h1 74 k = nI (a + x.1.length + x.2.length) := fun {h1} f1 => by rw [f1.i 74 k rfl]; exact l2
    have body : ∀ h1, Fr (cl [76] []) h0 h1 → vals F (x :: r) = lv F x.2 → (vp_in (nI k) 122 ∧ vp_in (nI k) 122 ∧ w_X12_worked 0 (gi h1 73 k) (gi h1 74 k) h1 (fun v8 h7 => Q v8 h7)) := fun h1 f1 ev => by
      rw [g73 f1, g74 f1]
      refine ⟨vp_nI (by omega) (by decide), vp_nI (by omega) (by decide), u_worked hF rfl (by omega) yc hx.1 f1 (fun h2 f2 => ?_)⟩
      have := K h2 f2
      rw [ev] at this
      exact this
    unfold w_X12_gives_L7
    rw [show ((0 : Int32).toNatClampNeg) = 0 from rfl, f.i 72 0 rfl, e72, show (61 : Int32) * 0 + nI M = nI M from m0 _ _, nl M k (by omega) (by omega), nI_clamp (show k < 2 ^ 31 by omega), g73 f, nn _ a (by omega) (by omega), nI_1]
    refine ⟨vpd (by decide), fun q => absurd q (by omega), fun _ => ⟨vp_nI (by omega) (by decide), fun q => ?_, fun q => ⟨vp_nI (by omega) (by decide), ?_⟩⟩⟩
    · have := body h f (by
        show (if x.1.length = 0 ∨ _ then _ else _) = _
        rw [if_pos (Or.inl (by omega))])
      rw [g73 f] at this
      exact this
    · have c1 : ¬ x.1 = [] := fun w => q (by rw [w]; rfl)
      have l0 : ¬ x.1.length = 0 := fun w => q (by omega)
      refine u_worked hF rfl (by omega) ya (hx.2.resolve_left c1) f (fun h2 f2 => ⟨fun c2 => ⟨vp_nI (by omega) (by decide), fun x4 e4 => ?_⟩, fun c2 => body h2 f2 (by
        show (if x.1.length = 0 ∨ _ then _ else _) = _
        rw [if_pos (Or.inr c2)])⟩)
      rw [g74 f2] at e4
      rw [e4]
      refine ih (k + 1) _ h2 (fun y hy => hg y (List.mem_cons_of_mem _ hy)) l3 yd (by omega) (by omega) f2 (fun h3 f3 => ?_)
      have := K h3 f3
      have ev : vals F (x :: r) = vals F r := by
        show (if x.1.length = 0 ∨ _ then _ else _) = _
        rw [if_neg (fun w => w.elim l0 (fun z => z c2))]
      rw [ev] at this
      exact this
theorem u_gives {L : List qL} (hF : ∀ c, nm c → gi h0 75 (nix c) = F c) (g : ∀ x ∈ L, gx x.2 ∧ (x.1 = [] ∨ gx x.1)) (hl : (fr L).length ≤ 121) (hL : L.length ≤ 61) (e72 : gi h0 72 0 = nI L.length) (hy : ly (gi h0 70) (gi h0 71) 0 ((fr L).map rcq)) (e73 : le_ (gi h0 73) (gi h0 74) 0 0 L) (K : ∀ h1, Fr (cl [76] []) h0 h1 → Q (vals F L) h1) : w_X12_gives 0 h0 Q := by
  unfold w_X12_gives
  intro x1 e1
  have e1' : x1 = nI 0 := by rw [e1]; decide
  subst e1'
  exact ⟨L.length + 1, u_lines hF hL e72 L 0 0 h0 g e73 hy (Nat.zero_add _) (by omega) (Fr.rf _ _) K⟩
end VAL
