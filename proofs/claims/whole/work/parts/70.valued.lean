/-! PURE: the class works a law out as vals says -/
theorem ev1_len {F : Int32 → Int32} {q : qS} {s s' : List Int32} (h : ev1 F q s = some s') : s'.length ≤ s.length + 1 := by
  unfold ev1 at h
  by_cases h1 : nm q.1
  · rw [if_pos h1] at h; cases h; exact Nat.le_refl _
  · rw [if_neg h1] at h
    by_cases h2 : q.1 = 110
    · rw [if_pos h2] at h; cases h; exact Nat.le_refl _
    · rw [if_neg h2] at h
      cases s with
      | nil => cases h
      | cons b s1 =>
        dsimp only at h
        by_cases h3 : q.1 = 33
        · rw [if_pos h3] at h; cases h; exact Nat.le_succ _
        · rw [if_neg h3] at h
          by_cases h4 : q.1 = 126
          · rw [if_pos h4] at h; cases h; exact Nat.le_succ _
          · rw [if_neg h4] at h
            cases s1 with
            | nil => cases h
            | cons a s2 =>
              dsimp only at h
              cases h
              simp only [List.length_cons]
              omega
theorem okq_ne {c : Int32} (h : okq c) : ¬ c = 59 ∧ ¬ c = 63 := by
  rcases h with h | h | h | h | h
  · rcases h with h | h | h | h | h <;> rw [h] <;> decide
  · rw [h]; decide
  · rw [h]; decide
  · rw [h]; decide
  · exact ⟨(bsn_ne h).2.2.2.2.1, (bsn_ne h).2.2.2.2.2⟩
/-- where the class's law stands, while it is worked out -/
def VC (h0 : mH) (v N : Nat) : Prop := (v = 13 ∨ v = 16) ∧ N ≤ 121 ∧ gi h0 9 2 = nI (v + 1) ∧ gi h0 v 2 = nI N
section VAL
variable {h0 : mH} {v N : Nat} {t s e : Int32} {K62 : Int32 → mH → Prop} {K189 : mH → Prop} {Q : Int32 → mH → Prop}
theorem VC.fx (V : VC h0 v N) {h : mH} (f : Fr (cl [10] []) h0 h) : (m_sh v = (7, 3) ∧ gi h 9 2 = nI (v + 1)) ∧ gi h v 2 = nI N ∧ ∀ k, gi h (v + 1) k = gi h0 (v + 1) k ∧ gi h (v + 2) k = gi h0 (v + 2) k := by
  obtain ⟨hv, -, e1, e2⟩ := V
  refine ⟨⟨(vfx hv).1, by rw [f.i 9 2 rfl, e1]⟩, ?_, fun k => ⟨?_, ?_⟩⟩
  · rw [f.i v 2 (by rcases hv with rfl | rfl <;> rfl), e2]
  · exact f.i _ k (by rcases hv with rfl | rfl <;> rfl)
  · exact f.i _ k (by rcases hv with rfl | rfl <;> rfl)
/-- one step, begun: what it is -/
theorem v_at (V : VC h0 v N) {h : mH} (f : Fr (cl [10] []) h0 h) {i m : Nat} (hi : i < N) {l4 l5 : Int32} {c : Int32} (ec : gi h0 (v + 1) i = c)
    (K : (l5 = 0 → ((¬ c = 59 → ((¬ c = 63 → w_X6_isName c h (fun v5 h4 => ((v5 = 0 → ((¬ c = 110 → w_X6_workOut c l4 h4 (fun v7 h6 => (w_X6_valueOf_L9 K62 K189 Q t s e m) v7 l5 (nI (i + 1)) h6)) ∧ (c = 110 → ∃ j8 : Nat, (m_sh j8 = (7, 3) ∧ gi h4 9 2 = nI (j8 + 1)) ∧ vp_in (nI i) (lenOf (rf j8 1)) ∧ w_X6_push l4 (gi h4 (rf j8 1) i) h4 (fun v10 h9 => (w_X6_valueOf_L9 K62 K189 Q t s e m) v10 l5 (nI (i + 1)) h9)))) ∧ (¬ v5 = 0 → w_X6_named c t s e h4 (fun v12 h11 => w_X6_push l4 v12 h11 (fun v14 h13 => (w_X6_valueOf_L9 K62 K189 Q t s e m) v14 l5 (nI (i + 1)) h13)))))) ∧ (c = 63 → ∀ x15 : Int32, x15 = imax 0 (l4 - 1) → vp_in x15 121 ∧ ∀ x16 : Int32, x16 = (if gi h 10 x15.toNatClampNeg = 0 then 1 else 0) → (w_X6_valueOf_L9 K62 K189 Q t s e m) x15 x16 (nI (i + 1)) h))) ∧ (c = 59 → K62 l4 h))) ∧ (¬ l5 = 0 → ∀ x18 : Int32, x18 = (if c = 59 then 0 else 1) → (w_X6_valueOf_L9 K62 K189 Q t s e m) l4 x18 (nI (i + 1)) h)) :
    w_X6_valueOf_L9 K62 K189 Q t s e (m + 1) l4 l5 (nI i) h := by
  obtain ⟨g1, g2, g3⟩ := V.fx f
  have hN := V.2.1
  obtain ⟨-, r0, r1, l1, l2⟩ := vfx V.1
  unfold w_X6_valueOf_L9
  refine ⟨v, g1, ?_⟩
  rw [g2, nl N i (by omega) (by omega)]
  refine ⟨fun q => absurd q (by omega), fun _ => ⟨v, g1, ?_⟩⟩
  rw [r0, l1, nI_clamp (by omega), (g3 i).1, ec, nI_1]
  refine ⟨vp_nI (by omega) (by decide), fun x3 e3 => ?_⟩
  subst e3
  exact K
theorem v_push {h : mH} {p : Nat} (hp : p < 121) (x : Int32) {R : Int32 → mH → Prop} (K : R (nI (p + 1)) (si h 10 p x)) : w_X6_push (nI p) x h R := by
  unfold w_X6_push
  rw [nlt p 121 (by omega) (by decide)]
  refine ⟨fun _ => ⟨vp_nI hp (by decide), fun h1 e1 => ?_⟩, fun q => absurd hp q⟩
  rw [e1, nI_clamp (by omega), nI_1]
  exact K
theorem v_work {h : mH} {p : Nat} (hp : p ≤ 121) {c : Int32} {F : Int32 → Int32} {z : Int32} (hc : ¬ nm c ∧ ¬ c = 110) (ho : okq c) {l l' : List Int32} (hl : l.length = p) (hs : sk (gi h 10) l) (ev : ev1 F (c, z) l = some l') {R : Int32 → mH → Prop} (K : ∀ h1, Fr (cl [10] []) h h1 → sk (gi h1 10) l' → R (nI l'.length) h1) : w_X6_workOut c (nI p) h R := by
  unfold ev1 at ev
  rw [if_neg hc.1, if_neg hc.2] at ev
  cases l with
  | nil => cases ev
  | cons b s1 =>
    dsimp only at ev
    rw [List.length_cons] at hl
    obtain ⟨k, rfl⟩ : ∃ k, p = k + 1 := ⟨p - 1, by omega⟩
    have hk : s1.length = k := by omega
    have top : gi h 10 k = b := by rw [← hk]; exact hs.1
    unfold w_X6_workOut
    have J16 : (c = 33 ∨ c = 126) → w_X6_workOut_J16 R c (nI (k + 1)) h := fun q => by
      unfold w_X6_workOut_J16
      rw [nI_pred, nI_clamp (by omega), top]
      have put : ∀ x : Int32, l' = x :: s1 → R (nI (k + 1)) (si h 10 k x) := fun x e => by
        have := K (si h 10 k x) ((Fr.rf _ _).si rfl) (by
          rw [e]
          exact ⟨by rw [hk, gi_si, if_pos ⟨rfl, rfl⟩], sk_co s1 (fun j hj => by rw [gi_si, if_neg (by omega)]) hs.2⟩)
        rw [e, List.length_cons, hk] at this
        exact this
      refine ⟨vp_nI (by omega) (by decide), fun x4 e4 => ⟨fun y => ?_, fun y => ?_⟩⟩
      · rw [if_pos y] at ev
        intro x5 e5
        refine ⟨vp_nI (by omega) (by decide), fun h6 e6 => ?_⟩
        rw [e6, e5, e4]
        exact put _ (by cases ev; rfl)
      · rw [if_neg y, if_pos (q.resolve_left y)] at ev
        refine ⟨vp_nI (by omega) (by decide), fun h8 e8 => ?_⟩
        rw [e8, e4]
        exact put _ (by cases ev; rfl)
    rw [show (0 : Int32) = nI 0 from rfl, nl _ 0 (by omega) (by decide)]
    refine ⟨fun q => absurd q (by omega), fun _ => ⟨fun q => J16 (Or.inl q), fun n33 => ⟨fun n126 => ?_, fun q => J16 (Or.inr q)⟩⟩⟩
    rw [if_neg n33, if_neg n126] at ev
    cases s1 with
    | nil => cases ev
    | cons a s2 =>
      dsimp only at ev
      rw [List.length_cons] at hk
      obtain ⟨j, rfl⟩ : ∃ j, k = j + 1 := ⟨k - 1, by omega⟩
      have hj : s2.length = j := by omega
      have nx : gi h 10 j = a := by rw [← hj]; exact hs.2.1
      have bs : bsn c := by
        rcases ho with w | w | w | w | w
        · exact absurd w hc.1
        · exact absurd w hc.2
        · exact absurd w n33
        · exact absurd w n126
        · exact w
      have m2 : nI (j + 1 + 1) - 2 = nI j := by
        rw [show (2 : Int32) = nI 2 from rfl, pk_sub (by omega)]
        rfl
      unfold w_X6_workOut_J55
      rw [m2, nI_pred, nI_clamp (by omega), nI_clamp (by omega), top, nx, show (2 : Int32) = nI 2 from rfl, nl 2 _ (by decide) (by omega)]
      refine ⟨fun _ => ⟨vp_nI (by omega) (by decide), vp_nI (by omega) (by decide), e_two11 bs ⟨vp_nI (by omega) (by decide), fun h3 e3 => ?_⟩⟩, fun q => absurd (by omega) q⟩
      cases ev
      have := K h3 (by rw [e3]; exact (Fr.rf _ _).si rfl) (by
        rw [e3]
        exact ⟨by rw [hj, gi_si, if_pos ⟨rfl, rfl⟩], sk_co s2 (fun x hx => by rw [gi_si, if_neg (by omega)]) hs.2.2⟩)
      rw [List.length_cons, hj] at this
      exact this
theorem v_steps (V : VC h0 v N) (m : Nat) : ∀ (l : List qS) (i : Nat) (a a' : List Int32) (h : mH), ly (gi h0 (v + 1)) (gi h0 (v + 2)) i l → (∀ q ∈ l, okq q.1) → i + l.length < N → a.length ≤ i → evs (fct t s e) l a = some a' → Fr (cl [10] []) h0 h → sk (gi h 10) a →
    (∀ h1, Fr (cl [10] []) h0 h1 → sk (gi h1 10) a' → w_X6_valueOf_L9 K62 K189 Q t s e m (nI a'.length) 0 (nI (i + l.length)) h1) → w_X6_valueOf_L9 K62 K189 Q t s e (m + l.length) (nI a.length) 0 (nI i) h := by
  intro l
  induction l with
  | nil =>
    intro i a a' h _ _ _ _ ev f hs K
    cases ev
    exact K h f hs
  | cons q l ih =>
    intro i a a' h hy ho hi ha ev f hs K
    rw [List.length_cons] at hi
    have hN := V.2.1
    obtain ⟨g1, g2, g3⟩ := V.fx f
    obtain ⟨-, r0, r1, l1, l2⟩ := vfx V.1
    obtain ⟨⟨y1, y2⟩, y3⟩ := hy
    have oq := ho q List.mem_cons_self
    have ev' : (ev1 (fct t s e) q a).bind (evs (fct t s e) l) = some a' := ev
    cases e1 : ev1 (fct t s e) q a with
    | none => rw [e1] at ev'; cases ev'
    | some b =>
      rw [e1] at ev'
      have ev2 : evs (fct t s e) l b = some a' := ev'
      have lb := ev1_len e1
      have go : ∀ h1, Fr (cl [10] []) h h1 → sk (gi h1 10) b → w_X6_valueOf_L9 K62 K189 Q t s e (m + l.length) (nI b.length) 0 (nI (i + 1)) h1 := fun h1 f1 s1 => by
        refine ih (i + 1) b a' h1 y3 (fun x hx => ho x (List.mem_cons_of_mem _ hx)) (by omega) (by omega) ev2 (f.tr f1) s1 (fun h2 f2 s2 => ?_)
        have := K h2 f2 s2
        rw [List.length_cons, show i + (l.length + 1) = i + 1 + l.length by omega] at this
        exact this
      have pu : ∀ x : Int32, b = x :: a → w_X6_push (nI a.length) x h (fun v10 h9 => w_X6_valueOf_L9 K62 K189 Q t s e (m + l.length) v10 0 (nI (i + 1)) h9) := fun x ex => by
        refine v_push (by omega) x ?_
        have := go (si h 10 a.length x) ((Fr.rf _ _).si rfl) (by
          rw [ex]
          exact ⟨by rw [gi_si, if_pos ⟨rfl, rfl⟩], sk_co a (fun j hj => by rw [gi_si, if_neg (by omega)]) hs⟩)
        rw [ex, List.length_cons] at this
        exact this
      rw [List.length_cons, show m + (l.length + 1) = m + l.length + 1 by omega]
      refine v_at V f (by omega) y1 ⟨fun _ => ⟨fun _ => ⟨fun _ => e_isName (fun c => ⟨fun w => absurd w (by decide), fun _ => e_named (pu _ ?_)⟩) (fun c => ⟨fun _ => ⟨fun c2 => ?_, fun c2 => ⟨v, g1, ?_⟩⟩, fun w => absurd rfl w⟩), fun w => absurd w (okq_ne oq).2⟩, fun w => absurd w (okq_ne oq).1⟩, fun w => absurd rfl w⟩
      · unfold ev1 at e1
        rw [if_pos c] at e1
        cases e1
        rfl
      · exact v_work (by omega) ⟨c, c2⟩ oq rfl hs (show ev1 (fct t s e) (q.1, q.2) a = some b from e1) (fun h1 f1 s1 => go h1 f1 s1)
      · rw [r1, l2, (g3 i).2, y2]
        refine ⟨vp_nI (by omega) (by decide), pu _ ?_⟩
        unfold ev1 at e1
        rw [if_neg c, if_pos c2] at e1
        cases e1
        rfl
theorem v_over (V : VC h0 v N) (m : Nat) {p : Int32} : ∀ (l : List qS) (i : Nat) (h : mH), ly (gi h0 (v + 1)) (gi h0 (v + 2)) i l → (∀ q ∈ l, okq q.1) → i + l.length < N → Fr (cl [10] []) h0 h →
    w_X6_valueOf_L9 K62 K189 Q t s e m p 1 (nI (i + l.length)) h → w_X6_valueOf_L9 K62 K189 Q t s e (m + l.length) p 1 (nI i) h := by
  intro l
  induction l with
  | nil => intro i h _ _ _ _ K; exact K
  | cons q l ih =>
    intro i h hy ho hi f K
    rw [List.length_cons] at hi K ⊢
    obtain ⟨⟨y1, y2⟩, y3⟩ := hy
    rw [show m + (l.length + 1) = m + l.length + 1 by omega]
    refine v_at V f (by omega) y1 ⟨fun w => absurd w (by decide), fun _ x18 e18 => ?_⟩
    rw [if_neg (okq_ne (ho q List.mem_cons_self)).1] at e18
    rw [e18]
    refine ih (i + 1) h y3 (fun x hx => ho x (List.mem_cons_of_mem _ hx)) (by omega) f ?_
    rw [show i + 1 + l.length = i + (l.length + 1) by omega]
    exact K
/-- the lines from one on -/
theorem v_lines (V : VC h0 v N) (k62 : ∀ x h, Fr (cl [10] []) h0 h → gi h 10 0 = x → K62 (nI 1) h → True) (hK : ∀ h, Fr (cl [10] []) h0 h → (∀ x, gi h 10 0 = x → Q x h) → K62 (nI 1) h) (hE : ∀ h, Q 0 h → K189 h) : ∀ (r : List qL) (i : Nat) (h : mH), (∀ x ∈ r, gx x.2 ∧ (x.1 = [] ∨ gx x.1)) → ly (gi h0 (v + 1)) (gi h0 (v + 2)) i (fl r) → i + (fl r).length = N → Fr (cl [10] []) h0 h →
    (∀ h1, Fr (cl [10] []) h0 h1 → Q (vals (fct t s e) r) h1) → w_X6_valueOf_L9 K62 K189 Q t s e ((fl r).length + 1) 0 0 (nI i) h := by
  intro r
  induction r with
  | nil =>
    intro i h _ _ hi f K
    have hi' : i = N := hi
    subst hi'
    have hN := V.2.1
    obtain ⟨g1, g2, -⟩ := V.fx f
    unfold w_X6_valueOf_L9
    refine ⟨v, g1, ?_⟩
    rw [g2]
    exact ⟨fun _ => hE h (K h f), fun q => absurd ((nl _ _ (by omega) (by omega)).mpr (Nat.le_refl _)) q⟩
  | cons x r ih =>
    intro i h hg hy hi f K
    have hN := V.2.1
    have hx := hg x List.mem_cons_self
    have efl : fl (x :: r) = tq x.1 ++ (x.2 ++ (59, 0) :: fl r) := rfl
    rw [efl] at hy hi ⊢
    obtain ⟨ya, yb⟩ := (ly_app _ _ _).mp hy
    obtain ⟨yc, yd⟩ := (ly_app _ _ _).mp yb
    obtain ⟨⟨ye, -⟩, yf⟩ := yd
    rw [List.length_append, List.length_append, List.length_cons] at hi ⊢
    have ye' : gi h0 (v + 1) (i + (tq x.1).length + x.2.length) = 59 := ye
    -- the line's second part, worked out
    have body : ∀ h1, Fr (cl [10] []) h0 h1 → vals (fct t s e) (x :: r) = lv (fct t s e) x.2 → w_X6_valueOf_L9 K62 K189 Q t s e ((fl r).length + 1 + 1 + x.2.length) 0 0 (nI (i + (tq x.1).length)) h1 := fun h1 f1 ev => by
      refine v_steps (a := []) (a' := [lv (fct t s e) x.2]) V _ x.2 _ h1 yc hx.1.1 (by omega) (Nat.zero_le _) (lv_gx hx.1 []) f1 trivial (fun h2 f2 s2 => ?_)
      refine v_at V f2 (by omega) ye' ⟨fun _ => ⟨fun w => absurd rfl w, fun _ => hK h2 f2 (fun y hy => ?_)⟩, fun w => absurd rfl w⟩
      have := K h2 f2
      rw [ev] at this
      rw [← hy, show gi h2 10 0 = lv (fct t s e) x.2 from s2.1]
      exact this
    by_cases c1 : x.1 = []
    · have e0 : tq x.1 = [] := by rw [c1]; rfl
      have := body h f (by
        show (if x.1.length = 0 ∨ _ then _ else _) = _
        rw [if_pos (Or.inl (by rw [c1]; rfl))])
      rw [e0] at this ⊢
      rw [show List.length ([] : List qS) + (x.2.length + ((fl r).length + 1)) + 1 = (fl r).length + 1 + 1 + x.2.length by simp only [List.length_nil]; omega]
      exact this
    · have g1 := hx.2.resolve_left c1
      have etq : tq x.1 = x.1 ++ [(63, 0)] := by
        cases hc : x.1 with
        | nil => exact absurd hc c1
        | cons a t => rfl
      have ltq : (tq x.1).length = x.1.length + 1 := by rw [etq, List.length_append, List.length_singleton]
      rw [etq] at ya
      obtain ⟨ya1, ⟨ya2, -⟩, -⟩ := (ly_app _ _ _).mp ya
      have ya2' : gi h0 (v + 1) (i + x.1.length) = 63 := ya2
      rw [show (tq x.1).length + (x.2.length + ((fl r).length + 1)) + 1 = ((fl r).length + 1 + 1 + x.2.length + 1) + x.1.length by omega]
      refine v_steps (a := []) (a' := [lv (fct t s e) x.1]) V _ x.1 _ h ya1 g1.1 (by omega) (Nat.zero_le _) (lv_gx g1 []) f trivial (fun h2 f2 s2 => ?_)
      refine v_at V f2 (by omega) ya2' ⟨fun _ => ⟨fun _ => ⟨fun w => absurd rfl w, fun _ x15 e15 => ?_⟩, fun w => absurd w (by decide)⟩, fun w => absurd rfl w⟩
      have e15' : x15 = 0 := e15.trans (by
        show imax 0 (nI (0 + 1) - 1) = 0
        rw [nI_pred]
        decide)
      subst e15'
      refine ⟨vpd (by decide), fun x16 e16 => ?_⟩
      have top : gi h2 10 0 = lv (fct t s e) x.1 := s2.1
      have l0 : ¬ x.1.length = 0 := fun q => c1 (List.eq_nil_of_length_eq_zero q)
      rw [show ((0 : Int32).toNatClampNeg) = 0 from rfl, top] at e16
      have ei : i + x.1.length + 1 = i + (tq x.1).length := by omega
      rw [ei]
      by_cases c2 : lv (fct t s e) x.1 = 0
      · rw [if_pos c2] at e16
        subst e16
        refine v_over V _ x.2 _ h2 yc hx.1.1 (by omega) f2 ?_
        refine v_at V f2 (by omega) ye' ⟨fun w => absurd w (by decide), fun _ x18 e18 => ?_⟩
        rw [if_pos rfl] at e18
        subst e18
        refine ih _ h2 (fun y hy => hg y (List.mem_cons_of_mem _ hy)) yf (by omega) f2 (fun h3 f3 => ?_)
        have := K h3 f3
        have ev : vals (fct t s e) (x :: r) = vals (fct t s e) r := by
          show (if x.1.length = 0 ∨ _ then _ else _) = _
          rw [if_neg (fun w => w.elim l0 (fun z => z c2))]
        rw [ev] at this
        exact this
      · rw [if_neg c2] at e16
        subst e16
        exact body h2 f2 (by
          show (if x.1.length = 0 ∨ _ then _ else _) = _
          rw [if_pos (Or.inr c2)])
theorem v_value {L : List qL} (hv : v = 13 ∨ v = 16) (e92 : gi h0 9 2 = nI (v + 1)) (g : ∀ x ∈ L, gx x.2 ∧ (x.1 = [] ∨ gx x.1)) (hl : (fl L).length ≤ 121) (e2 : gi h0 v 2 = nI (fl L).length) (hy : ly (gi h0 (v + 1)) (gi h0 (v + 2)) 0 (fl L)) (K : ∀ h1, Fr (cl [10] []) h0 h1 → Q (vals (fct t s e) L) h1) : w_X6_valueOf t s e h0 Q := by
  have V : VC h0 v (fl L).length := ⟨hv, hl, e92, e2⟩
  unfold w_X6_valueOf
  refine ⟨(fl L).length + 1, v_lines V (fun _ _ _ _ _ => trivial) (fun h f k => ?_) (fun h k => k) L 0 h0 g hy (Nat.zero_add _) (Fr.rf _ _) K⟩
  refine ⟨fun q => absurd q (by decide), fun _ => ⟨vpd (by decide), ?_⟩⟩
  exact k _ rfl
end VAL
