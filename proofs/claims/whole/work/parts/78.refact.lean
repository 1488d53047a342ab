/-! PURE: act, the reference's half, and both together -/
abbrev tr2 (h : mH) (l : List Int32) : mH := tgs 53 51 85 h l
theorem td1 {h : mH} {a : Int32} {l : List Int32} : tr2 h ([a] ++ l) = tr2 (tg 53 51 85 h a) l := rfl
theorem td2 {h : mH} {a b : Int32} {l : List Int32} : tr2 h ([a, b] ++ l) = tr2 (tg 53 51 85 (tg 53 51 85 h a) b) l := rfl
theorem td3 {h : mH} {a b c : Int32} {l : List Int32} : tr2 h ([a, b, c] ++ l) = tr2 (tg 53 51 85 (tg 53 51 85 (tg 53 51 85 h a) b) c) l := rfl
def isQ (h : mH) (b k : Nat) : Prop := b < 50 ∧ gi h 84 b = nI k ∧ k < 8
theorem isQ.mv {h s : mH} {b k : Nat} (w : isQ h b k) (f : Fr (cl [85] [(53, 51)]) h s) : isQ s b k := ⟨w.1, by rw [f.i 84 b rfl]; exact w.2.1, w.2.2⟩
theorem x_ran {h : mH} {n : Int32} {Q : mH → Prop} {B : Nat} (C : cnt 53 51 h B) (hB : B < 1000) (K : Q (tg 53 51 85 h n)) : w_X12_ran n h Q := by
  obtain ⟨m, hm, e⟩ := C
  unfold w_X12_ran
  refine ⟨fun q h1 e1 => ?_, fun q => ⟨?_, fun h2 e2 h3 e3 => ?_⟩⟩
  · unfold tg at K
    rw [if_pos q] at K
    rw [e1]
    exact K
  · rw [e] at q ⊢
    rw [show (24 : Int32) = nI 24 from rfl, nl 24 m (by decide) (by omega)] at q
    exact vp_nI (by omega) (by decide)
  · unfold tg at K
    rw [if_neg q] at K
    rw [e3, e2]
    exact K
section REF
variable {k B : Nat} {b x : Int32} {h : mH} {Q : Int32 → mH → Prop}
theorem x_ps (C : cnt 53 51 h B) (hB : B < 1000) (K : Q (x + b) (tg 53 51 85 h 1)) : w_X12_plainShows b x h Q := x_ran C hB K
theorem x_bs (C : cnt 53 51 h B) (hB : B < 900) (K : Q ((x + b) * 2) (tg 53 51 85 (tg 53 51 85 h 70) 1)) : w_X12_boyShows b x h Q := x_ran C (by omega) (x_ps (cnt_tg 70 C) (by omega) K)
theorem x_pw (C : cnt 53 51 h B) (hB : B < 1000) (K : Q (x ^^^ b) (tg 53 51 85 h 11)) : w_X12_plainWalks b x h Q := x_ran C hB K
theorem x_fw (C : cnt 53 51 h B) (hB : B < 900) (K : Q ((x ^^^ b) * 3) (tg 53 51 85 (tg 53 51 85 h 40) 11)) : w_X12_fogWalks b x h Q := x_ran C (by omega) (x_pw (cnt_tg 40 C) (by omega) K)
end REF
section REF2
variable {k b B : Nat} {x : Int32} {h : mH} {Q : Int32 → mH → Prop}
theorem x_sh (w : isQ h b k) (C : cnt 53 51 h B) (hB : B < 800) (K : Q (shV k (nI b) x) (tr2 h (shL k))) : w_X12_showing (nI b) x h Q := by
  obtain ⟨hb, e, hk⟩ := w
  have vb : vp_in (nI b) 50 := vp_nI hb (by decide)
  unfold w_X12_showing
  rw [nI_clamp (by omega), e]
  refine ⟨vb, e_12_under (top := 1) (by omega) (by decide) h _ ?_⟩
  rw [e]
  rcases kinds hk with rfl | rfl | rfl | rfl | rfl | rfl | rfl | rfl
  · exact ⟨fun _ => ⟨vb, ⟨fun _ => ⟨vb, ⟨fun _ => x_ps C (by omega) K, fun z => absurd z (by decide)⟩⟩, fun z => absurd z (by decide)⟩⟩, fun z => absurd rfl z⟩
  · exact ⟨fun z => absurd z (by decide), fun _ => x_ran C (by omega) (x_ps (cnt_tg 20 C) (by omega) K)⟩
  · exact ⟨fun _ => ⟨vb, ⟨fun _ => ⟨vb, ⟨fun _ => x_ps C (by omega) K, fun z => absurd z (by decide)⟩⟩, fun z => absurd z (by decide)⟩⟩, fun z => absurd rfl z⟩
  · exact ⟨fun _ => ⟨vb, ⟨fun _ => ⟨vb, ⟨fun _ => x_ps C (by omega) K, fun z => absurd z (by decide)⟩⟩, fun z => absurd z (by decide)⟩⟩, fun z => absurd rfl z⟩
  · exact ⟨fun z => absurd z (by decide), fun _ => x_ran C (by omega) (x_ps (cnt_tg 20 C) (by omega) K)⟩
  · exact ⟨fun _ => ⟨vb, ⟨fun _ => ⟨vb, ⟨fun _ => x_ps C (by omega) K, fun z => absurd z (by decide)⟩⟩, fun z => absurd z (by decide)⟩⟩, fun z => absurd rfl z⟩
  · exact ⟨fun _ => ⟨vb, ⟨fun _ => ⟨vb, ⟨fun z => absurd rfl z, fun _ => x_bs C (by omega) K⟩⟩, fun z => absurd z (by decide)⟩⟩, fun z => absurd rfl z⟩
  · exact ⟨fun _ => ⟨vb, ⟨fun z => absurd rfl z, fun _ => x_ran C (by omega) (x_bs (cnt_tg 81 C) (by omega) K)⟩⟩, fun z => absurd rfl z⟩
theorem x_wk (w : isQ h b k) (C : cnt 53 51 h B) (hB : B < 700) (K : Q (wkV k (nI b) x) (tr2 h (wkL k))) : w_X12_walking (nI b) x h Q := by
  have w0 := w
  obtain ⟨hb, e, hk⟩ := w
  have vb : vp_in (nI b) 50 := vp_nI hb (by decide)
  unfold w_X12_walking
  rw [nI_clamp (by omega), e]
  refine ⟨vb, ?_⟩
  by_cases k5 : k = 5
  · subst k5
    refine ⟨fun z => absurd rfl z, fun _ => x_ran C (by omega) (x_fw (cnt_tg 60 C) (by omega) ?_)⟩
    rw [show wkL 5 = [60, 40, 11] ++ shL 5 from rfl, td3, show wkV 5 (nI b) x = (x ^^^ nI b) * 3 - shV 5 (nI b) 2 from rfl] at K
    exact x_sh (((w0.mv (Fr_tg 60)).mv (Fr_tg 40)).mv (Fr_tg 11)) (cnt_tg 11 (cnt_tg 40 (cnt_tg 60 C))) (by omega) K
  · refine ⟨fun _ => ⟨vb, ?_⟩, fun z => absurd ((nn k 5 (by omega) (by decide)).mp z) k5⟩
    unfold wkV wkL at K
    rw [if_neg k5, if_neg k5] at K
    by_cases k3 : k = 3
    · rw [if_pos k3, if_pos k3] at K
      exact ⟨fun z => absurd ((nn k 3 (by omega) (by decide)).mpr k3) z, fun _ => x_fw C (by omega) K⟩
    · rw [if_neg k3, if_neg k3] at K
      exact ⟨fun _ => x_pw C (by omega) K, fun z => absurd ((nn k 3 (by omega) (by decide)).mp z) k3⟩
theorem x_pp (w : isQ h b k) (C : cnt 53 51 h B) (hB : B < 700) (K : Q (shV k (nI b) x * 2) (tr2 (tg 53 51 85 h 10) (shL k))) : w_X12_plainParts (nI b) x h Q :=
  x_ran C (by omega) (x_sh (w.mv (Fr_tg 10)) (cnt_tg 10 C) (by omega) K)
theorem x_hp (w : isQ h b k) (C : cnt 53 51 h B) (hB : B < 600) (K : Q (-(shV k (nI b) x * 2)) (tr2 (tg 53 51 85 (tg 53 51 85 h 30) 10) (shL k))) : w_X12_hillParts (nI b) x h Q :=
  x_ran C (by omega) (x_pp (Q := fun v3 h2 => Q (-v3) h2) (w.mv (Fr_tg 30)) (cnt_tg 30 C) (by omega) K)
theorem x_pt (w : isQ h b k) (C : cnt 53 51 h B) (hB : B < 500) (K : Q (ptV k (nI b) x) (tr2 h (ptL k))) : w_X12_parting (nI b) x h Q := by
  have w0 := w
  obtain ⟨hb, e, hk⟩ := w
  have vb : vp_in (nI b) 50 := vp_nI hb (by decide)
  unfold w_X12_parting
  rw [nI_clamp (by omega), e]
  refine ⟨vb, e_12_under (top := 3) (by omega) (by decide) h _ ?_⟩
  rw [e]
  rcases kinds hk with rfl | rfl | rfl | rfl | rfl | rfl | rfl | rfl
  · rw [show ptL 0 = [10] ++ shL 0 from rfl, td1, show ptV 0 (nI b) x = shV 0 (nI b) x * 2 from rfl] at K
    exact ⟨fun _ => ⟨vb, ⟨fun _ => ⟨vb, ⟨fun _ => x_pp w0 C (by omega) K, fun z => absurd z (by decide)⟩⟩, fun z => absurd z (by decide)⟩⟩, fun z => absurd rfl z⟩
  · rw [show ptL 1 = [10] ++ shL 1 from rfl, td1, show ptV 1 (nI b) x = shV 1 (nI b) x * 2 from rfl] at K
    exact ⟨fun _ => ⟨vb, ⟨fun _ => ⟨vb, ⟨fun _ => x_pp w0 C (by omega) K, fun z => absurd z (by decide)⟩⟩, fun z => absurd z (by decide)⟩⟩, fun z => absurd rfl z⟩
  · rw [show ptL 2 = [30, 10] ++ shL 2 from rfl, td2, show ptV 2 (nI b) x = -(shV 2 (nI b) x * 2) from rfl] at K
    exact ⟨fun _ => ⟨vb, ⟨fun _ => ⟨vb, ⟨fun z => absurd rfl z, fun _ => x_hp w0 C (by omega) K⟩⟩, fun z => absurd z (by decide)⟩⟩, fun z => absurd rfl z⟩
  · rw [show ptL 3 = [41, 30, 10] ++ shL 3 from rfl, td3, show ptV 3 (nI b) x = -(shV 3 (nI b) (x + 1) * 2) from rfl] at K
    exact ⟨fun z => absurd z (by decide), fun _ => x_ran C (by omega) (x_hp (w0.mv (Fr_tg 41)) (cnt_tg 41 C) (by omega) K)⟩
  · rw [show ptL 4 = [10] ++ shL 4 from rfl, td1, show ptV 4 (nI b) x = shV 4 (nI b) x * 2 from rfl] at K
    exact ⟨fun _ => ⟨vb, ⟨fun _ => ⟨vb, ⟨fun _ => x_pp w0 C (by omega) K, fun z => absurd z (by decide)⟩⟩, fun z => absurd z (by decide)⟩⟩, fun z => absurd rfl z⟩
  · rw [show ptL 5 = [41, 30, 10] ++ shL 5 from rfl, td3, show ptV 5 (nI b) x = -(shV 5 (nI b) (x + 1) * 2) from rfl] at K
    exact ⟨fun z => absurd z (by decide), fun _ => x_ran C (by omega) (x_hp (w0.mv (Fr_tg 41)) (cnt_tg 41 C) (by omega) K)⟩
  · rw [show ptL 6 = [10] ++ shL 6 from rfl, td1, show ptV 6 (nI b) x = shV 6 (nI b) x * 2 from rfl] at K
    exact ⟨fun _ => ⟨vb, ⟨fun _ => ⟨vb, ⟨fun _ => x_pp w0 C (by omega) K, fun z => absurd z (by decide)⟩⟩, fun z => absurd z (by decide)⟩⟩, fun z => absurd rfl z⟩
  · refine ⟨fun _ => ⟨vb, ⟨fun z => absurd rfl z, fun _ => x_ran C (by omega) (x_pp (w0.mv (Fr_tg 80)) (cnt_tg 80 C) (by omega) ?_)⟩⟩, fun z => absurd rfl z⟩
    rw [show ptL 7 = [80, 10] ++ (shL 7 ++ wkL 7) from rfl, td2, show ptV 7 (nI b) x = shV 7 (nI b) x * 2 + wkV 7 (nI b) 2 from rfl] at K
    unfold tr2 at K ⊢
    rw [tgs_app] at K
    have C5 := cnt_tgs (r := 85) (shL 7) (cnt_tg (r := 85) 10 (cnt_tg (r := 85) 80 C))
    have l7 : (shL 7).length = 3 := by decide
    exact x_wk (((w0.mv (Fr_tg 80)).mv (Fr_tg 10)).mv (Fr_tgs (shL 7) _)) C5 (by omega) K
theorem x_pl (w : isQ h b k) (C : cnt 53 51 h B) (hB : B < 450) (K : Q (ptV k (nI b) x - wkV k (nI b) 1) (tr2 (tr2 (tg 53 51 85 h 2) (ptL k)) (wkL k))) : w_X12_plainTells (nI b) x h Q := by
  have ln := lens k w.2.2
  have w1 := w.mv (Fr_tg 2)
  have C1 := cnt_tg (r := 85) 2 C
  exact x_ran C (by omega) (x_pt w1 C1 (by omega) (x_wk (w1.mv (Fr_tgs (ptL k) _)) (cnt_tgs (r := 85) (ptL k) C1) (by omega) K))
theorem x_tl (w : isQ h b k) (C : cnt 53 51 h B) (hB : B < 400) (K : Q (tlV k (nI b) x) (tr2 h (tlL k))) : w_X12_telling (nI b) x h Q := by
  have w0 := w
  obtain ⟨hb, e, hk⟩ := w
  have vb : vp_in (nI b) 50 := vp_nI hb (by decide)
  have e2 : ∀ l : List Int32, tr2 h (l ++ ptL k ++ wkL k) = tr2 (tr2 (tr2 h l) (ptL k)) (wkL k) := fun l => by
    unfold tr2
    rw [tgs_app, tgs_app]
  unfold w_X12_telling
  rw [nI_clamp (by omega), e]
  refine ⟨vb, ?_⟩
  unfold tlV tlL at K
  by_cases k4 : k = 4
  · rw [if_pos k4, if_pos k4, e2] at K
    exact ⟨fun z => absurd ((nn k 4 (by omega) (by decide)).mpr k4) z, fun _ => x_ran C (by omega) (x_pl (w0.mv (Fr_tg 50)) (cnt_tg 50 C) (by omega) K)⟩
  · rw [if_neg k4, if_neg k4] at K
    refine ⟨fun _ => ⟨vb, ?_⟩, fun z => absurd ((nn k 4 (by omega) (by decide)).mp z) k4⟩
    by_cases k5 : k = 5
    · rw [if_pos k5, if_pos k5, e2] at K
      exact ⟨fun z => absurd ((nn k 5 (by omega) (by decide)).mpr k5) z, fun _ => x_ran C (by omega) (x_pl (w0.mv (Fr_tg 61)) (cnt_tg 61 C) (by omega) K)⟩
    · rw [if_neg k5, if_neg k5, e2] at K
      exact ⟨fun _ => x_pl w0 C (by omega) K, fun z => absurd ((nn k 5 (by omega) (by decide)).mp z) k5⟩
end REF2
/-- what an act leaves -/
theorem act_inv {i : Nat} {h s : mH} (r : Inv i h) (l : List Int32) (hl : l.length ≤ 24) (e : s = tr2 (si (tc (si h 37 3 0) l) 53 51 0) l) : Inv (i + 1) s := by
  have f1 : Fr (cl [39] [(37, 3)]) h (tc (si h 37 3 0) l) := ((Fr.rf _ h).si rfl).tr (Fr_tgs l _)
  have f2 : Fr (cl [85] [(53, 51)]) (tc (si h 37 3 0) l) s := by
    rw [e]
    exact ((Fr.rf _ _).si rfl).tr (Fr_tgs l _)
  have f : Fr (cl [39, 85] [(37, 3), (53, 51)]) h s := by
    refine (f1.mono (fun a k q => ?_)).tr (f2.mono (fun a k q => ?_))
    · unfold cl at q ⊢
      simp at q ⊢
      exact ⟨q.1.1, q.2.1⟩
    · unfold cl at q ⊢
      simp at q ⊢
      exact ⟨q.1.2, q.2.2⟩
  obtain ⟨a1, a2⟩ := tgs_row (o := 37) (k := 3) (r := 39) (by decide) l (si h 37 3 0) 0 (by omega) (by rw [gi_si, if_pos ⟨rfl, rfl⟩]; rfl)
  obtain ⟨b1, b2⟩ := tgs_row (o := 53) (k := 51) (r := 85) (by decide) l (si (tc (si h 37 3 0) l) 53 51 0) 0 (by omega) (by rw [gi_si, if_pos ⟨rfl, rfl⟩]; rfl)
  rw [← show s = tgs 53 51 85 (si (tc (si h 37 3 0) l) 53 51 0) l from e] at b1 b2
  rw [Nat.zero_add] at a1 b1
  have hx : RX s := ⟨l.length, by omega, by rw [f2.i 37 3 rfl]; exact a1, b1, fun j hj hj2 => by
    rw [f2.i 39 j rfl, b2 j hj2, a2 j hj2, if_pos ⟨by omega, by omega⟩, if_pos ⟨by omega, by omega⟩]⟩
  exact ⟨r.1.ag (Fr.ag f rfl), (r.2.1.up (Nat.le_succ i)).ag (Fr.ag f rfl), r.2.2.1.ag (Fr.ag f rfl), r.2.2.2.1.ag (Fr.ag f rfl), r.2.2.2.2.1.ag (Fr.ag f rfl), r.2.2.2.2.2.1.ag (Fr.ag f rfl), r.2.2.2.2.2.2.1.ag (Fr.ag f rfl), (r.2.2.2.2.2.2.2.1.up (Nat.le_succ i)).ag (Fr.ag f rfl), r.2.2.2.2.2.2.2.2.1.ag (Fr.ag f rfl), hx, r.2.2.2.2.2.2.2.2.2.2.ag (Fr.ag f rfl)⟩
theorem J_act {i : Nat} {h : mH} (r : Inv i h) (a b c : Int32) : w_X11_act a b c h (fun v h1 => w_X12_act a b c h1 (fun w h2 => v = w ∧ Inv (i + 1) h2)) := by
  obtain ⟨n, hn, c1, d1, e1⟩ := r.2.2.2.2.2.2.2.2.1
  have q1 : gi (si h 37 3 0) 37 2 = nI n := c1
  have C0 : cnt 37 3 (si h 37 3 0) 0 := ⟨0, Nat.le_refl _, rfl⟩
  have hz : Inv (i + 1) (si (si h 37 3 0) 53 51 0) := act_inv r [] (by decide) rfl
  have hbd : (¬ a < 0 ∧ a < nI n) ↔ inR a 0 (nI n - 1) := one_inR _ (by
    rw [Int32.toInt_sub, nI_toInt (by omega)]
    have : ((1 : Int32)).toInt = 1 := rfl
    rw [this]
    rw [Int.bmod_eq_of_le (by omega) (by omega)]
    omega)
  have hba : (¬ b < 0 ∧ b < 4) ↔ inR b 0 3 := one_inR 3 rfl
  unfold w_X11_act w_X0_actOf
  intro h1 eh
  rw [eh, e_11_one, q1]
  -- the reference on any contents that a class's act has left
  have ref : ∀ (l : List Int32) (v : Int32), l.length ≤ 24 → (inR a 0 (nI n - 1) → inR b 0 3 → ∀ k j, a = nI j → j < n → isQ (si (tc (si h 37 3 0) l) 53 51 0) j k → (b = 0 → l = shL k ∧ v = shV k (nI j) c) ∧ (b = 1 → l = ptL k ∧ v = ptV k (nI j) c) ∧ (b = 2 → l = wkL k ∧ v = wkV k (nI j) c) ∧ (b = 3 → l = tlL k ∧ v = tlV k (nI j) c)) → (¬ (inR a 0 (nI n - 1) ∧ inR b 0 3) → l = [] ∧ v = 0) → w_X12_act a b c (tc (si h 37 3 0) l) (fun w h2 => v = w ∧ Inv (i + 1) h2) := by
    intro l v hl g f
    have fr : Fr (cl [39] [(37, 3)]) h (tc (si h 37 3 0) l) := ((Fr.rf _ h).si rfl).tr (Fr_tgs l _)
    unfold w_X12_act
    intro h3 e3
    have iv : ∀ v2, v = v2 → v = v2 ∧ Inv (i + 1) (tr2 h3 l) := fun v2 e => ⟨e, act_inv r l hl (by rw [e3])⟩
    have d2 : gi h3 53 49 = nI n := by rw [e3, gi_si, if_neg (by decide), fr.i 53 49 rfl]; exact d1
    unfold w_X12_isBody
    rw [e_12_in, d2]
    refine ⟨bi_01 _, b0 (fun q => ?_) (fun q => ?_)⟩
    · obtain ⟨rfl, rfl⟩ := f (fun z => q z.1)
      exact iv 0 rfl
    · rw [e_12_in]
      refine b1 (fun qb => ?_) (fun qb => ?_)
      · obtain ⟨p1, p2⟩ := hbd.mpr q
        obtain ⟨j, hj, rfl⟩ := nI_of p1
        have hjn := (nlt j n hj (by omega)).mp p2
        obtain ⟨k, hk, ek⟩ := inR_nI (N := 7) rfl (by decide) (e1 j hjn).2
        have w : isQ h3 j k := by
          refine ⟨by omega, ?_, by omega⟩
          rw [e3, gi_si, if_neg (by rintro ⟨z, _⟩; cases z), fr.i 84 j rfl]
          exact ek
        have C : cnt 53 51 h3 0 := ⟨0, Nat.le_refl _, by rw [e3]; rfl⟩
        obtain ⟨g0, g1, g2, g3⟩ := g q qb k j rfl hjn (e3 ▸ w)
        obtain ⟨m, hm, rfl⟩ := inR_nI (N := 3) rfl (by decide) qb
        rcases (show m = 0 ∨ m = 1 ∨ m = 2 ∨ m = 3 by omega) with rfl | rfl | rfl | rfl
        · obtain ⟨rfl, rfl⟩ := g0 rfl
          exact ⟨fun z => absurd rfl z, fun _ => x_sh w C (by decide) (iv _ rfl)⟩
        · obtain ⟨rfl, rfl⟩ := g1 rfl
          exact ⟨fun _ => ⟨fun z => absurd rfl z, fun _ => x_pt w C (by decide) (iv _ rfl)⟩, fun z => absurd z (by decide)⟩
        · obtain ⟨rfl, rfl⟩ := g2 rfl
          exact ⟨fun _ => ⟨fun _ => ⟨fun z => absurd rfl z, fun _ => x_wk w C (by decide) (iv _ rfl)⟩, fun z => absurd z (by decide)⟩, fun z => absurd z (by decide)⟩
        · obtain ⟨rfl, rfl⟩ := g3 rfl
          exact ⟨fun _ => ⟨fun _ => ⟨fun _ => x_tl w C (by decide) (iv _ rfl), fun z => absurd z (by decide)⟩, fun z => absurd z (by decide)⟩, fun z => absurd z (by decide)⟩
      · obtain ⟨rfl, rfl⟩ := f (fun z => qb z.2)
        exact iv 0 rfl
  have no : ¬ (inR a 0 (nI n - 1) ∧ inR b 0 3) → w_X12_act a b c (si h 37 3 0) (fun w h2 => 0 = w ∧ Inv (i + 1) h2) := fun q => ref [] 0 (by decide) (fun z1 z2 => absurd ⟨z1, z2⟩ q) (fun _ => ⟨rfl, rfl⟩)
  refine b0 (fun q => no (fun z => q (hbd.mpr z.1))) (fun q => ?_)
  rw [e_11_one]
  refine b0 (fun qb => no (fun z => qb (hba.mpr z.2))) (fun qb => ?_)
  obtain ⟨j, hj, rfl⟩ := nI_of q.1
  have hjn := (nlt j n hj (by omega)).mp q.2
  obtain ⟨k, hk, ek⟩ := inR_nI (N := 7) rfl (by decide) (e1 j hjn).2
  have w : isB (si h 37 3 0) j k := ⟨n, hn, hjn, c1, by
    show gi h 38 j = nI k
    rw [(e1 j hjn).1]
    exact ek, by omega⟩
  have uk : ∀ {l : List Int32} {k2 j2 : Nat}, nI j = nI j2 → j2 < n → isQ (si (tc (si h 37 3 0) l) 53 51 0) j2 k2 → k2 = k ∧ j2 = j := fun {l k2 j2} ej hj2 w2 => by
    have ee := (nn j j2 hj (by omega)).mp ej
    subst ee
    have fr : Fr (cl [39] [(37, 3)]) h (tc (si h 37 3 0) l) := ((Fr.rf _ h).si rfl).tr (Fr_tgs l _)
    have e5 := w2.2.1
    rw [gi_si, if_neg (by rintro ⟨z, _⟩; cases z), fr.i 84 j rfl, ek] at e5
    exact ⟨((nn k k2 (by omega) (by have := w2.2.2; omega)).mp e5).symm, rfl⟩
  have ln := lens k (by omega)
  obtain ⟨m, hm, rfl⟩ := inR_nI (N := 3) rfl (by decide) (hba.mp qb)
  have yes : ∀ z, ¬ (inR (nI j) 0 (nI n - 1) ∧ inR (nI m) 0 3) → z := fun _ z => absurd ⟨hbd.mp q, hba.mp qb⟩ z
  rcases (show m = 0 ∨ m = 1 ∨ m = 2 ∨ m = 3 by omega) with rfl | rfl | rfl | rfl
  · refine k_own w (c_sh (N := 41) (d := 0) (by omega) (by decide) C0 (by decide) (ref _ _ (by omega) (fun _ _ k2 j2 ej hj2 w2 => ?_) (yes _)))
    obtain ⟨rfl, rfl⟩ := uk ej hj2 w2
    exact ⟨fun _ => ⟨rfl, rfl⟩, fun z => absurd z (by decide), fun z => absurd z (by decide), fun z => absurd z (by decide)⟩
  · refine k_own w (c_pt (N := 27) (d := 0) w (by decide) C0 (by decide) (ref _ _ (by omega) (fun _ _ k2 j2 ej hj2 w2 => ?_) (yes _)))
    obtain ⟨rfl, rfl⟩ := uk ej hj2 w2
    exact ⟨fun z => absurd z (by decide), fun _ => ⟨rfl, rfl⟩, fun z => absurd z (by decide), fun z => absurd z (by decide)⟩
  · refine k_own w (c_wk (N := 35) (d := 0) w (by decide) C0 (by decide) (ref _ _ (by omega) (fun _ _ k2 j2 ej hj2 w2 => ?_) (yes _)))
    obtain ⟨rfl, rfl⟩ := uk ej hj2 w2
    exact ⟨fun z => absurd z (by decide), fun z => absurd z (by decide), fun _ => ⟨rfl, rfl⟩, fun z => absurd z (by decide)⟩
  · refine k_own w (c_tl (N := 21) (d := 0) w (by decide) C0 (by decide) (ref _ _ (by omega) (fun _ _ k2 j2 ej hj2 w2 => ?_) (yes _)))
    obtain ⟨rfl, rfl⟩ := uk ej hj2 w2
    exact ⟨fun z => absurd z (by decide), fun z => absurd z (by decide), fun z => absurd z (by decide), fun _ => ⟨rfl, rfl⟩⟩
