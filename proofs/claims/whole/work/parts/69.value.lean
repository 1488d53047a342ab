/-! PURE: what a law gives, both ways -/
def lv (F : Int32 → Int32) (l : List qS) : Int32 := match evs F l [] with
  | some (x :: _) => x
  | _ => 0
theorem lv_gx {F : Int32 → Int32} {l : List qS} (h : gx l) (s : List Int32) : evs F l s = some (lv F l :: s) := by
  obtain ⟨x, hx⟩ := h.2 F
  unfold lv
  rw [hx [], hx s]
def vals (F : Int32 → Int32) : List qL → Int32
  | [] => 0
  | x :: r => if x.1.length = 0 ∨ ¬ lv F x.1 = 0 then lv F x.2 else vals F r
def sk (g : Nat → Int32) : List Int32 → Prop
  | [] => True
  | v :: s => g s.length = v ∧ sk g s
theorem sk_co {g g' : Nat → Int32} : ∀ (s : List Int32), (∀ j, j < s.length → g' j = g j) → sk g s → sk g' s := by
  intro s
  induction s with
  | nil => intro _ _; trivial
  | cons v s ih =>
    intro h a
    rw [List.length_cons] at h
    exact ⟨(h _ (by omega)).trans a.1, ih (fun j hj => h j (by omega)) a.2⟩
theorem div_m1 (a : Int32) : a / (-1) = -a := by
  have : (-1 : Int32).toInt = -1 := by decide
  rw [← Int32.toInt_inj, Int32.toInt_div, this, Int.tdiv_neg, Int.tdiv_one, Int32.toInt_neg]
theorem irm_m1 (a : Int32) : irm a (-1) = 0 := by
  unfold irm
  rw [div_m1, Int32.neg_mul_neg, Int32.mul_one, Int32.sub_self]
theorem e_two11 {c a b : Int32} (hc : bsn c) {h : mH} {Q : Int32 → mH → Prop} (K : Q (two c a b) h) : w_X6_joined c a b h Q := by
  unfold w_X6_joined
  unfold two at K
  rcases hc with e | e | e | e | e | e | e | e | e | e <;> subst e
  · rw [if_pos rfl] at K
    refine ⟨fun _ => ⟨fun q => ?_, fun q x1 e1 => ?_⟩, fun q => absurd q (by decide), fun q => absurd q (by decide), fun q => absurd q (by decide), fun q => absurd q (by decide), fun q => absurd q (by decide), fun q => absurd q (by decide), fun q => absurd q (by decide), fun q => absurd q (by decide), fun q => absurd rfl (q 124 (by decide))⟩
    · rw [if_neg q] at K; exact K
    · rw [if_pos q] at K; rw [e1]; exact K
  · rw [if_neg (by decide), if_pos rfl] at K
    refine ⟨fun q => absurd q (by decide), fun _ => ⟨fun q => ?_, fun q x1 e1 => ?_⟩, fun q => absurd q (by decide), fun q => absurd q (by decide), fun q => absurd q (by decide), fun q => absurd q (by decide), fun q => absurd q (by decide), fun q => absurd q (by decide), fun q => absurd q (by decide), fun q => absurd rfl (q 38 (by decide))⟩
    · rw [if_pos q] at K; exact K
    · rw [if_neg q] at K; rw [e1]; exact K
  · rw [if_neg (by decide), if_neg (by decide), if_pos rfl] at K
    exact ⟨fun q => absurd q (by decide), fun q => absurd q (by decide), fun _ x7 e7 => by rw [e7]; exact K, fun q => absurd q (by decide), fun q => absurd q (by decide), fun q => absurd q (by decide), fun q => absurd q (by decide), fun q => absurd q (by decide), fun q => absurd q (by decide), fun q => absurd rfl (q 60 (by decide))⟩
  · rw [if_neg (by decide), if_neg (by decide), if_neg (by decide), if_pos rfl] at K
    exact ⟨fun q => absurd q (by decide), fun q => absurd q (by decide), fun q => absurd q (by decide), fun _ x7 e7 => by rw [e7]; exact K, fun q => absurd q (by decide), fun q => absurd q (by decide), fun q => absurd q (by decide), fun q => absurd q (by decide), fun q => absurd q (by decide), fun q => absurd rfl (q 61 (by decide))⟩
  · rw [if_neg (by decide), if_neg (by decide), if_neg (by decide), if_neg (by decide), if_pos rfl] at K
    exact ⟨fun q => absurd q (by decide), fun q => absurd q (by decide), fun q => absurd q (by decide), fun q => absurd q (by decide), fun _ x7 e7 => by rw [e7]; exact K, fun q => absurd q (by decide), fun q => absurd q (by decide), fun q => absurd q (by decide), fun q => absurd q (by decide), fun q => absurd rfl (q 62 (by decide))⟩
  · rw [if_neg (by decide), if_neg (by decide), if_neg (by decide), if_neg (by decide), if_neg (by decide), if_pos rfl] at K
    exact ⟨fun q => absurd q (by decide), fun q => absurd q (by decide), fun q => absurd q (by decide), fun q => absurd q (by decide), fun q => absurd q (by decide), fun _ => K, fun q => absurd q (by decide), fun q => absurd q (by decide), fun q => absurd q (by decide), fun q => absurd rfl (q 43 (by decide))⟩
  · rw [if_neg (by decide), if_neg (by decide), if_neg (by decide), if_neg (by decide), if_neg (by decide), if_neg (by decide), if_pos rfl] at K
    exact ⟨fun q => absurd q (by decide), fun q => absurd q (by decide), fun q => absurd q (by decide), fun q => absurd q (by decide), fun q => absurd q (by decide), fun q => absurd q (by decide), fun _ => K, fun q => absurd q (by decide), fun q => absurd q (by decide), fun q => absurd rfl (q 45 (by decide))⟩
  · rw [if_neg (by decide), if_neg (by decide), if_neg (by decide), if_neg (by decide), if_neg (by decide), if_neg (by decide), if_neg (by decide), if_pos rfl] at K
    exact ⟨fun q => absurd q (by decide), fun q => absurd q (by decide), fun q => absurd q (by decide), fun q => absurd q (by decide), fun q => absurd q (by decide), fun q => absurd q (by decide), fun q => absurd q (by decide), fun _ => K, fun q => absurd q (by decide), fun q => absurd rfl (q 42 (by decide))⟩
  · rw [if_neg (by decide), if_neg (by decide), if_neg (by decide), if_neg (by decide), if_neg (by decide), if_neg (by decide), if_neg (by decide), if_neg (by decide), if_pos rfl] at K
    refine ⟨fun q => absurd q (by decide), fun q => absurd q (by decide), fun q => absurd q (by decide), fun q => absurd q (by decide), fun q => absurd q (by decide), fun q => absurd q (by decide), fun q => absurd q (by decide), fun q => absurd q (by decide), fun _ => ⟨fun q => ⟨q, ?_⟩, fun q => ?_⟩, fun q => absurd rfl (q 47 (by decide))⟩
    · rw [if_neg q] at K; exact K
    · rw [if_pos q] at K; exact K
  · rw [if_neg (by decide), if_neg (by decide), if_neg (by decide), if_neg (by decide), if_neg (by decide), if_neg (by decide), if_neg (by decide), if_neg (by decide), if_neg (by decide)] at K
    refine ⟨fun q => absurd q (by decide), fun q => absurd q (by decide), fun q => absurd q (by decide), fun q => absurd q (by decide), fun q => absurd q (by decide), fun q => absurd q (by decide), fun q => absurd q (by decide), fun q => absurd q (by decide), fun q => absurd q (by decide), fun _ => ⟨fun q => ⟨q, ?_⟩, fun q => ?_⟩⟩
    · rw [if_neg q] at K; exact K
    · rw [if_pos q] at K; exact K
theorem e_two12 {c a b : Int32} (hc : bsn c) {h : mH} {Q : Int32 → mH → Prop} (K : Q (two c a b) h) : w_X12_twoOf c a b h Q := by
  unfold w_X12_twoOf
  unfold two at K
  rcases hc with e | e | e | e | e | e | e | e | e | e <;> subst e
  · rw [if_pos rfl] at K
    refine ⟨fun q => absurd q (by decide), fun q => absurd q (by decide), fun q => absurd q (by decide), fun q => absurd q (by decide), fun q => absurd q (by decide), fun q => absurd q (by decide), fun q => absurd q (by decide), fun q => absurd q (by decide), fun q => absurd q (by decide), fun _ => ⟨fun q => ?_, fun q x1 e1 => ?_⟩⟩
    · rw [if_neg q] at K; exact K
    · rw [if_pos q] at K; rw [e1]; exact K
  · rw [if_neg (by decide), if_pos rfl] at K
    refine ⟨fun q => absurd q (by decide), fun q => absurd q (by decide), fun q => absurd q (by decide), fun q => absurd q (by decide), fun q => absurd q (by decide), fun q => absurd q (by decide), fun q => absurd q (by decide), fun q => absurd q (by decide), fun _ => ⟨fun q => ?_, fun q x1 e1 => ?_⟩, fun q => absurd rfl (q 38 (by decide))⟩
    · rw [if_pos q] at K; exact K
    · rw [if_neg q] at K; rw [e1]; exact K
  · rw [if_neg (by decide), if_neg (by decide), if_pos rfl] at K
    exact ⟨fun q => absurd q (by decide), fun q => absurd q (by decide), fun q => absurd q (by decide), fun q => absurd q (by decide), fun q => absurd q (by decide), fun _ x7 e7 => by rw [e7]; exact K, fun q => absurd q (by decide), fun q => absurd q (by decide), fun q => absurd q (by decide), fun q => absurd rfl (q 60 (by decide))⟩
  · rw [if_neg (by decide), if_neg (by decide), if_neg (by decide), if_pos rfl] at K
    exact ⟨fun q => absurd q (by decide), fun q => absurd q (by decide), fun q => absurd q (by decide), fun q => absurd q (by decide), fun q => absurd q (by decide), fun q => absurd q (by decide), fun _ x7 e7 => by rw [e7]; exact K, fun q => absurd q (by decide), fun q => absurd q (by decide), fun q => absurd rfl (q 61 (by decide))⟩
  · rw [if_neg (by decide), if_neg (by decide), if_neg (by decide), if_neg (by decide), if_pos rfl] at K
    exact ⟨fun q => absurd q (by decide), fun q => absurd q (by decide), fun q => absurd q (by decide), fun q => absurd q (by decide), fun q => absurd q (by decide), fun q => absurd q (by decide), fun q => absurd q (by decide), fun _ x7 e7 => by rw [e7]; exact K, fun q => absurd q (by decide), fun q => absurd rfl (q 62 (by decide))⟩
  · rw [if_neg (by decide), if_neg (by decide), if_neg (by decide), if_neg (by decide), if_neg (by decide), if_pos rfl] at K
    exact ⟨fun _ => K, fun q => absurd q (by decide), fun q => absurd q (by decide), fun q => absurd q (by decide), fun q => absurd q (by decide), fun q => absurd q (by decide), fun q => absurd q (by decide), fun q => absurd q (by decide), fun q => absurd q (by decide), fun q => absurd rfl (q 43 (by decide))⟩
  · rw [if_neg (by decide), if_neg (by decide), if_neg (by decide), if_neg (by decide), if_neg (by decide), if_neg (by decide), if_pos rfl] at K
    exact ⟨fun q => absurd q (by decide), fun _ => K, fun q => absurd q (by decide), fun q => absurd q (by decide), fun q => absurd q (by decide), fun q => absurd q (by decide), fun q => absurd q (by decide), fun q => absurd q (by decide), fun q => absurd q (by decide), fun q => absurd rfl (q 45 (by decide))⟩
  · rw [if_neg (by decide), if_neg (by decide), if_neg (by decide), if_neg (by decide), if_neg (by decide), if_neg (by decide), if_neg (by decide), if_pos rfl] at K
    exact ⟨fun q => absurd q (by decide), fun q => absurd q (by decide), fun _ => K, fun q => absurd q (by decide), fun q => absurd q (by decide), fun q => absurd q (by decide), fun q => absurd q (by decide), fun q => absurd q (by decide), fun q => absurd q (by decide), fun q => absurd rfl (q 42 (by decide))⟩
  · rw [if_neg (by decide), if_neg (by decide), if_neg (by decide), if_neg (by decide), if_neg (by decide), if_neg (by decide), if_neg (by decide), if_neg (by decide), if_pos rfl] at K
    refine ⟨fun q => absurd q (by decide), fun q => absurd q (by decide), fun q => absurd q (by decide), fun _ => ⟨fun q => ⟨fun _ => ⟨q, ?_⟩, fun z => ?_⟩, fun q => ?_⟩, fun q => absurd q (by decide), fun q => absurd q (by decide), fun q => absurd q (by decide), fun q => absurd q (by decide), fun q => absurd q (by decide), fun q => absurd rfl (q 47 (by decide))⟩
    · rw [if_neg q] at K; exact K
    · rw [if_neg q, z, div_m1] at K; exact K
    · rw [if_pos q] at K; exact K
  · rw [if_neg (by decide), if_neg (by decide), if_neg (by decide), if_neg (by decide), if_neg (by decide), if_neg (by decide), if_neg (by decide), if_neg (by decide), if_neg (by decide)] at K
    refine ⟨fun q => absurd q (by decide), fun q => absurd q (by decide), fun q => absurd q (by decide), fun q => absurd q (by decide), fun _ => ⟨fun q => ?_, fun q => ⟨fun _ => ⟨q, ?_⟩, fun z => ?_⟩⟩, fun q => absurd q (by decide), fun q => absurd q (by decide), fun q => absurd q (by decide), fun q => absurd q (by decide), fun q => absurd rfl (q 37 (by decide))⟩
    · rw [if_pos q] at K; exact K
    · rw [if_neg q] at K; exact K
    · rw [if_neg q, z, irm_m1] at K; exact K
theorem e_isName {c : Int32} {h : mH} {Q : Int32 → mH → Prop} (y : nm c → Q 1 h) (z : ¬ nm c → Q 0 h) : w_X6_isName c h Q := by
  unfold w_X6_isName
  exact ⟨fun q => y (Or.inl q), fun n1 => ⟨fun q => y (Or.inr (Or.inl q)), fun n2 => ⟨fun q => y (Or.inr (Or.inr (Or.inl q))), fun n3 => ⟨fun q => y (Or.inr (Or.inr (Or.inr (Or.inl q)))), fun n4 => ⟨fun n5 => z (fun w => w.elim n1 (fun w => w.elim n2 (fun w => w.elim n3 (fun w => w.elim n4 n5)))), fun q => y (Or.inr (Or.inr (Or.inr (Or.inr q))))⟩⟩⟩⟩⟩
theorem e_named {c t s e : Int32} {h : mH} {Q : Int32 → mH → Prop} (K : Q (fct t s e c) h) : w_X6_named c t s e h Q := by
  unfold w_X6_named
  unfold fct at K
  by_cases h1 : c = 116
  · subst h1; simpa using K
  · rw [if_neg h1] at K
    by_cases h2 : c = 104
    · subst h2; simpa using K
    · rw [if_neg h2] at K
      by_cases h3 : c = 109
      · subst h3; simpa using K
      · rw [if_neg h3] at K
        by_cases h4 : c = 115
        · subst h4; simpa using K
        · rw [if_neg h4] at K
          exact ⟨fun z => absurd z h1, fun z => absurd z h2, fun z => absurd z h3, fun z => absurd z h4, fun _ => K⟩
