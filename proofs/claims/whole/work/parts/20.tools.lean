/-! PURE: tools. From here on nothing speaks of the machine. -/
theorem le_i (a b : Int32) : a ≤ b ↔ a.toInt ≤ b.toInt := Int32.le_iff_toInt_le
theorem lt_i (a b : Int32) : a < b ↔ a.toInt < b.toInt := Int32.lt_iff_toInt_lt
theorem eq_i (a b : Int32) : a = b ↔ a.toInt = b.toInt := Int32.toInt_inj.symm
def inR (a lo hi : Int32) : Prop := ¬ a < lo ∧ ¬ hi < a
theorem inR_dec (a lo hi : Int32) : inR a lo hi ∨ ¬ inR a lo hi := Classical.em _
theorem inR_i {a lo hi : Int32} : inR a lo hi ↔ lo.toInt ≤ a.toInt ∧ a.toInt ≤ hi.toInt := by
  unfold inR
  rw [lt_i, lt_i]
  omega
theorem nI_of_i {x : Int32} {j : Nat} (h : x.toInt = j) : x = nI j := by
  have hx := Int32.toInt_lt x
  rw [eq_i, nI_toInt (by omega), h]
/-- a number within 0 .. N is some nI j -/
theorem inR_nI {a hi : Int32} {N : Nat} (hN : hi = nI N) (hb : N < 2 ^ 31) (h : inR a 0 hi) : ∃ j, j ≤ N ∧ a = nI j := by
  rw [inR_i, hN, nI_toInt hb] at h
  exact ⟨a.toInt.toNat, by have := h.1; simp at this; omega, nI_of_i (by have := h.1; simp at this; omega)⟩
theorem inR_01 {a : Int32} (h : inR a 0 1) : a = 0 ∨ a = 1 := by
  obtain ⟨j, hj, rfl⟩ := inR_nI (N := 1) rfl (by decide) h
  rcases (show j = 0 ∨ j = 1 by omega) with rfl | rfl
  · exact Or.inl rfl
  · exact Or.inr rfl
theorem nI_inR {j N : Nat} (hj : j ≤ N) (hb : N < 2 ^ 31) : inR (nI j) 0 (nI N) := by
  rw [inR_i, nI_toInt (by omega), nI_toInt hb]
  simp
  omega
theorem vp_nI {j n : Nat} (h : j < n) (hn : n < 2 ^ 31) : vp_in (nI j) n := vp_in_nI h hn
theorem gi_si {h : mH} {o k o' k' : Nat} {x : Int32} : gi (si h o k x) o' k' = if o' = o ∧ k' = k then x else gi h o' k' := rfl
theorem gl_sl {h : mH} {o k o' k' : Nat} {x : Int64} : gl (sl h o k x) o' k' = if o' = o ∧ k' = k then x else gl h o' k' := rfl
theorem gl_si {h : mH} {o k o' k' : Nat} {x : Int32} : gl (si h o k x) o' k' = gl h o' k' := rfl
theorem gi_sl {h : mH} {o k o' k' : Nat} {x : Int64} : gi (sl h o k x) o' k' = gi h o' k' := rfl
/-- which cells may differ -/
def Fr (P : Nat → Nat → Bool) (h h1 : mH) : Prop := ∀ a k, P a k = false → gi h1 a k = gi h a k ∧ gl h1 a k = gl h a k
theorem Fr.rf (P : Nat → Nat → Bool) (h : mH) : Fr P h h := fun _ _ _ => ⟨rfl, rfl⟩
theorem Fr.tr {P : Nat → Nat → Bool} {h h1 h2 : mH} (a : Fr P h h1) (b : Fr P h1 h2) : Fr P h h2 := fun x k hp => ⟨(b x k hp).1.trans (a x k hp).1, (b x k hp).2.trans (a x k hp).2⟩
theorem Fr.mono {P P' : Nat → Nat → Bool} {h h1 : mH} (a : Fr P h h1) (hp : ∀ x k, P' x k = false → P x k = false) : Fr P' h h1 := fun x k h => a x k (hp x k h)
theorem Fr.si {P : Nat → Nat → Bool} {h h1 : mH} {o k : Nat} {x : Int32} (a : Fr P h h1) (hp : P o k = true) : Fr P h (si h1 o k x) := by
  intro b j hb
  refine ⟨?_, (a b j hb).2⟩
  rw [gi_si, if_neg]
  · exact (a b j hb).1
  · rintro ⟨rfl, rfl⟩
    rw [hp] at hb
    cases hb
theorem Fr.sl {P : Nat → Nat → Bool} {h h1 : mH} {o k : Nat} {x : Int64} (a : Fr P h h1) (hp : P o k = true) : Fr P h (sl h1 o k x) := by
  intro b j hb
  refine ⟨(a b j hb).1, ?_⟩
  rw [gl_sl, if_neg]
  · exact (a b j hb).2
  · rintro ⟨rfl, rfl⟩
    rw [hp] at hb
    cases hb
theorem Fr.i {P : Nat → Nat → Bool} {h h1 : mH} (a : Fr P h h1) (o k : Nat) (hp : P o k = false) : gi h1 o k = gi h o k := (a o k hp).1
theorem Fr.l {P : Nat → Nat → Bool} {h h1 : mH} (a : Fr P h h1) (o k : Nat) (hp : P o k = false) : gl h1 o k = gl h o k := (a o k hp).2
/-- a truth as an int -/
noncomputable def bi (p : Prop) : Int32 := @ite Int32 p (Classical.propDecidable p) 1 0
theorem bi_1 {p : Prop} (h : p) : bi p = 1 := if_pos h
theorem bi_0 {p : Prop} (h : ¬ p) : bi p = 0 := if_neg h
theorem bi_z {p : Prop} : bi p = 0 ↔ ¬ p := by
  by_cases h : p
  · rw [bi_1 h]; simp [h]
  · rw [bi_0 h]; simp [h]
theorem bi_01 (p : Prop) : bi p = 0 ∨ bi p = 1 := by
  by_cases h : p
  · exact Or.inr (bi_1 h)
  · exact Or.inl (bi_0 h)
theorem bi_i {p q : Prop} (h : p ↔ q) : bi p = bi q := by rw [propext h]
