/-! THE SMALL MACHINE: the heap as numbered objects with contents, locals and stack as lists; Sat: from this frame the method ends, with an answer and contents that Q allows. -/
-- contents: ints (and codes of references: 0 null, j + 1 the object j), longs
abbrev mH : Type := (Nat → Nat → Int32) × (Nat → Nat → Int64)
def gi (h : mH) (o k : Nat) : Int32 := h.1 o k
def gl (h : mH) (o k : Nat) : Int64 := h.2 o k
def si (h : mH) (o k : Nat) (x : Int32) : mH := (fun a b => if a = o ∧ b = k then x else h.1 a b, h.2)
def sl (h : mH) (o k : Nat) (x : Int64) : mH := (h.1, fun a b => if a = o ∧ b = k then x else h.2 a b)
def zo (h : mH) (o : Nat) : mH := (fun a b => if a = o then 0 else h.1 a b, fun a b => if a = o then 0 else h.2 a b)
/-- n ints of object o from sp on come to object q, place dp on -/
def cpi (h : mH) (o q sp dp n : Nat) : mH := (fun a b => if a = q then va_cpy (h.1 o) (h.1 q) sp dp n b else h.1 a b, h.2)
def cpl (h : mH) (o q sp dp n : Nat) : mH := (h.1, fun a b => if a = q then va_cpy (h.2 o) (h.2 q) sp dp n b else h.2 a b)
def rc (s : Nat) (x : Int32) : Nat := if s = 0 then x.toNatClampNeg else s
def vr : Nat → Value
  | 0 => .null
  | j + 1 => .ref j
-- machine-side bundle: launch, class ids and slots, array classes, first address, the two static rows, the script
abbrev mG : Type := Launch × va_G × (Nat → ClassId) × Nat × (Nat × Nat) × (Nat × Nat × (Nat → Int32))
def ad (G : mG) (j : Nat) : Nat := if j < 1000 then G.2.2.2.1 + j else if j = 1000 then G.2.2.2.2.2.1 else if j = 1001 then G.2.2.2.2.1.1 else G.2.2.2.2.1.2
def tr (G : mG) : Value → Value
  | .ref j => .ref (ad G j)
  | v => v
def rO (G : mG) : Nat → Option Nat
  | 0 => none
  | j + 1 => some (ad G j)
def m_sh (o : Nat) : Nat × Nat := m_shl.getD o (999, 0)
def m_ft (c k : Nat) : Nat := (m_ftl.getD c []).getD k 0
def m_sr (o k : Nat) : Nat := (m_srl.getD o []).getD k 0
def m_s0 (_ _ : Nat) : Nat := 0
def rf (o k : Nat) : Nat := m_sr o k - 1
def lenOf (o : Nat) : Nat := (m_sh o).2
def m_sl (cn : Nat) : Nat := ((m_shl.take cn).map (fun q => q.2)).sum
def m_tys (t : Nat → ClassId) : List (ClassId × FieldType) := [(t 0, .int), (t 1, .boolean), (t 2, .byte), (t 3, .short), (t 4, .long), (t 5, .object "OneHandEach$Shelf")]
def fv (sr : Nat → Nat → Nat) (h : mH) (o k : Nat) : Value := if m_ft (m_sh o).1 k = 2 then vr (rc (sr o k) (h.1 o k)) else .int (h.1 o k)
def mE (G : mG) (sr : Nat → Nat → Nat) (h : mH) (o : Nat) : va_E :=
  if (m_sh o).1 < 100 then .inr ((m_sh o).1, (List.range (m_sh o).2).map fun k => tr G (fv sr h o k))
  else if (m_sh o).1 = 104 then .inl (G.2.2.1 4, (m_sh o).2, .inr (.inl (h.2 o)))
  else if (m_sh o).1 = 105 then .inl (G.2.2.1 5, (m_sh o).2, .inr (.inr (.inr (.inr (fun j => rO G (rc (sr o j) (h.1 o j)))))))
  else .inl (G.2.2.1 ((m_sh o).1 - 100), (m_sh o).2, .inl (h.1 o))
def mWs (G : mG) (sr : Nat → Nat → Nat) (h : mH) (cn : Nat) : va_W := (List.range cn).map fun o => (ad G o, mE G sr h o)
def mA (G : mG) : Nat → Prop := fun q => G.2.2.2.1 ≤ q
def mWorld (G : mG) (sr : Nat → Nat → Nat) (h : mH) (cn : Nat) (H : Heap) : Prop := va_P G.2.1 vwCl (mWs G sr h cn) H ∧ va_D (mA G) (mWs G sr h cn) ∧ cn ≤ 999
-- locals
def lg : List (Option Value) → Nat → Option Value
  | [], _ => none
  | a :: _, 0 => a
  | _ :: t, n + 1 => lg t n
def lset : List (Option Value) → Nat → Option Value → List (Option Value)
  | [], _, _ => []
  | _ :: t, 0, v => v :: t
  | a :: t, n + 1, v => a :: lset t n v
def nlong : Option Value → Bool
  | some (.long _) => false
  | some (.double _) => false
  | _ => true
/-- no value of two slots stands right ahead of place k -/
def mnl : List (Option Value) → Nat → Bool
  | _, 0 => true
  | [], _ => true
  | a :: _, 1 => nlong a
  | _ :: t, n + 2 => mnl t (n + 1)
def lA (G : mG) : Nat → List (Option Value) → List (Nat × Value)
  | _, [] => []
  | i, none :: t => lA G (i + 1) t
  | i, some v :: t => (i, tr G v) :: lA G (i + 1) t
def mL0 : List Value → List (Option Value)
  | [] => []
  | .long x :: t => some (.long x) :: none :: mL0 t
  | .double x :: t => some (.double x) :: none :: mL0 t
  | v :: t => some v :: mL0 t
-- a method: code, maxLocals, what it returns, its class, is it a constructor; environment: constant references, method, height, objects at its start and at its end
abbrev mI : Type := ByteArray × Nat × Option FieldType × String × Bool
abbrev mEn : Type := (Nat → Nat → Nat) × mI × Nat × Nat × Nat
abbrev mCode (E : mEn) : ByteArray := E.2.1.1
abbrev mMax (E : mEn) : Nat := E.2.1.2.1
abbrev mRt (E : mEn) : Option FieldType := E.2.1.2.2.1
abbrev mOwn (E : mEn) : String := E.2.1.2.2.2.1
abbrev mIni (E : mEn) : Bool := E.2.1.2.2.2.2
abbrev mHt (E : mEn) : Nat := E.2.2.1
abbrev mC0 (E : mEn) : Nat := E.2.2.2.1
abbrev mC1 (E : mEn) : Nat := E.2.2.2.2
def mEnv (G : mG) (c0 : Nat) (U : State) : Prop :=
  U.heap.size = G.2.2.2.1 + c0 ∧ va_K G.2.1 vwCl (m_tys G.2.2.1) U ∧
  (va_Z "OneHandEach$Bodies" "OWN" "[I" (.ref (ad G 1001)) (mA G) U U.heap ∧ va_T .int (ad G 1001) 32 (fun j => .int (m_own j)) (mA G) U U.heap) ∧
  (va_Z "OneHandEach$Bodies" "ABOVE" "[I" (.ref (ad G 1002)) (mA G) U U.heap ∧ va_T .int (ad G 1002) 8 (fun j => .int (m_abv j)) (mA G) U U.heap) ∧
  (va_X (ad G 1000) G.2.2.2.2.2.2.1 G.2.2.2.2.2.2.2 U U.heap ∧ ad G 1000 < G.2.2.2.1) ∧ (∀ w ∈ m_nw, va_Nw w U) ∧ va_AO "OneHandEach$Shelf" U
def mCtx (G : mG) (E : mEn) (p : Program) (R : Room) (s : State) (m : MethodId) (args : Array Value) (meth : Method) (c : Code) : Prop :=
  p.tables.exec = Jvm.exec ∧ c.code = mCode E ∧ meth.sig.returnType = mRt E ∧ meth.locks = false ∧ c.maxLocals = mMax E ∧ s.vm.findClass (mOwn E) = some m.cls ∧
  (∀ w ∈ m_ws, w.before args s = true) ∧ (mIni E = true → meth.name = "<init>") ∧ mEnv G (mC0 E) s ∧ (mHt E ≤ R.frames ∧ 64 * mHt E ≤ R.locals) ∧ (mC1 E - mC0 E ≤ R.cells ∧ m_sl (mC1 E) - m_sl (mC0 E) ≤ R.slots) ∧ mC0 E ≤ mC1 E
def mRI (E : mEn) (pc : Nat) : Option Value → Prop
  | none => mRt E = none ∧ decode (mCode E) pc = .ok (.return_, 1)
  | some (.int x) => (∃ ty, mRt E = some ty ∧ narrow ty (.int x) = .int x) ∧ decode (mCode E) pc = .ok (.ireturn, 1)
  | some (.long _) => mRt E = some .long ∧ decode (mCode E) pc = .ok (.lreturn, 1)
  | _ => False
def mRet (G : mG) (E : mEn) (Q : Option Value → mH → Prop) (p : Program) (e : Env) (R : Room) (s : State) (m : MethodId) (args : Array Value) (below : List Frame) (meth : Method) (c : Code) (Qm : State → Prop) : Prop :=
  ∀ (v : Option Value) (h' : mH) (H' : Heap) (locs' : List Loc) (pc' : Nat) (la' : Array Slot), Q v h' → mWorld G E.1 h' (mC1 E) H' → va_S (mA G) s.heap H' locs' → mRI E pc' v →
    W p G.1 e R s m args below meth c H' locs' (mC1 E - mC0 E) (m_sl (mC1 E) - m_sl (mC0 E)) Qm (F0 m pc' la' v.toList)
def Sat (G : mG) (E : mEn) (Q : Option Value → mH → Prop) (cn pc : Nat) (ls : List (Option Value)) (st : List Value) (h : mH) : Prop :=
  ∀ (p : Program) (e : Env) (R : Room) (s : State) (m : MethodId) (args : Array Value) (below : List Frame) (meth : Method) (c : Code) (H : Heap) (la : Array Slot) (locs : List Loc) (Qm : State → Prop),
    mCtx G E p R s m args meth c → (mC0 E ≤ cn ∧ cn ≤ mC1 E) → mWorld G E.1 h cn H → va_S (mA G) s.heap H locs → lv_has la (mMax E) (lA G 0 ls) → mRet G E Q p e R s m args below meth c Qm →
    W p G.1 e R s m args below meth c H locs (cn - mC0 E) (m_sl cn - m_sl (mC0 E)) Qm (F0 m pc la (st.map (tr G)))
-- ===== facts on these words =====
theorem m_in {w : Cond} (h : w ∈ lw_tbl) (hg : goodWord w = true) : w ∈ m_ws := List.mem_filter.mpr ⟨h, hg⟩
theorem m_good : GoodIn lw_tbl m_ws := fun w h => ⟨(List.mem_filter.mp h).1, good_of_word (List.mem_filter.mp h).2⟩
theorem m_goodC {w : Cond} (hw : w ∈ m_ws) : GoodIn m_ws (w :: m_ws) := by
  intro v hv
  have hv : v ∈ m_ws := by
    rcases List.mem_cons.mp hv with q | q
    · rw [q]; exact hw
    · exact q
  exact ⟨hv, (m_good v hv).2⟩
theorem tr_cat (G : mG) (v : Value) : (tr G v).category = v.category := by cases v <;> rfl
theorem tr_cats (G : mG) (st : List Value) : ((st.map (tr G)).map fun v => v.category) = st.map fun v => v.category := by
  rw [List.map_map]
  exact List.map_congr_left fun v _ => tr_cat G v
theorem ad_lt {G : mG} {j : Nat} (h : j < 1000) : ad G j = G.2.2.2.1 + j := by unfold ad; rw [if_pos h]
theorem tr_vr (G : mG) (n : Nat) : tr G (vr n) = va_rf (rO G n) := by cases n <;> rfl
theorem lA_get {G : mG} : ∀ (ls : List (Option Value)) (i k : Nat) (v : Value), lg ls k = some v → (i + k, tr G v) ∈ lA G i ls := by
  intro ls
  induction ls with
  | nil => intro i k v h; cases k <;> cases h
  | cons a t ih =>
    intro i k v h
    cases k with
    | zero =>
      have h : a = some v := h
      subst h
      exact List.mem_cons_self
    | succ k =>
      have h1 := ih (i + 1) k v h
      rw [show i + 1 + k = i + (k + 1) by omega] at h1
      cases a with
      | none => exact h1
      | some w => exact List.mem_cons_of_mem _ h1
theorem lA_of {G : mG} : ∀ (ls : List (Option Value)) (i : Nat) (q : Nat × Value), q ∈ lA G i ls → ∃ (k : Nat) (v : Value), lg ls k = some v ∧ q = (i + k, tr G v) := by
  intro ls
  induction ls with
  | nil => intro i q h; cases h
  | cons a t ih =>
    intro i q h
    cases a with
    | none =>
      obtain ⟨k, v, h1, h2⟩ := ih (i + 1) q h
      exact ⟨k + 1, v, h1, by rw [h2, show i + 1 + k = i + (k + 1) by omega]⟩
    | some w =>
      rcases List.mem_cons.mp h with h | h
      · exact ⟨0, w, rfl, h⟩
      · obtain ⟨k, v, h1, h2⟩ := ih (i + 1) q h
        exact ⟨k + 1, v, h1, by rw [h2, show i + 1 + k = i + (k + 1) by omega]⟩
theorem lA_at {G : mG} {la : Array Slot} {n k : Nat} {v : Value} {ls : List (Option Value)} (h : lv_has la n (lA G 0 ls)) (hk : lg ls k = some v) : la[k]? = some (.val (tr G v)) := by
  have h1 := h.2.2 _ (lA_get ls 0 k v hk)
  rw [Nat.zero_add] at h1
  exact h1
theorem lv_mono {la : Array Slot} {n : Nat} {l l' : List (Nat × Value)} (h : lv_has la n l) (hs : ∀ q ∈ l', q ∈ l) : lv_has la n l' := ⟨h.1, h.2.1, fun q hq => h.2.2 q (hs q hq)⟩
theorem lg_lset : ∀ (ls : List (Option Value)) (k : Nat) (x : Option Value) (j : Nat) (v : Value), lg (lset ls k x) j = some v → (j = k ∧ x = some v) ∨ (j ≠ k ∧ lg ls j = some v) := by
  intro ls
  induction ls with
  | nil => intro k x j v h; cases k <;> cases j <;> cases h
  | cons a t ih =>
    intro k x j v h
    cases k with
    | zero =>
      cases j with
      | zero => exact Or.inl ⟨rfl, h⟩
      | succ j => exact Or.inr ⟨by omega, h⟩
    | succ k =>
      cases j with
      | zero => exact Or.inr ⟨by omega, h⟩
      | succ j =>
        rcases ih k x j v h with q | q
        · exact Or.inl ⟨by omega, q.2⟩
        · exact Or.inr ⟨by omega, q.2⟩
theorem mnl_ok : ∀ (ls : List (Option Value)) (k : Nat) (v : Value), mnl ls (k + 1) = true → lg ls k = some v → ¬ v.category = 2 := by
  intro ls
  induction ls with
  | nil => intro k v _ h; cases k <;> cases h
  | cons a t ih =>
    intro k v h h2
    cases k with
    | zero =>
      have h2 : a = some v := h2
      subst h2
      have h : nlong (some v) = true := h
      cases v <;> first | (simp [Value.category]; done) | (simp [nlong] at h)
    | succ k => exact ih k v h h2
theorem lA_set {G : mG} {ls : List (Option Value)} {k : Nat} {v : Value} (hn : mnl ls k = true) : ∀ q ∈ lA G 0 (lset ls k (some v)), q ∈ (k, tr G v) :: (lA G 0 ls).filter (fun q => !(q.1 == k) && !(q.1 + 1 == k && q.2.category == 2)) := by
  intro q hq
  obtain ⟨j, w, h1, rfl⟩ := lA_of _ _ _ hq
  rcases lg_lset ls k (some v) j w h1 with ⟨h2, h3⟩ | ⟨h2, h3⟩
  · cases h3
    rw [Nat.zero_add, h2]
    exact List.mem_cons_self
  · refine List.mem_cons_of_mem _ (List.mem_filter.mpr ⟨lA_get ls 0 j w h3, ?_⟩)
    simp only [Nat.zero_add, Bool.and_eq_true, Bool.not_eq_true', Bool.and_eq_false_imp, beq_eq_false_iff_ne, beq_iff_eq]
    refine ⟨h2, fun h4 => ?_⟩
    subst h4
    show ¬ (tr G w).category = 2
    rw [tr_cat]
    exact mnl_ok ls j w hn h3
theorem lA_setL {G : mG} {ls : List (Option Value)} {k : Nat} {x : Int64} (hn : mnl ls k = true) (h1 : lg ls (k + 1) = none) : ∀ q ∈ lA G 0 (lset ls k (some (.long x))), q ∈ (k, Value.long x) :: (lA G 0 ls).filter (fun q => !(q.1 == k) && (!(q.1 == k + 1) && !(q.1 + 1 == k && q.2.category == 2))) := by
  intro q hq
  obtain ⟨j, w, h1', rfl⟩ := lA_of _ _ _ hq
  rcases lg_lset ls k _ j w h1' with ⟨h2, h3⟩ | ⟨h2, h3⟩
  · cases h3
    rw [Nat.zero_add, h2]
    exact List.mem_cons_self
  · refine List.mem_cons_of_mem _ (List.mem_filter.mpr ⟨lA_get ls 0 j w h3, ?_⟩)
    simp only [Nat.zero_add, Bool.and_eq_true, Bool.not_eq_true', Bool.and_eq_false_imp, beq_eq_false_iff_ne, beq_iff_eq]
    refine ⟨h2, fun h4 => ?_, fun h4 => ?_⟩
    · rw [h4, h1] at h3
      cases h3
    · subst h4
      show ¬ (tr G w).category = 2
      rw [tr_cat]
      exact mnl_ok ls j w hn h3
theorem lA_args {G : mG} : ∀ (vs : List Value) (i k : Nat) (q : Nat × Value), q ∈ lA G i (mL0 vs ++ List.replicate k none) → q ∈ lv_args i (vs.map (tr G)) := by
  intro vs
  induction vs with
  | nil =>
    intro i k q h
    have h0 : ∀ (k i : Nat), lA G i (List.replicate k none) = [] := by
      intro k
      induction k with
      | zero => intro i; rfl
      | succ k ih => intro i; exact ih (i + 1)
    rw [show mL0 [] ++ List.replicate k none = List.replicate k none from rfl, h0] at h
    cases h
  | cons v t ih =>
    intro i k q h
    cases v with
    | long x =>
      rcases List.mem_cons.mp (show q ∈ (i, tr G (.long x)) :: lA G (i + 1 + 1) (mL0 t ++ List.replicate k none) from h) with h | h
      · rw [h]; exact List.mem_cons_self
      · exact List.mem_cons_of_mem _ (ih (i + 2) k q h)
    | double x =>
      rcases List.mem_cons.mp (show q ∈ (i, tr G (.double x)) :: lA G (i + 1 + 1) (mL0 t ++ List.replicate k none) from h) with h | h
      · rw [h]; exact List.mem_cons_self
      · exact List.mem_cons_of_mem _ (ih (i + 2) k q h)
    | _ =>
      rcases List.mem_cons.mp h with h | h
      · rw [h]; exact List.mem_cons_self
      · exact List.mem_cons_of_mem _ (ih (i + 1) k q h)

-- ===== the world as a list =====
theorem mWs_get {G : mG} {sr : Nat → Nat → Nat} {h : mH} {cn o : Nat} (ho : o < cn) : (mWs G sr h cn)[o]? = some (ad G o, mE G sr h o) := by
  simp [mWs, List.getElem?_map, List.getElem?_range ho]
theorem mWs_len {G : mG} {sr : Nat → Nat → Nat} {h : mH} {cn : Nat} : (mWs G sr h cn).length = cn := by simp [mWs]
theorem mE_congr {G : mG} {sr : Nat → Nat → Nat} {h h' : mH} {a : Nat} (h1 : h'.1 a = h.1 a) (h2 : h'.2 a = h.2 a) : mE G sr h' a = mE G sr h a := by
  unfold mE fv
  rw [h1, h2]
theorem mWs_congr {G : mG} {sr : Nat → Nat → Nat} {h h' : mH} {cn : Nat} (hh : ∀ a, a < cn → mE G sr h' a = mE G sr h a) : mWs G sr h' cn = mWs G sr h cn := by
  unfold mWs
  exact List.map_congr_left fun o ho => by rw [hh o (List.mem_range.mp ho)]
theorem mWs_set {G : mG} {sr : Nat → Nat → Nat} {h h' : mH} {cn o : Nat} {e : va_E} (ho : o < cn) (he : mE G sr h' o = e) (hh : ∀ a, a ≠ o → mE G sr h' a = mE G sr h a) : (mWs G sr h cn).set o (ad G o, e) = mWs G sr h' cn := by
  refine List.ext_getElem? fun k => ?_
  rw [List.getElem?_set]
  by_cases hk : o = k
  · subst hk
    rw [if_pos rfl, mWs_len, if_pos ho, mWs_get ho, he]
  · rw [if_neg hk]
    by_cases hc : k < cn
    · rw [mWs_get hc, mWs_get hc, hh k (fun q => hk q.symm)]
    · rw [List.getElem?_eq_none (by rw [mWs_len]; omega), List.getElem?_eq_none (by rw [mWs_len]; omega)]
theorem mWs_push {G : mG} {sr : Nat → Nat → Nat} {h : mH} {cn : Nat} : mWs G sr h cn ++ [(ad G cn, mE G sr h cn)] = mWs G sr h (cn + 1) := by
  simp [mWs, List.range_succ]
theorem si_1 {h : mH} {o k a : Nat} {x : Int32} (ha : a ≠ o) : (si h o k x).1 a = h.1 a := by
  funext b
  simp [si, ha]
theorem sl_2 {h : mH} {o k a : Nat} {x : Int64} (ha : a ≠ o) : (sl h o k x).2 a = h.2 a := by
  funext b
  simp [sl, ha]
theorem si_up {h : mH} {o k : Nat} {x : Int32} : (si h o k x).1 o = upd (h.1 o) k x := by
  funext b
  simp [si, upd]
theorem sl_up {h : mH} {o k : Nat} {x : Int64} : (sl h o k x).2 o = vp_updL (h.2 o) k x := by
  funext b
  simp [sl, vp_updL]
theorem mE_obj {G : mG} {sr : Nat → Nat → Nat} {h : mH} {o c n : Nat} (hs : m_sh o = (c, n)) (hc : c < 100) : mE G sr h o = .inr (c, (List.range n).map fun k => tr G (fv sr h o k)) := by
  unfold mE
  rw [hs]
  exact if_pos hc
theorem mE_int {G : mG} {sr : Nat → Nat → Nat} {h : mH} {o t n : Nat} (hs : m_sh o = (100 + t, n)) (ht : t < 4) : mE G sr h o = .inl (G.2.2.1 t, n, .inl (h.1 o)) := by
  unfold mE
  rw [hs]
  simp only
  rw [if_neg (by omega), if_neg (by omega), if_neg (by omega), show 100 + t - 100 = t by omega]
theorem mE_long {G : mG} {sr : Nat → Nat → Nat} {h : mH} {o n : Nat} (hs : m_sh o = (104, n)) : mE G sr h o = .inl (G.2.2.1 4, n, .inr (.inl (h.2 o))) := by
  unfold mE
  rw [hs]
  rfl
theorem mE_ref {G : mG} {sr : Nat → Nat → Nat} {h : mH} {o n : Nat} (hs : m_sh o = (105, n)) : mE G sr h o = .inl (G.2.2.1 5, n, .inr (.inr (.inr (.inr (fun j => rO G (rc (sr o j) (h.1 o j))))))) := by
  unfold mE
  rw [hs]
  rfl
theorem m_fget {G : mG} {sr : Nat → Nat → Nat} {h : mH} {o n k : Nat} (hk : k < n) : ((List.range n).map fun k => tr G (fv sr h o k))[k]? = some (tr G (fv sr h o k)) := by
  simp [List.getElem?_map, List.getElem?_range hk]
theorem m_fset {G : mG} {sr : Nat → Nat → Nat} {h : mH} {o n k : Nat} {x : Int32} {v : Value} (hv : tr G (fv sr (si h o k x) o k) = v) : ((List.range n).map fun j => tr G (fv sr (si h o k x) o j)) = ((List.range n).map fun j => tr G (fv sr h o j)).set k v := by
  refine List.ext_getElem? fun j => ?_
  rw [List.getElem?_set]
  by_cases hj : k = j
  · subst hj
    rw [if_pos rfl]
    by_cases hn : k < n
    · rw [m_fget hn, List.length_map, List.length_range, if_pos hn, hv]
    · rw [List.length_map, List.length_range, if_neg hn, List.getElem?_eq_none (by simp; omega)]
  · rw [if_neg hj]
    by_cases hn : j < n
    · rw [m_fget hn, m_fget hn]
      have : fv sr (si h o k x) o j = fv sr h o j := by
        unfold fv
        rw [show (si h o k x).1 o j = h.1 o j by simp [si]; intro q; exact absurd q.symm hj]
      rw [this]
    · rw [List.getElem?_eq_none (by simp; omega), List.getElem?_eq_none (by simp; omega)]
theorem m_lt {o a n : Nat} (hs : m_sh o = (a, n)) (ha : a ≠ 999) : o < m_shl.length := by
  unfold m_sh at hs
  by_cases q : o < m_shl.length
  · exact q
  · rw [List.getD_eq_getElem?_getD, List.getElem?_eq_none (by omega)] at hs
    cases hs
    exact absurd rfl ha
theorem mW_lt {G : mG} {sr : Nat → Nat → Nat} {h : mH} {cn o : Nat} {H : Heap} (hW : mWorld G sr h cn H) (ho : o < cn) : G.2.2.2.1 + o < H.size := by
  have h1 := (hW.1 o _ (mWs_get ho)).lt
  have h2 := hW.2.2
  rw [show ((ad G o, mE G sr h o) : Nat × va_E).1 = ad G o from rfl, ad_lt (by omega)] at h1
  exact h1
/-- how large the heap is: all that was made is the world's -/
theorem mW_size {G : mG} {sr : Nat → Nat → Nat} {h : mH} {cn c0 sl0 : Nat} {H : Heap} {p : Program} {e : Env} {R : Room} {s : State} {m : MethodId} {args : Array Value} {below : List Frame} {meth : Method} {c : Code} {T : State} {locs : List Loc} (hW : mWorld G sr h cn H) (hT : T.heap = H) (X : Stand p G.1 e R s m args below meth c T locs (cn - c0) sl0) (hs : s.heap.size = G.2.2.2.1 + c0) (hc : c0 ≤ cn) : H.size = G.2.2.2.1 + cn := by
  have h1 : T.heap.size ≤ s.heap.size + (cn - c0) := X.same.2.2.1
  have h2 : s.heap.size ≤ T.heap.size := X.same.2.1
  rw [hT] at h1 h2
  have h3 : cn = 0 ∨ G.2.2.2.1 + (cn - 1) < H.size := by
    rcases Nat.eq_zero_or_pos cn with q | q
    · exact Or.inl q
    · exact Or.inr (mW_lt hW (by omega))
  omega
theorem mEnv_moved {G : mG} {c0 c1 : Nat} {s U : State} {H : Heap} {locs : List Loc} (h : mEnv G c0 s) (hS : va_S (mA G) s.heap H locs) (hU : U.heap = H) (hW : s.WarmedH U.vm) (hz : H.size = G.2.2.2.1 + c1) : mEnv G c1 U := by
  obtain ⟨h1, h2, ⟨h3, h4⟩, ⟨h5, h6⟩, ⟨h7, h8⟩, h9, h10⟩ := h
  have k : ∀ a : Nat, a < s.heap.size → ¬ mA G a → U.heap[a]? = s.heap[a]? := fun a q1 q2 => by rw [hU]; exact hS.2.1 a q1 q2
  have ha : ad G 1000 < s.heap.size := by rw [h1]; omega
  refine ⟨by rw [hU]; exact hz, va_K.moved hW.alike h2, ⟨(h3.moved hW.alike).kept k, (h4.moved hW.alike).kept k⟩, ⟨(h5.moved hW.alike).kept k, (h6.moved hW.alike).kept k⟩, ⟨(h7.moved hW.alike).kept (k _ ha (Nat.not_le.mpr h8)), h8⟩, fun w hw => ?_, h10.moved hW.alike⟩
  exact m_nw_warm hW hw (h9 w hw)
theorem mEnv_call {G : mG} {c0 : Nat} {U : State} (g : JFrame) (mk : MethodId) (a : Array Value) (h : mEnv G c0 U) : mEnv G c0 (U.calling g mk a) := by
  obtain ⟨h1, h2, ⟨h3, h4⟩, ⟨h5, h6⟩, ⟨h7, h8⟩, h9, h10⟩ := h
  have al : U.vm.Alike (U.calling g mk a).vm := Vm.Alike.refl U.vm
  exact ⟨h1, va_K.moved al h2, ⟨h3.moved al, h4.moved al⟩, ⟨h5.moved al, h6.moved al⟩, ⟨h7.moved al, h8⟩, fun w hw => va_Nw.same (u := U) (U := U.calling g mk a) (m_nw_on hw) rfl (h9 w hw), h10.moved al⟩
theorem m_sl_mono {a b : Nat} (h : a ≤ b) : m_sl a ≤ m_sl b := by
  unfold m_sl
  obtain ⟨d, rfl⟩ := Nat.exists_eq_add_of_le h
  rw [List.take_add, List.map_append, List.sum_append]
  exact Nat.le_add_right _ _
