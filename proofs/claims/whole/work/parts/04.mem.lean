/-! rows of the small machine that read and write cells -/
/-- a class, as the rows need it -/
def mCl (ci N : Nat) (C : String) (T : u_T) (ty0 : Nat → FieldType) : Prop := vwCl[ci]? = some (C, T, N) ∧ (∀ w ∈ u_ws C T N, w ∈ m_ws) ∧ (∀ k, k < N → parseFieldDescriptor (T k).2.2.1 = some (ty0 k)) ∧ (∀ a, a < N → ∀ b, b < N → a ≠ b → (T a).2.1 ≠ (T b).2.1) ∧ ci < 100
section MEM
variable {G : mG} {E : mEn} {Q : Option Value → mH → Prop} {cn pc : Nat} {ls : List (Option Value)} {st : List Value} {h : mH}
variable {ci N o k ix : Nat} {C ref : String} {T : u_T} {ty0 : Nat → FieldType}
theorem m_getV {v : Value} (q : Nat) (hd : decode (mCode E) pc = .ok (.getfield ix, 3)) (hq : pc + 3 = q) (hC : mCl ci N C T ty0) (hs : m_sh o = (ci, N)) (ho : o < cn) (hk : k < N) (href : (T k).1 = ref)
    (hl : Cond.fieldLink (mOwn E) ix ref (T k).2.1 (T k).2.2.1 ∈ m_ws) (hv : fv E.1 h o k = v) (K : Sat G E Q cn q ls (v :: st) h) : Sat G E Q cn pc ls (.ref o :: st) h := by
  subst hq
  subst hv
  subst href
  intro p e R s m args below meth c H la locs Qm C9 hcn hW hS hl9 hr
  obtain ⟨hc, hin, -, -, hci⟩ := hC
  have he := mWs_get (G := G) (sr := E.1) (h := h) ho
  rw [mE_obj hs hci] at he
  exact va_get C9.1 C9.2.1 C9.2.2.2.2.2.2.1 hin C9.2.2.2.2.2.1 C9.2.2.2.2.2.2.2.2.1.2.1 hW.1 o he hc k hk (C9.2.2.2.2.2.2.1 _ hl) (fun _ z => z) (m_fget hk) hd (K p e R s m args below meth c H la locs Qm C9 hcn hW hS hl9 hr)
theorem r_getN {v : Value} {host : String} (q : Nat) (hd : decode (mCode E) pc = .ok (.getfield ix, 3)) (hq : pc + 3 = q) (hC : mCl ci N C T ty0) (hs : m_sh o = (ci, N)) (ho : o < cn) (hk : k < N) (href : (T k).1 = ref)
    (hl : Cond.fieldLinkNest (mOwn E) ix ref (T k).2.1 (T k).2.2.1 host ∈ m_nw) (hv : fv E.1 h o k = v) (K : Sat G E Q cn q ls (v :: st) h) : Sat G E Q cn pc ls (.ref o :: st) h := by
  subst hq
  subst hv
  subst href
  intro p e R s m args below meth c H la locs Qm C9 hcn hW hS hl9 hr
  obtain ⟨hc, hin, -, -, hci⟩ := hC
  have he := mWs_get (G := G) (sr := E.1) (h := h) ho
  rw [mE_obj hs hci] at he
  have hE := C9.2.2.2.2.2.2.2.2.1
  exact va_getN C9.1 C9.2.1 C9.2.2.2.2.2.2.1 hin C9.2.2.2.2.2.1 hE.2.1 hW.1 o he hc k hk (va_Nw.use (m_nw_on hl) (hE.2.2.2.2.2.1 _ hl)) (fun _ z => z) (m_fget hk) hd (K p e R s m args below meth c H la locs Qm C9 hcn hW hS hl9 hr)
theorem fv_int {sr : Nat → Nat → Nat} (hs : m_sh o = (ci, N)) (hf : (m_ft ci k == 2) = false) : fv sr h o k = .int (gi h o k) := by
  unfold fv
  rw [hs]
  exact if_neg (by simpa using hf)
theorem fv_ref {sr : Nat → Nat → Nat} {j : Nat} (hs : m_sh o = (ci, N)) (hf : (m_ft ci k == 2) = true) (hj : sr o k = j + 1) : fv sr h o k = .ref j := by
  unfold fv
  rw [hs]
  simp only [beq_iff_eq] at hf
  rw [if_pos hf, hj]
  rfl
theorem fv_dyn {sr : Nat → Nat → Nat} {j : Nat} (hs : m_sh o = (ci, N)) (hf : (m_ft ci k == 2) = true) (hj : sr o k = 0) (hv : gi h o k = nI (j + 1)) (hl : j < 2000) : fv sr h o k = .ref j := by
  unfold fv
  rw [hs]
  simp only [beq_iff_eq] at hf
  rw [if_pos hf, hj, show h.1 o k = nI (j + 1) from hv]
  unfold rc
  rw [if_pos rfl, nI_clamp (by omega)]
  rfl
theorem r_getI (q : Nat) (hd : decode (mCode E) pc = .ok (.getfield ix, 3)) (hq : pc + 3 = q) (hC : mCl ci N C T ty0) (hs : m_sh o = (ci, N)) (ho : o < cn) (hk : k < N) (href : (T k).1 = ref)
    (hl : Cond.fieldLink (mOwn E) ix ref (T k).2.1 (T k).2.2.1 ∈ m_ws) (hf : (m_ft ci k == 2) = false) (K : Sat G E Q cn q ls (.int (gi h o k) :: st) h) : Sat G E Q cn pc ls (.ref o :: st) h :=
  m_getV q hd hq hC hs ho hk href hl (fv_int hs hf) K
theorem r_getR {j : Nat} (q : Nat) (hd : decode (mCode E) pc = .ok (.getfield ix, 3)) (hq : pc + 3 = q) (hC : mCl ci N C T ty0) (hs : m_sh o = (ci, N)) (ho : o < cn) (hk : k < N) (href : (T k).1 = ref)
    (hl : Cond.fieldLink (mOwn E) ix ref (T k).2.1 (T k).2.2.1 ∈ m_ws) (hf : (m_ft ci k == 2) = true) (hj : E.1 o k = j + 1) (K : Sat G E Q cn q ls (.ref j :: st) h) : Sat G E Q cn pc ls (.ref o :: st) h :=
  m_getV q hd hq hC hs ho hk href hl (fv_ref hs hf hj) K
theorem r_getD {j : Nat} (q : Nat) (hd : decode (mCode E) pc = .ok (.getfield ix, 3)) (hq : pc + 3 = q) (hC : mCl ci N C T ty0) (hs : m_sh o = (ci, N)) (ho : o < cn) (hk : k < N) (href : (T k).1 = ref)
    (hl : Cond.fieldLink (mOwn E) ix ref (T k).2.1 (T k).2.2.1 ∈ m_ws) (hf : (m_ft ci k == 2) = true) (hj : E.1 o k = 0) (hv : gi h o k = nI (j + 1)) (hlj : j < 2000) (K : Sat G E Q cn q ls (.ref j :: st) h) : Sat G E Q cn pc ls (.ref o :: st) h :=
  m_getV q hd hq hC hs ho hk href hl (fv_dyn hs hf hj hv hlj) K
/-- a store into a field: which value, and what the contents are then -/
theorem m_putV {v : Value} {x : Int32} (q : Nat) (hd : decode (mCode E) pc = .ok (.putfield ix, 3)) (hq : pc + 3 = q) (hC : mCl ci N C T ty0) (hs : m_sh o = (ci, N)) (ho : o < cn) (hk : k < N) (href : (T k).1 = ref)
    (hl : Cond.fieldLink (mOwn E) ix ref (T k).2.1 (T k).2.2.1 ∈ m_ws) (hfin : (T k).2.2.2 = false ∨ ((T k).2.2.2 = true ∧ mIni E = true ∧ (T k).1 = mOwn E)) (hv : tr G (fv E.1 (si h o k x) o k) = tr G v)
    (hn : narrow (ty0 k) (tr G v) = tr G v) (hfit : fits (ty0 k) (tr G v) = true) (K : Sat G E Q cn q ls st (si h o k x)) : Sat G E Q cn pc ls (v :: .ref o :: st) h := by
  subst hq
  subst href
  intro p e R s m args below meth c H la locs Qm C9 hcn hW hS hl9 hr
  obtain ⟨hc, hin, hty, hnm, hci⟩ := hC
  have he := mWs_get (G := G) (sr := E.1) (h := h) ho
  rw [mE_obj hs hci] at he
  have hset := mWs_set (G := G) (sr := E.1) (h := h) (h' := si h o k x) (cn := cn) ho ((mE_obj hs hci).trans (congrArg Sum.inr (congrArg (Prod.mk ci) (m_fset (n := N) hv)))) (fun a ha => mE_congr (si_1 ha) rfl)
  have hts := C9.2.2.2.2.2.2.1
  have hK := C9.2.2.2.2.2.2.2.2.1.2.1
  have hlen : k < ((List.range N).map fun k => tr G (fv E.1 h o k)).length := by simpa using hk
  have kk : ∀ (H1 : Heap) (locs1 : List Loc), va_P G.2.1 vwCl ((mWs G E.1 h cn).set o (ad G o, .inr (ci, ((List.range N).map fun k => tr G (fv E.1 h o k)).set k (tr G v)))) H1 → va_D (mA G) ((mWs G E.1 h cn).set o (ad G o, .inr (ci, ((List.range N).map fun k => tr G (fv E.1 h o k)).set k (tr G v)))) → va_S (mA G) s.heap H1 locs1 → W p G.1 e R s m args below meth c H1 locs1 (cn - mC0 E) (m_sl cn - m_sl (mC0 E)) Qm (F0 m (pc + 3) la (st.map (tr G))) := by
    intro H1 locs1 hP1 hD1 hS1
    rw [hset] at hP1 hD1
    exact K p e R s m args below meth c H1 la locs1 Qm C9 hcn ⟨hP1, hD1, hW.2.2⟩ hS1 hl9 hr
  show W p G.1 e R s m args below meth c H locs _ _ Qm (F0 m pc la (tr G v :: .ref (ad G o) :: st.map (tr G)))
  rcases hfin with hfin | ⟨hf1, hf2, hf3⟩
  · exact va_put C9.1 C9.2.1 hts hin ty0 hty hnm C9.2.2.2.2.2.1 hK hW.1 hW.2.1 hS o he hc k hk (hts _ hl) (fun _ z => z) hfin (hty k hk) hn hfit hlen hd kk
  · exact va_putF C9.1 C9.2.1 hts hin ty0 hty hnm C9.2.2.2.2.2.1 hK hW.1 hW.2.1 hS o he hc k hk (hts _ hl) (fun _ z => z) hf1 (C9.2.2.2.2.2.2.2.1 hf2) hf3 (hty k hk) hn hfit hlen hd kk
theorem r_putI {x : Int32} (q : Nat) (hd : decode (mCode E) pc = .ok (.putfield ix, 3)) (hq : pc + 3 = q) (hC : mCl ci N C T ty0) (hs : m_sh o = (ci, N)) (ho : o < cn) (hk : k < N) (href : (T k).1 = ref)
    (hl : Cond.fieldLink (mOwn E) ix ref (T k).2.1 (T k).2.2.1 ∈ m_ws) (hfin : (T k).2.2.2 = false ∨ ((T k).2.2.2 = true ∧ mIni E = true ∧ (T k).1 = mOwn E)) (hf : (m_ft ci k == 2) = false)
    (hn : narrow (ty0 k) (.int x) = .int x) (hfit : fits (ty0 k) (.int x) = true) (K : Sat G E Q cn q ls st (si h o k x)) : Sat G E Q cn pc ls (.int x :: .ref o :: st) h :=
  m_putV q hd hq hC hs ho hk href hl hfin (by rw [fv_int hs hf]; simp [gi, si]) hn hfit K
theorem r_putD {j : Nat} (q : Nat) (hd : decode (mCode E) pc = .ok (.putfield ix, 3)) (hq : pc + 3 = q) (hC : mCl ci N C T ty0) (hs : m_sh o = (ci, N)) (ho : o < cn) (hk : k < N) (href : (T k).1 = ref)
    (hl : Cond.fieldLink (mOwn E) ix ref (T k).2.1 (T k).2.2.1 ∈ m_ws) (hfin : (T k).2.2.2 = false ∨ ((T k).2.2.2 = true ∧ mIni E = true ∧ (T k).1 = mOwn E)) (hf : (m_ft ci k == 2) = true) (hj : E.1 o k = 0) (hlj : j < 2000)
    (hn : ∀ a : Nat, narrow (ty0 k) (.ref a) = .ref a) (hfit : ∀ a : Nat, fits (ty0 k) (.ref a) = true) (K : Sat G E Q cn q ls st (si h o k (nI (j + 1)))) : Sat G E Q cn pc ls (.ref j :: .ref o :: st) h :=
  m_putV q hd hq hC hs ho hk href hl hfin (by rw [fv_dyn (j := j) hs hf hj (by simp [gi, si]) hlj]) (hn _) (hfit _) K
-- arrays
theorem r_alen {a n : Nat} (q : Nat) (hd : decode (mCode E) pc = .ok (.arraylength, 1)) (hq : pc + 1 = q) (hs : m_sh o = (a, n)) (ha : 100 ≤ a) (ha2 : a < 106) (ho : o < cn) (K : Sat G E Q cn q ls (.int (nI n) :: st) h) : Sat G E Q cn pc ls (.ref o :: st) h := by
  subst hq
  intro p e R s m args below meth c H la locs Qm C9 hcn hW hS hl9 hr
  have he := mWs_get (G := G) (sr := E.1) (h := h) ho
  have hK := C9.2.2.2.2.2.2.2.2.1.2.1
  have kk := K p e R s m args below meth c H la locs Qm C9 hcn hW hS hl9 hr
  rcases (show a < 104 ∨ a = 104 ∨ a = 105 by omega) with q | rfl | rfl
  · obtain ⟨t, rfl⟩ : ∃ t, a = 100 + t := ⟨a - 100, by omega⟩
    rw [mE_int hs (by omega)] at he
    have ht : ∃ ty, (m_tys G.2.2.1)[t]? = some (G.2.2.1 t, ty) := by
      rcases (show t = 0 ∨ t = 1 ∨ t = 2 ∨ t = 3 by omega) with rfl | rfl | rfl | rfl <;> exact ⟨_, rfl⟩
    obtain ⟨ty, ht⟩ := ht
    exact va_alen C9.1 C9.2.1 hK hW.1 o t he ht rfl hd kk
  · rw [mE_long hs] at he
    exact va_alen C9.1 C9.2.1 hK hW.1 o 4 he (rfl : (m_tys G.2.2.1)[4]? = some (G.2.2.1 4, .long)) rfl hd kk
  · rw [mE_ref hs] at he
    exact va_alen C9.1 C9.2.1 hK hW.1 o 5 he (rfl : (m_tys G.2.2.1)[5]? = some (G.2.2.1 5, .object "OneHandEach$Shelf")) rfl hd kk
theorem r_lald {n k9 : Nat} {i : Int32} (q : Nat) (hd : decode (mCode E) pc = .ok (.laload, 1)) (hq : pc + 1 = q) (hs : m_sh o = (104, n)) (ho : o < cn) (hin : vp_in i n) (hk9 : i.toNatClampNeg = k9) (K : Sat G E Q cn q ls (.long (gl h o k9) :: st) h) : Sat G E Q cn pc ls (.int i :: .ref o :: st) h := by
  subst hq
  subst hk9
  intro p e R s m args below meth c H la locs Qm C9 hcn hW hS hl9 hr
  have he := mWs_get (G := G) (sr := E.1) (h := h) ho
  rw [mE_long hs] at he
  exact va_lald C9.1 C9.2.1 C9.2.2.2.2.2.2.2.2.1.2.1 hW.1 o 4 he rfl hin hd (K p e R s m args below meth c H la locs Qm C9 hcn hW hS hl9 hr)
theorem r_last {n k9 : Nat} {i : Int32} {x : Int64} (q : Nat) (hd : decode (mCode E) pc = .ok (.lastore, 1)) (hq : pc + 1 = q) (hs : m_sh o = (104, n)) (ho : o < cn) (hin : vp_in i n) (hk9 : i.toNatClampNeg = k9) (K : Sat G E Q cn q ls st (sl h o k9 x)) : Sat G E Q cn pc ls (.long x :: .int i :: .ref o :: st) h := by
  subst hq
  subst hk9
  intro p e R s m args below meth c H la locs Qm C9 hcn hW hS hl9 hr
  have he := mWs_get (G := G) (sr := E.1) (h := h) ho
  rw [mE_long hs] at he
  refine va_last C9.1 C9.2.1 C9.2.2.2.2.2.2.2.2.1.2.1 hW.1 hW.2.1 hS o 4 he rfl hin hd (fun H1 locs1 hP1 hD1 hS1 => ?_)
  rw [mWs_set (G := G) (sr := E.1) (h := h) (h' := sl h o i.toNatClampNeg x) ho (by rw [mE_long hs, sl_up]) (fun a ha => mE_congr rfl (sl_2 ha))] at hP1 hD1
  exact K p e R s m args below meth c H1 la locs1 Qm C9 hcn ⟨hP1, hD1, hW.2.2⟩ hS1 hl9 hr
theorem r_iald {n k9 : Nat} {i : Int32} (q : Nat) (hd : decode (mCode E) pc = .ok (.iaload, 1)) (hq : pc + 1 = q) (hs : m_sh o = (100, n)) (ho : o < cn) (hin : vp_in i n) (hk9 : i.toNatClampNeg = k9) (K : Sat G E Q cn q ls (.int (gi h o k9) :: st) h) : Sat G E Q cn pc ls (.int i :: .ref o :: st) h := by
  subst hq
  subst hk9
  intro p e R s m args below meth c H la locs Qm C9 hcn hW hS hl9 hr
  have he := mWs_get (G := G) (sr := E.1) (h := h) ho
  rw [mE_int (t := 0) hs (by decide)] at he
  exact va_iald C9.1 C9.2.1 C9.2.2.2.2.2.2.2.2.1.2.1 hW.1 o 0 he rfl hin hd (K p e R s m args below meth c H la locs Qm C9 hcn hW hS hl9 hr)
theorem r_iast {n k9 : Nat} {i x : Int32} (q : Nat) (hd : decode (mCode E) pc = .ok (.iastore, 1)) (hq : pc + 1 = q) (hs : m_sh o = (100, n)) (ho : o < cn) (hin : vp_in i n) (hk9 : i.toNatClampNeg = k9) (K : Sat G E Q cn q ls st (si h o k9 x)) : Sat G E Q cn pc ls (.int x :: .int i :: .ref o :: st) h := by
  subst hq
  subst hk9
  intro p e R s m args below meth c H la locs Qm C9 hcn hW hS hl9 hr
  have he := mWs_get (G := G) (sr := E.1) (h := h) ho
  rw [mE_int (t := 0) hs (by decide)] at he
  refine va_iast C9.1 C9.2.1 C9.2.2.2.2.2.2.2.2.1.2.1 hW.1 hW.2.1 hS o 0 he rfl hin hd (fun H1 locs1 hP1 hD1 hS1 => ?_)
  rw [mWs_set (G := G) (sr := E.1) (h := h) (h' := si h o i.toNatClampNeg x) ho (by rw [mE_int (t := 0) hs (by decide), si_up]) (fun a ha => mE_congr (si_1 ha) rfl)] at hP1 hD1
  exact K p e R s m args below meth c H1 la locs1 Qm C9 hcn ⟨hP1, hD1, hW.2.2⟩ hS1 hl9 hr
theorem r_zald {n k9 : Nat} {i : Int32} (q : Nat) (hd : decode (mCode E) pc = .ok (.baload, 1)) (hq : pc + 1 = q) (hs : m_sh o = (101, n)) (ho : o < cn) (hin : vp_in i n) (hk9 : i.toNatClampNeg = k9) (K : Sat G E Q cn q ls (.int (gi h o k9) :: st) h) : Sat G E Q cn pc ls (.int i :: .ref o :: st) h := by
  subst hq
  subst hk9
  intro p e R s m args below meth c H la locs Qm C9 hcn hW hS hl9 hr
  have he := mWs_get (G := G) (sr := E.1) (h := h) ho
  rw [mE_int (t := 1) hs (by decide)] at he
  exact va_zald C9.1 C9.2.1 C9.2.2.2.2.2.2.2.2.1.2.1 hW.1 o 1 he rfl hin hd (K p e R s m args below meth c H la locs Qm C9 hcn hW hS hl9 hr)
theorem r_zast {n k9 : Nat} {i x : Int32} (q : Nat) (hd : decode (mCode E) pc = .ok (.bastore, 1)) (hq : pc + 1 = q) (hs : m_sh o = (101, n)) (ho : o < cn) (hin : vp_in i n) (hk9 : i.toNatClampNeg = k9) (K : Sat G E Q cn q ls st (si h o k9 (vp_nar .boolean x))) : Sat G E Q cn pc ls (.int x :: .int i :: .ref o :: st) h := by
  subst hq
  subst hk9
  intro p e R s m args below meth c H la locs Qm C9 hcn hW hS hl9 hr
  have he := mWs_get (G := G) (sr := E.1) (h := h) ho
  rw [mE_int (t := 1) hs (by decide)] at he
  refine va_zast C9.1 C9.2.1 C9.2.2.2.2.2.2.2.2.1.2.1 hW.1 hW.2.1 hS o 1 he rfl hin hd (fun H1 locs1 hP1 hD1 hS1 => ?_)
  rw [mWs_set (G := G) (sr := E.1) (h := h) (h' := si h o i.toNatClampNeg (vp_nar .boolean x)) ho (by rw [mE_int (t := 1) hs (by decide), si_up]) (fun a ha => mE_congr (si_1 ha) rfl)] at hP1 hD1
  exact K p e R s m args below meth c H1 la locs1 Qm C9 hcn ⟨hP1, hD1, hW.2.2⟩ hS1 hl9 hr
theorem r_bald {n k9 : Nat} {i : Int32} (q : Nat) (hd : decode (mCode E) pc = .ok (.baload, 1)) (hq : pc + 1 = q) (hs : m_sh o = (102, n)) (ho : o < cn) (hin : vp_in i n) (hk9 : i.toNatClampNeg = k9) (K : Sat G E Q cn q ls (.int (gi h o k9) :: st) h) : Sat G E Q cn pc ls (.int i :: .ref o :: st) h := by
  subst hq
  subst hk9
  intro p e R s m args below meth c H la locs Qm C9 hcn hW hS hl9 hr
  have he := mWs_get (G := G) (sr := E.1) (h := h) ho
  rw [mE_int (t := 2) hs (by decide)] at he
  exact va_bald C9.1 C9.2.1 C9.2.2.2.2.2.2.2.2.1.2.1 hW.1 o 2 he rfl hin hd (K p e R s m args below meth c H la locs Qm C9 hcn hW hS hl9 hr)
theorem r_bast {n k9 : Nat} {i x : Int32} (q : Nat) (hd : decode (mCode E) pc = .ok (.bastore, 1)) (hq : pc + 1 = q) (hs : m_sh o = (102, n)) (ho : o < cn) (hin : vp_in i n) (hk9 : i.toNatClampNeg = k9) (K : Sat G E Q cn q ls st (si h o k9 (vp_nar .byte x))) : Sat G E Q cn pc ls (.int x :: .int i :: .ref o :: st) h := by
  subst hq
  subst hk9
  intro p e R s m args below meth c H la locs Qm C9 hcn hW hS hl9 hr
  have he := mWs_get (G := G) (sr := E.1) (h := h) ho
  rw [mE_int (t := 2) hs (by decide)] at he
  refine va_bast C9.1 C9.2.1 C9.2.2.2.2.2.2.2.2.1.2.1 hW.1 hW.2.1 hS o 2 he rfl hin hd (fun H1 locs1 hP1 hD1 hS1 => ?_)
  rw [mWs_set (G := G) (sr := E.1) (h := h) (h' := si h o i.toNatClampNeg (vp_nar .byte x)) ho (by rw [mE_int (t := 2) hs (by decide), si_up]) (fun a ha => mE_congr (si_1 ha) rfl)] at hP1 hD1
  exact K p e R s m args below meth c H1 la locs1 Qm C9 hcn ⟨hP1, hD1, hW.2.2⟩ hS1 hl9 hr
theorem r_sald {n k9 : Nat} {i : Int32} (q : Nat) (hd : decode (mCode E) pc = .ok (.saload, 1)) (hq : pc + 1 = q) (hs : m_sh o = (103, n)) (ho : o < cn) (hin : vp_in i n) (hk9 : i.toNatClampNeg = k9) (K : Sat G E Q cn q ls (.int (gi h o k9) :: st) h) : Sat G E Q cn pc ls (.int i :: .ref o :: st) h := by
  subst hq
  subst hk9
  intro p e R s m args below meth c H la locs Qm C9 hcn hW hS hl9 hr
  have he := mWs_get (G := G) (sr := E.1) (h := h) ho
  rw [mE_int (t := 3) hs (by decide)] at he
  exact va_sald C9.1 C9.2.1 C9.2.2.2.2.2.2.2.2.1.2.1 hW.1 o 3 he rfl hin hd (K p e R s m args below meth c H la locs Qm C9 hcn hW hS hl9 hr)
theorem r_sast {n k9 : Nat} {i x : Int32} (q : Nat) (hd : decode (mCode E) pc = .ok (.sastore, 1)) (hq : pc + 1 = q) (hs : m_sh o = (103, n)) (ho : o < cn) (hin : vp_in i n) (hk9 : i.toNatClampNeg = k9) (K : Sat G E Q cn q ls st (si h o k9 (vp_nar .short x))) : Sat G E Q cn pc ls (.int x :: .int i :: .ref o :: st) h := by
  subst hq
  subst hk9
  intro p e R s m args below meth c H la locs Qm C9 hcn hW hS hl9 hr
  have he := mWs_get (G := G) (sr := E.1) (h := h) ho
  rw [mE_int (t := 3) hs (by decide)] at he
  refine va_sast C9.1 C9.2.1 C9.2.2.2.2.2.2.2.2.1.2.1 hW.1 hW.2.1 hS o 3 he rfl hin hd (fun H1 locs1 hP1 hD1 hS1 => ?_)
  rw [mWs_set (G := G) (sr := E.1) (h := h) (h' := si h o i.toNatClampNeg (vp_nar .short x)) ho (by rw [mE_int (t := 3) hs (by decide), si_up]) (fun a ha => mE_congr (si_1 ha) rfl)] at hP1 hD1
  exact K p e R s m args below meth c H1 la locs1 Qm C9 hcn ⟨hP1, hD1, hW.2.2⟩ hS1 hl9 hr
theorem r_aald {n j : Nat} {i : Int32} (q : Nat) (hd : decode (mCode E) pc = .ok (.aaload, 1)) (hq : pc + 1 = q) (hs : m_sh o = (105, n)) (ho : o < cn) (hin : vp_in i n) (hj : E.1 o i.toNatClampNeg = j + 1) (K : Sat G E Q cn q ls (.ref j :: st) h) : Sat G E Q cn pc ls (.int i :: .ref o :: st) h := by
  subst hq
  intro p e R s m args below meth c H la locs Qm C9 hcn hW hS hl9 hr
  have he := mWs_get (G := G) (sr := E.1) (h := h) ho
  rw [mE_ref hs] at he
  refine va_aldq C9.1 C9.2.1 C9.2.2.2.2.2.2.2.2.1.2.1 hW.1 o 5 he rfl hin hd ?_
  have e1 : rO G (rc (E.1 o i.toNatClampNeg) (h.1 o i.toNatClampNeg)) = some (ad G j) := by rw [hj]; rfl
  simp only [e1]
  exact K p e R s m args below meth c H la locs Qm C9 hcn hW hS hl9 hr
/-- a reference comes into an array of references, in a constructor -/
theorem r_aast {n j nj : Nat} {i : Int32} (q : Nat) (hd : decode (mCode E) pc = .ok (.aastore, 1)) (hq : pc + 1 = q) (hs : m_sh o = (105, n)) (ho : o < cn) (hin : vp_in i n) (hsj : m_sh j = (9, nj)) (hoj : j < cn) (hj : E.1 o i.toNatClampNeg = 0) (hlj : j < 2000) {k9 : Nat} (hk9 : i.toNatClampNeg = k9) (K : Sat G E Q cn q ls st (si h o k9 (nI (j + 1)))) : Sat G E Q cn pc ls (.ref j :: .int i :: .ref o :: st) h := by
  subst hq
  subst hk9
  intro p e R s m args below meth c H la locs Qm C9 hcn hW hS hl9 hr
  have he := mWs_get (G := G) (sr := E.1) (h := h) ho
  rw [mE_ref hs] at he
  have hv := mWs_get (G := G) (sr := E.1) (h := h) hoj
  rw [mE_obj hsj (by decide)] at hv
  refine va_astq (r := (RX9, TX9, 5)) C9.1 C9.2.1 C9.2.2.2.2.2.2.2.2.1.2.1 hW.1 hW.2.1 hS o 5 j 9 he rfl hv rfl hin hd (fun H1 locs1 hP1 hD1 hS1 => ?_)
  have hup : (fun a => rO G (rc (E.1 o a) ((si h o i.toNatClampNeg (nI (j + 1))).1 o a))) = va_up (fun a => rO G (rc (E.1 o a) (h.1 o a))) i.toNatClampNeg (some (ad G j)) := by
    funext a
    unfold va_up
    by_cases ha : a = i.toNatClampNeg
    · rw [if_pos ha, ha, hj]
      simp only [si, rc, if_true, and_self]
      rw [nI_clamp (by omega)]
      rfl
    · rw [if_neg ha]
      simp [si, ha]
  rw [mWs_set (G := G) (sr := E.1) (h := h) (h' := si h o i.toNatClampNeg (nI (j + 1))) ho (by rw [mE_ref hs, hup]) (fun a ha => mE_congr (si_1 ha) rfl)] at hP1 hD1
  exact K p e R s m args below meth c H1 la locs1 Qm C9 hcn ⟨hP1, hD1, hW.2.2⟩ hS1 hl9 hr
-- the static rows, the script
theorem r_gst {w1 : String} {j : Nat} (q : Nat) (hd : decode (mCode E) pc = .ok (.getstatic ix, 3)) (hq : pc + 3 = q) (hj : (w1 = "OWN" ∧ j = 1001) ∨ (w1 = "ABOVE" ∧ j = 1002)) (hl : Cond.fieldLink (mOwn E) ix "OneHandEach$Bodies" w1 "[I" ∈ m_ws) (K : Sat G E Q cn q ls (.ref j :: st) h) : Sat G E Q cn pc ls st h := by
  subst hq
  intro p e R s m args below meth c H la locs Qm C9 hcn hW hS hl9 hr
  obtain ⟨-, -, ⟨h3, h4⟩, ⟨h5, h6⟩, -⟩ := C9.2.2.2.2.2.2.2.2.1
  rcases hj with ⟨rfl, rfl⟩ | ⟨rfl, rfl⟩
  · exact va_gets C9.1 C9.2.1 h3 hS C9.2.2.2.2.2.1 (C9.2.2.2.2.2.2.1 _ hl) (fun _ z => z) hd (K p e R s m args below meth c H la locs Qm C9 hcn hW hS hl9 hr)
  · exact va_gets C9.1 C9.2.1 h5 hS C9.2.2.2.2.2.1 (C9.2.2.2.2.2.2.1 _ hl) (fun _ z => z) hd (K p e R s m args below meth c H la locs Qm C9 hcn hW hS hl9 hr)
theorem r_own {i : Int32} (q : Nat) (hd : decode (mCode E) pc = .ok (.iaload, 1)) (hq : pc + 1 = q) (hin : vp_in i 32) (K : Sat G E Q cn q ls (.int (m_own i.toNatClampNeg) :: st) h) : Sat G E Q cn pc ls (.int i :: .ref 1001 :: st) h := by
  subst hq
  intro p e R s m args below meth c H la locs Qm C9 hcn hW hS hl9 hr
  obtain ⟨-, -, ⟨h3, h4⟩, -⟩ := C9.2.2.2.2.2.2.2.2.1
  exact va_ti C9.1 C9.2.1 h4 hS hin rfl hd (K p e R s m args below meth c H la locs Qm C9 hcn hW hS hl9 hr)
theorem r_abv {i : Int32} (q : Nat) (hd : decode (mCode E) pc = .ok (.iaload, 1)) (hq : pc + 1 = q) (hin : vp_in i 8) (K : Sat G E Q cn q ls (.int (m_abv i.toNatClampNeg) :: st) h) : Sat G E Q cn pc ls (.int i :: .ref 1002 :: st) h := by
  subst hq
  intro p e R s m args below meth c H la locs Qm C9 hcn hW hS hl9 hr
  obtain ⟨-, -, -, ⟨h5, h6⟩, -⟩ := C9.2.2.2.2.2.2.2.2.1
  exact va_ti C9.1 C9.2.1 h6 hS hin rfl hd (K p e R s m args below meth c H la locs Qm C9 hcn hW hS hl9 hr)
theorem r_scr {i : Int32} {L : Nat} {xs : Nat → Int32} (q : Nat) (hL : G.2.2.2.2.2.2.1 = L) (hxs : G.2.2.2.2.2.2.2 = xs) (hd : decode (mCode E) pc = .ok (.iaload, 1)) (hq : pc + 1 = q) (hin : vp_in i L) (K : Sat G E Q cn q ls (.int (xs i.toNatClampNeg) :: st) h) : Sat G E Q cn pc ls (.int i :: .ref 1000 :: st) h := by
  subst hq
  subst hL
  subst hxs
  intro p e R s m args below meth c H la locs Qm C9 hcn hW hS hl9 hr
  obtain ⟨hz, -, -, -, ⟨h7, h8⟩, -⟩ := C9.2.2.2.2.2.2.2.2.1
  exact va_sld C9.1 C9.2.1 h7 (by rw [hz]; omega) (Nat.not_le.mpr h8) hS hin hd (K p e R s m args below meth c H la locs Qm C9 hcn hW hS hl9 hr)
theorem r_slen {L : Nat} (q : Nat) (hL : G.2.2.2.2.2.2.1 = L) (hd : decode (mCode E) pc = .ok (.arraylength, 1)) (hq : pc + 1 = q) (K : Sat G E Q cn q ls (.int (nI L) :: st) h) : Sat G E Q cn pc ls (.ref 1000 :: st) h := by
  subst hq
  subst hL
  intro p e R s m args below meth c H la locs Qm C9 hcn hW hS hl9 hr
  obtain ⟨hz, -, -, -, ⟨h7, h8⟩, -⟩ := C9.2.2.2.2.2.2.2.2.1
  exact va_slen C9.1 C9.2.1 h7 (by rw [hz]; omega) (Nat.not_le.mpr h8) hS hd (K p e R s m args below meth c H la locs Qm C9 hcn hW hS hl9 hr)
-- Math
theorem m_sum8 {G : mG} {st : List Value} (hc : (st.map fun v => v.category).sum ≤ 8) : ((st.map (tr G)).map fun v => v.category).sum ≤ 8 := by rw [tr_cats]; exact hc
theorem r_max {x y : Int32} (q : Nat) (hd : decode (mCode E) pc = .ok (.invokestatic ix, 3)) (hq : pc + 3 = q) (hl : Cond.methodLink (mOwn E) ix Lib.Math.max.name ∈ m_ws) (hst : Cond.static Lib.Math.max.name ∈ m_ws) (hini : Cond.initialized "java/lang/Math" ∈ m_ws) (hco : Cond.code Lib.Math.max.name Lib.Math.max.code 2 (some .int) ∈ m_ws) (hht : 1 ≤ mHt E) (hc : (st.map fun v => v.category).sum ≤ 8) (K : Sat G E Q cn q ls (.int (if x < y then y else x) :: st) h) : Sat G E Q cn pc ls (.int y :: .int x :: st) h := by
  subst hq
  intro p e R s m args below meth c H la locs Qm C hcn hW hS hl9 hr
  have hts := C.2.2.2.2.2.2.1
  obtain ⟨hR1, hR2⟩ := C.2.2.2.2.2.2.2.2.2.1
  obtain ⟨hR3, hR4⟩ := C.2.2.2.2.2.2.2.2.2.2.1
  have h8 := m_sum8 (G := G) hc
  exact va_mmax C.1 C.2.1 (by rw [C.2.2.2.2.1]; exact hl9.1.symm) C.2.2.2.2.2.1 (hts _ hl) (hts _ hst) (hts _ hini) (hts _ hco) (by omega) (by omega) (by omega) (Nat.le_trans (Nat.sub_le_sub_right (m_sl_mono hcn.2) _) hR4) hd (K p e R s m args below meth c H la locs Qm C hcn hW hS hl9 hr)
theorem r_min {x y : Int32} (q : Nat) (hd : decode (mCode E) pc = .ok (.invokestatic ix, 3)) (hq : pc + 3 = q) (hl : Cond.methodLink (mOwn E) ix Lib.Math.min.name ∈ m_ws) (hst : Cond.static Lib.Math.min.name ∈ m_ws) (hini : Cond.initialized "java/lang/Math" ∈ m_ws) (hco : Cond.code Lib.Math.min.name Lib.Math.min.code 2 (some .int) ∈ m_ws) (hht : 1 ≤ mHt E) (hc : (st.map fun v => v.category).sum ≤ 8) (K : Sat G E Q cn q ls (.int (if y < x then y else x) :: st) h) : Sat G E Q cn pc ls (.int y :: .int x :: st) h := by
  subst hq
  intro p e R s m args below meth c H la locs Qm C hcn hW hS hl9 hr
  have hts := C.2.2.2.2.2.2.1
  obtain ⟨hR1, hR2⟩ := C.2.2.2.2.2.2.2.2.2.1
  obtain ⟨hR3, hR4⟩ := C.2.2.2.2.2.2.2.2.2.2.1
  have h8 := m_sum8 (G := G) hc
  exact va_mmin C.1 C.2.1 (by rw [C.2.2.2.2.1]; exact hl9.1.symm) C.2.2.2.2.2.1 (hts _ hl) (hts _ hst) (hts _ hini) (hts _ hco) (by omega) (by omega) (by omega) (Nat.le_trans (Nat.sub_le_sub_right (m_sl_mono hcn.2) _) hR4) hd (K p e R s m args below meth c H la locs Qm C hcn hW hS hl9 hr)
theorem r_abs {x : Int32} (q : Nat) (hd : decode (mCode E) pc = .ok (.invokestatic ix, 3)) (hq : pc + 3 = q) (hl : Cond.methodLink (mOwn E) ix Lib.Math.abs.name ∈ m_ws) (hst : Cond.static Lib.Math.abs.name ∈ m_ws) (hini : Cond.initialized "java/lang/Math" ∈ m_ws) (hco : Cond.code Lib.Math.abs.name Lib.Math.abs.code 1 (some .int) ∈ m_ws) (hht : 1 ≤ mHt E) (hc : (st.map fun v => v.category).sum ≤ 8) (K : Sat G E Q cn q ls (.int (if 0 ≤ x then x else 0 - x) :: st) h) : Sat G E Q cn pc ls (.int x :: st) h := by
  subst hq
  intro p e R s m args below meth c H la locs Qm C hcn hW hS hl9 hr
  have hts := C.2.2.2.2.2.2.1
  obtain ⟨hR1, hR2⟩ := C.2.2.2.2.2.2.2.2.2.1
  obtain ⟨hR3, hR4⟩ := C.2.2.2.2.2.2.2.2.2.2.1
  have h8 := m_sum8 (G := G) hc
  exact va_mabs C.1 C.2.1 (by rw [C.2.2.2.2.1]; exact hl9.1.symm) C.2.2.2.2.2.1 (hts _ hl) (hts _ hst) (hts _ hini) (hts _ hco) (by omega) (by omega) (by omega) (Nat.le_trans (Nat.sub_le_sub_right (m_sl_mono hcn.2) _) hR4) hd (K p e R s m args below meth c H la locs Qm C hcn hW hS hl9 hr)
-- System.arraycopy of ints, of longs
theorem r_copyi {n0 n1 o1 : Nat} {sp dp n : Int32} (q : Nat) (hd : decode (mCode E) pc = .ok (.invokestatic ix, 3)) (hq : pc + 3 = q) (hl : Cond.methodLink (mOwn E) ix arraycopyName ∈ m_ws) (hnat : Cond.native arraycopyName ∈ m_ws) (hst : Cond.static arraycopyName ∈ m_ws) (hini : Cond.initialized "java/lang/System" ∈ m_ws) (hs0 : m_sh o = (100, n0)) (ho0 : o < cn) (hs1 : m_sh o1 = (100, n1)) (ho1 : o1 < cn)
    (h1 : ¬ sp < 0) (h2 : ¬ dp < 0) (h3 : ¬ n < 0) (h4 : sp.toNatClampNeg + n.toNatClampNeg ≤ n0) (h5 : dp.toNatClampNeg + n.toNatClampNeg ≤ n1) (hht : 1 ≤ mHt E) (hc : (st.map fun v => v.category).sum ≤ 8) (K : Sat G E Q cn q ls st (cpi h o o1 sp.toNatClampNeg dp.toNatClampNeg n.toNatClampNeg)) : Sat G E Q cn pc ls (.int n :: .int dp :: .ref o1 :: .int sp :: .ref o :: st) h := by
  subst hq
  intro p e R s m args below meth c H la locs Qm C hcn hW hS hl9 hr
  have hts := C.2.2.2.2.2.2.1
  obtain ⟨hR1, hR2⟩ := C.2.2.2.2.2.2.2.2.2.1
  have h8 := m_sum8 (G := G) hc
  have he0 := mWs_get (G := G) (sr := E.1) (h := h) ho0
  have he1 := mWs_get (G := G) (sr := E.1) (h := h) ho1
  rw [mE_int (t := 0) hs0 (by decide)] at he0
  rw [mE_int (t := 0) hs1 (by decide)] at he1
  refine va_copyi C.1 C.2.1 (by rw [C.2.2.2.2.1]; exact hl9.1.symm) C.2.2.2.2.2.1 (hts _ hl) (hts _ hnat) (hts _ hst) (hts _ hini) C.2.2.2.2.2.2.2.2.1.2.1 hW.1 hW.2.1 hS o o1 0 0 he0 he1 (ty := .int) rfl rfl rfl h1 h2 h3 h4 h5 (fun _ _ => rfl) (by omega) ?_ hd (fun H1 locs1 hP1 hD1 hS1 => ?_)
  · have h9 : nativeFrameWords "java/lang/System" "arraycopy" 5 + 11 ≤ 40 := by decide +kernel
    omega
  · rw [mWs_set (G := G) (sr := E.1) (h := h) (h' := cpi h o o1 sp.toNatClampNeg dp.toNatClampNeg n.toNatClampNeg) ho1 (by rw [mE_int (t := 0) hs1 (by decide)]; simp [cpi]) (fun a ha => mE_congr (by funext b; simp [cpi, ha]) rfl)] at hP1 hD1
    exact K p e R s m args below meth c H1 la locs1 Qm C hcn ⟨hP1, hD1, hW.2.2⟩ hS1 hl9 hr
theorem r_copyl {n0 n1 o1 : Nat} {sp dp n : Int32} (q : Nat) (hd : decode (mCode E) pc = .ok (.invokestatic ix, 3)) (hq : pc + 3 = q) (hl : Cond.methodLink (mOwn E) ix arraycopyName ∈ m_ws) (hnat : Cond.native arraycopyName ∈ m_ws) (hst : Cond.static arraycopyName ∈ m_ws) (hini : Cond.initialized "java/lang/System" ∈ m_ws) (hs0 : m_sh o = (104, n0)) (ho0 : o < cn) (hs1 : m_sh o1 = (104, n1)) (ho1 : o1 < cn)
    (h1 : ¬ sp < 0) (h2 : ¬ dp < 0) (h3 : ¬ n < 0) (h4 : sp.toNatClampNeg + n.toNatClampNeg ≤ n0) (h5 : dp.toNatClampNeg + n.toNatClampNeg ≤ n1) (hht : 1 ≤ mHt E) (hc : (st.map fun v => v.category).sum ≤ 8) (K : Sat G E Q cn q ls st (cpl h o o1 sp.toNatClampNeg dp.toNatClampNeg n.toNatClampNeg)) : Sat G E Q cn pc ls (.int n :: .int dp :: .ref o1 :: .int sp :: .ref o :: st) h := by
  subst hq
  intro p e R s m args below meth c H la locs Qm C hcn hW hS hl9 hr
  have hts := C.2.2.2.2.2.2.1
  obtain ⟨hR1, hR2⟩ := C.2.2.2.2.2.2.2.2.2.1
  have h8 := m_sum8 (G := G) hc
  have he0 := mWs_get (G := G) (sr := E.1) (h := h) ho0
  have he1 := mWs_get (G := G) (sr := E.1) (h := h) ho1
  rw [mE_long hs0] at he0
  rw [mE_long hs1] at he1
  refine va_copyl C.1 C.2.1 (by rw [C.2.2.2.2.1]; exact hl9.1.symm) C.2.2.2.2.2.1 (hts _ hl) (hts _ hnat) (hts _ hst) (hts _ hini) C.2.2.2.2.2.2.2.2.1.2.1 hW.1 hW.2.1 hS o o1 4 4 he0 he1 (ty := .long) rfl rfl rfl h1 h2 h3 h4 h5 (fun _ _ => rfl) (by omega) ?_ hd (fun H1 locs1 hP1 hD1 hS1 => ?_)
  · have h9 : nativeFrameWords "java/lang/System" "arraycopy" 5 + 11 ≤ 40 := by decide +kernel
    omega
  · rw [mWs_set (G := G) (sr := E.1) (h := h) (h' := cpl h o o1 sp.toNatClampNeg dp.toNatClampNeg n.toNatClampNeg) ho1 (by rw [mE_long hs1]; simp [cpl]) (fun a ha => mE_congr rfl (by funext b; simp [cpl, ha]))] at hP1 hD1
    exact K p e R s m args below meth c H1 la locs1 Qm C hcn ⟨hP1, hD1, hW.2.2⟩ hS1 hl9 hr
end MEM
