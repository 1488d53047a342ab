/-! helpers of the printed walks -/
def irm (x y : Int32) : Int32 := x - x / y * y
def ush (x y : Int32) : Int32 := (x.toUInt32 >>> (y.toUInt32 &&& Int32.toUInt32 31)).toInt32
def ishl (x y : Int32) : Int32 := x <<< (y &&& 31)
def lshl (x : Int64) (y : Int32) : Int64 := x <<< (y.toInt64 &&& 63)
def imax (x y : Int32) : Int32 := if x < y then y else x
def imin (x y : Int32) : Int32 := if y < x then y else x
def iab (x : Int32) : Int32 := if 0 ≤ x then x else 0 - x
def mkeep : List Bool → List (Option Value) → List (Option Value)
  | true :: b, a :: t => a :: mkeep b t
  | false :: b, _ :: t => none :: mkeep b t
  | _, _ => []
theorem mkeep_get : ∀ (bs : List Bool) (ls : List (Option Value)) (k : Nat) (v : Value), lg (mkeep bs ls) k = some v → lg ls k = some v := by
  intro bs
  induction bs with
  | nil => intro ls k v h; cases ls <;> cases k <;> cases h
  | cons b bs ih =>
    intro ls k v h
    cases ls with
    | nil => cases b <;> cases k <;> cases h
    | cons a t =>
      cases b with
      | true =>
        cases k with
        | zero => exact h
        | succ k => exact ih t k v h
      | false =>
        cases k with
        | zero => cases h
        | succ k => exact ih t k v h
theorem m_at (i : Nat) {w : Cond} (h : lw_tbl[i]? = some w) (hg : goodWord w = true) : w ∈ m_ws := m_in (List.mem_of_getElem? h) hg
theorem m_nwat (i : Nat) {w : Cond} (h : m_nw[i]? = some w) : w ∈ m_nw := List.mem_of_getElem? h
theorem m_len : m_shl.length = 90 := by decide
theorem ol {o a n : Nat} (hs : m_sh o = (a, n)) (ha : (a == 999) = false) : o < 90 := by
  have h := m_lt hs (by simpa using ha)
  rw [m_len] at h
  exact h
theorem ol2 {o a n : Nat} (hs : m_sh o = (a, n)) (ha : (a == 999) = false) : o < 2000 := by
  have h := ol hs ha
  omega
section HELP
variable {G : mG} {E : mEn} {Q : Option Value → mH → Prop} {cn pc : Nat} {ls : List (Option Value)} {st : List Value} {h : mH}
theorem m_keep (bs : List Bool) {ls1 : List (Option Value)} (hm : mkeep bs ls = ls1) (K : Sat G E Q cn pc ls1 st h) : Sat G E Q cn pc ls st h := by
  subst hm
  intro p e R s m args below meth c H la locs Qm C9 hcn hW hS hl9 hr
  refine K p e R s m args below meth c H la locs Qm C9 hcn hW hS (lv_mono hl9 (fun q hq => ?_)) hr
  obtain ⟨k, v, h1, rfl⟩ := lA_of _ _ _ hq
  exact lA_get ls 0 k v (mkeep_get bs ls k v h1)
theorem m_nmi {x : Int32} (K : ∀ y : Int32, y = x → Sat G E Q cn pc ls (.int y :: st) h) : Sat G E Q cn pc ls (.int x :: st) h := K x rfl
theorem m_nml {x : Int64} (K : ∀ y : Int64, y = x → Sat G E Q cn pc ls (.long y :: st) h) : Sat G E Q cn pc ls (.long x :: st) h := K x rfl
theorem m_nmr {x : Nat} (K : ∀ y : Nat, y = x → Sat G E Q cn pc ls (.ref y :: st) h) : Sat G E Q cn pc ls (.ref x :: st) h := K x rfl
theorem m_nmh {x : mH} (K : ∀ y : mH, y = x → Sat G E Q cn pc ls st y) : Sat G E Q cn pc ls st x := K x rfl
theorem r_irm {x y : Int32} (q : Nat) (hd : decode (mCode E) pc = .ok (.irem, 1)) (hq : pc + 1 = q) (hne : ¬ y = 0) (K : Sat G E Q cn q ls (.int (irm x y) :: st) h) : Sat G E Q cn pc ls (.int y :: .int x :: st) h := r_irem q hd hq hne K
theorem r_ush {x y : Int32} (q : Nat) (hd : decode (mCode E) pc = .ok (.iushr, 1)) (hq : pc + 1 = q) (K : Sat G E Q cn q ls (.int (ush x y) :: st) h) : Sat G E Q cn pc ls (.int y :: .int x :: st) h := r_iushr q hd hq K
theorem r_shl {x y : Int32} (q : Nat) (hd : decode (mCode E) pc = .ok (.ishl, 1)) (hq : pc + 1 = q) (K : Sat G E Q cn q ls (.int (ishl x y) :: st) h) : Sat G E Q cn pc ls (.int y :: .int x :: st) h := r_ishl q hd hq K
theorem r_lsh {x : Int64} {y : Int32} (q : Nat) (hd : decode (mCode E) pc = .ok (.lshl, 1)) (hq : pc + 1 = q) (K : Sat G E Q cn q ls (.long (lshl x y) :: st) h) : Sat G E Q cn pc ls (.int y :: .long x :: st) h := r_lshl q hd hq K
-- switches: by a key, by none of them
theorem r_lkK {dflt off : Int} {ps : Array (Int × Int)} {len : Nat} {x : Int32} (k : Int32) (t : Nat) (hx : x = k) (hd : decode (mCode E) pc = .ok (.lookupswitch dflt ps, len)) (hp : (ps.toList.zip (ps.toList.drop 1)).all (fun (a, next) => a.1 < next.1) = true) (ho : Op.lookupswitch.offset ps.toList dflt k.toInt = off) (ht : (pc : Int) + off = (t : Int)) (K : Sat G E Q cn t ls st h) : Sat G E Q cn pc ls (.int x :: st) h := by
  subst hx
  exact r_lookup t hd hp ho ht K
theorem r_lkD {dflt : Int} {ps : Array (Int × Int)} {len : Nat} {x : Int32} (ks : List Int32) (t : Nat) (hx : ∀ k ∈ ks, ¬ x = k) (hd : decode (mCode E) pc = .ok (.lookupswitch dflt ps, len)) (hp : (ps.toList.zip (ps.toList.drop 1)).all (fun (a, next) => a.1 < next.1) = true) (hk : ps.toList.map (fun q => q.1) = ks.map (fun k => k.toInt)) (ht : (pc : Int) + dflt = (t : Int)) (K : Sat G E Q cn t ls st h) : Sat G E Q cn pc ls (.int x :: st) h := by
  refine r_lookup t hd hp (Op.lookupswitch.offset_none ?_) ht K
  rw [List.find?_eq_none]
  intro q hq
  have h1 : q.1 ∈ ks.map (fun k => k.toInt) := by rw [← hk]; exact List.mem_map_of_mem hq
  obtain ⟨k, hk1, hk2⟩ := List.mem_map.mp h1
  simp only [beq_iff_eq]
  intro h2
  exact hx k hk1 (Int32.toInt_inj.mp (by rw [← h2, ← hk2]))
theorem r_tabK {dflt lo hi off : Int} {offs : Array Int} {len : Nat} {x : Int32} (k : Int32) (t : Nat) (hx : x = k) (hd : decode (mCode E) pc = .ok (.tableswitch dflt lo hi offs, len)) (h1 : ¬ k.toInt < lo) (h2 : ¬ hi < k.toInt) (ho : offs[(k.toInt - lo).toNat]? = some off) (ht : (pc : Int) + off = (t : Int)) (K : Sat G E Q cn t ls st h) : Sat G E Q cn pc ls (.int x :: st) h := by
  subst hx
  exact r_tableIn t hd h1 h2 ho ht K
theorem r_tabD {dflt lo hi : Int} {offs : Array Int} {len : Nat} {x : Int32} (ks : List Int32) (t : Nat) (hx : ∀ k ∈ ks, ¬ x = k) (hd : decode (mCode E) pc = .ok (.tableswitch dflt lo hi offs, len)) (hk : (List.range (hi - lo + 1).toNat).all (fun j => offs[j]? == some dflt || (ks.any (fun k => k.toInt == lo + (j : Int)))) = true) (ht : (pc : Int) + dflt = (t : Int)) (K : Sat G E Q cn t ls st h) : Sat G E Q cn pc ls (.int x :: st) h := by
  by_cases h1 : x.toInt < lo
  · exact r_tableOut t hd (Or.inl h1) ht K
  · by_cases h2 : hi < x.toInt
    · exact r_tableOut t hd (Or.inr h2) ht K
    · have h3 := List.all_eq_true.mp hk (x.toInt - lo).toNat (List.mem_range.mpr (by omega))
      rcases Bool.or_eq_true_iff.mp h3 with h4 | h4
      · exact r_tableIn t hd h1 h2 (by simpa using h4) ht K
      · obtain ⟨k, hk1, hk2⟩ := List.any_eq_true.mp h4
        have hk2 : k.toInt = lo + ((x.toInt - lo).toNat : Int) := by simpa using hk2
        exact absurd (Int32.toInt_inj.mp (by rw [hk2]; omega)) (hx k hk1)
end HELP
theorem vpd {i : Int32} {n : Nat} (h : (decide (i < 0) || decide (n ≤ i.toNatClampNeg)) = false) : vp_in i n := by
  simp only [Bool.or_eq_false_iff, decide_eq_false_iff_not] at h
  exact fun q => q.elim h.1 h.2
theorem r_oinit {G : mG} {E : mEn} {Q : Option Value → mH → Prop} {cn pc ix o : Nat} {ls : List (Option Value)} {st : List Value} {h : mH} (q : Nat) (hd : decode (mCode E) pc = .ok (.invokespecial ix, 3)) (hq : pc + 3 = q) (hl : Cond.methodLink (mOwn E) ix objectInit ∈ m_ws) (hin : Cond.instanceMethod objectInit ∈ m_ws) (hco : Cond.code objectInit ⟨#[0xb1]⟩ 1 none ∈ m_ws) (hht : 1 ≤ mHt E) (hc : (st.map fun v => v.category).sum ≤ 8) (K : Sat G E Q cn q ls st h) : Sat G E Q cn pc ls (.ref o :: st) h := by
  subst hq
  intro p e R s m args below meth c H la locs Qm C hcn hW hS hl9 hr
  have hts := C.2.2.2.2.2.2.1
  obtain ⟨hR1, hR2⟩ := C.2.2.2.2.2.2.2.2.2.1
  have h8 := m_sum8 (G := G) hc
  have h9 : 2 * (F0 m pc la ((Value.ref o :: st).map (tr G))).monitorRoom + ((st.map (tr G)).map fun v => v.category).sum ≤ 8 := lv_room h8
  exact W.objInit C.1 C.2.1 C.2.2.2.2.2.1 (hts _ hl) (hts _ hin) (hts _ hco) rfl (by rw [C.2.2.2.2.1]; exact hl9.1) rfl hd (by omega) (by omega) (K p e R s m args below meth c H la locs Qm C hcn hW hS hl9 hr)
theorem nar_b {x : Int32} (h : x = 0 ∨ x = 1) : narrow .boolean (.int x) = .int x := by rcases h with rfl | rfl <;> decide
theorem vp_lt {i : Int32} {n : Nat} (h : vp_in i n) : i.toNatClampNeg < n := Nat.not_le.mp fun q => h (Or.inr q)
theorem sh_shelf : ∀ k, k < 6 → m_sh (rf 40 k) = (9, 5) := by decide
theorem sr_shelf : ∀ k, k < 6 → m_sr 40 k = rf 40 k + 1 := by decide
theorem sh_0 : m_sh 0 = (11, 10) := by decide
theorem sh_1 : m_sh 1 = (10, 3) := by decide
theorem sh_2 : m_sh 2 = (100, 7) := by decide
theorem sh_3 : m_sh 3 = (100, 2) := by decide
theorem sh_4 : m_sh 4 = (100, 2) := by decide
theorem sh_5 : m_sh 5 = (2, 4) := by decide
theorem sh_6 : m_sh 6 = (100, 32) := by decide
theorem sh_7 : m_sh 7 = (2, 4) := by decide
theorem sh_8 : m_sh 8 = (100, 30) := by decide
theorem sh_9 : m_sh 9 = (6, 4) := by decide
theorem sh_10 : m_sh 10 = (100, 121) := by decide
theorem sh_11 : m_sh 11 = (8, 5) := by decide
theorem sh_12 : m_sh 12 = (100, 120) := by decide
theorem sh_13 : m_sh 13 = (7, 3) := by decide
theorem sh_14 : m_sh 14 = (100, 121) := by decide
theorem sh_15 : m_sh 15 = (100, 121) := by decide
theorem sh_16 : m_sh 16 = (7, 3) := by decide
theorem sh_17 : m_sh 17 = (100, 121) := by decide
theorem sh_18 : m_sh 18 = (100, 121) := by decide
theorem sh_19 : m_sh 19 = (3, 3) := by decide
theorem sh_20 : m_sh 20 = (101, 720) := by decide
theorem sh_21 : m_sh 21 = (100, 820) := by decide
theorem sh_22 : m_sh 22 = (100, 60) := by decide
theorem sh_23 : m_sh 23 = (4, 1) := by decide
theorem sh_24 : m_sh 24 = (100, 7) := by decide
theorem sh_25 : m_sh 25 = (1, 5) := by decide
theorem sh_26 : m_sh 26 = (100, 40) := by decide
theorem sh_27 : m_sh 27 = (100, 40) := by decide
theorem sh_28 : m_sh 28 = (100, 40) := by decide
theorem sh_29 : m_sh 29 = (5, 6) := by decide
theorem sh_30 : m_sh 30 = (2, 4) := by decide
theorem sh_31 : m_sh 31 = (100, 32) := by decide
theorem sh_32 : m_sh 32 = (2, 4) := by decide
theorem sh_33 : m_sh 33 = (100, 30) := by decide
theorem sh_34 : m_sh 34 = (100, 2) := by decide
theorem sh_35 : m_sh 35 = (100, 2) := by decide
theorem sh_36 : m_sh 36 = (100, 2) := by decide
theorem sh_37 : m_sh 37 = (0, 4) := by decide
theorem sh_38 : m_sh 38 = (100, 50) := by decide
theorem sh_39 : m_sh 39 = (100, 24) := by decide
theorem sh_40 : m_sh 40 = (105, 6) := by decide
theorem sh_41 : m_sh 41 = (9, 5) := by decide
theorem sh_42 : m_sh 42 = (104, 60) := by decide
theorem sh_43 : m_sh 43 = (9, 5) := by decide
theorem sh_44 : m_sh 44 = (104, 60) := by decide
theorem sh_45 : m_sh 45 = (9, 5) := by decide
theorem sh_46 : m_sh 46 = (104, 60) := by decide
theorem sh_47 : m_sh 47 = (9, 5) := by decide
theorem sh_48 : m_sh 48 = (104, 60) := by decide
theorem sh_49 : m_sh 49 = (9, 5) := by decide
theorem sh_50 : m_sh 50 = (104, 60) := by decide
theorem sh_51 : m_sh 51 = (9, 5) := by decide
theorem sh_52 : m_sh 52 = (104, 60) := by decide
theorem sh_53 : m_sh 53 = (12, 57) := by decide
theorem sh_54 : m_sh 54 = (100, 2) := by decide
theorem sh_55 : m_sh 55 = (100, 2) := by decide
theorem sh_56 : m_sh 56 = (100, 2) := by decide
theorem sh_57 : m_sh 57 = (100, 2) := by decide
theorem sh_58 : m_sh 58 = (100, 40) := by decide
theorem sh_59 : m_sh 59 = (100, 40) := by decide
theorem sh_60 : m_sh 60 = (100, 40) := by decide
theorem sh_61 : m_sh 61 = (100, 40) := by decide
theorem sh_62 : m_sh 62 = (100, 8) := by decide
theorem sh_63 : m_sh 63 = (100, 8) := by decide
theorem sh_64 : m_sh 64 = (100, 8) := by decide
theorem sh_65 : m_sh 65 = (100, 8) := by decide
theorem sh_66 : m_sh 66 = (100, 10) := by decide
theorem sh_67 : m_sh 67 = (100, 10) := by decide
theorem sh_68 : m_sh 68 = (100, 10) := by decide
theorem sh_69 : m_sh 69 = (102, 120) := by decide
theorem sh_70 : m_sh 70 = (102, 260) := by decide
theorem sh_71 : m_sh 71 = (100, 260) := by decide
theorem sh_72 : m_sh 72 = (100, 2) := by decide
theorem sh_73 : m_sh 73 = (103, 122) := by decide
theorem sh_74 : m_sh 74 = (103, 122) := by decide
theorem sh_75 : m_sh 75 = (100, 5) := by decide
theorem sh_76 : m_sh 76 = (100, 130) := by decide
theorem sh_77 : m_sh 77 = (101, 720) := by decide
theorem sh_78 : m_sh 78 = (100, 60) := by decide
theorem sh_79 : m_sh 79 = (100, 2) := by decide
theorem sh_80 : m_sh 80 = (100, 2) := by decide
theorem sh_81 : m_sh 81 = (100, 2) := by decide
theorem sh_82 : m_sh 82 = (100, 32) := by decide
theorem sh_83 : m_sh 83 = (100, 30) := by decide
theorem sh_84 : m_sh 84 = (100, 50) := by decide
theorem sh_85 : m_sh 85 = (100, 24) := by decide
theorem sh_86 : m_sh 86 = (100, 6) := by decide
theorem sh_87 : m_sh 87 = (100, 6) := by decide
theorem sh_88 : m_sh 88 = (104, 360) := by decide
theorem sh_89 : m_sh 89 = (104, 60) := by decide
theorem rs_2_2 {o : Nat} (hs : m_sh o = (2, 4)) : m_sh (rf o 2) = (100, lenOf (rf o 2)) ∧ m_sr o 2 = rf o 2 + 1 := by
  have h1 : ∀ o, o < 90 → m_sh o = (2, 4) → m_sh (rf o 2) = (100, lenOf (rf o 2)) ∧ m_sr o 2 = rf o 2 + 1 := by decide +kernel
  exact h1 o (ol hs (by decide)) hs
theorem rs_7_0 {o : Nat} (hs : m_sh o = (7, 3)) : m_sh (rf o 0) = (100, lenOf (rf o 0)) ∧ m_sr o 0 = rf o 0 + 1 := by
  have h1 : ∀ o, o < 90 → m_sh o = (7, 3) → m_sh (rf o 0) = (100, lenOf (rf o 0)) ∧ m_sr o 0 = rf o 0 + 1 := by decide +kernel
  exact h1 o (ol hs (by decide)) hs
theorem rs_7_1 {o : Nat} (hs : m_sh o = (7, 3)) : m_sh (rf o 1) = (100, lenOf (rf o 1)) ∧ m_sr o 1 = rf o 1 + 1 := by
  have h1 : ∀ o, o < 90 → m_sh o = (7, 3) → m_sh (rf o 1) = (100, lenOf (rf o 1)) ∧ m_sr o 1 = rf o 1 + 1 := by decide +kernel
  exact h1 o (ol hs (by decide)) hs
theorem rs_9_0 {o : Nat} (hs : m_sh o = (9, 5)) : m_sh (rf o 0) = (104, lenOf (rf o 0)) ∧ m_sr o 0 = rf o 0 + 1 := by
  have h1 : ∀ o, o < 90 → m_sh o = (9, 5) → m_sh (rf o 0) = (104, lenOf (rf o 0)) ∧ m_sr o 0 = rf o 0 + 1 := by decide +kernel
  exact h1 o (ol hs (by decide)) hs
theorem cl_0 : mCl 0 4 RX0 TX0 tyX0 := ⟨rfl, ix_0, tyX0_ok, nmX0, by decide⟩
theorem cl_1 : mCl 1 5 RX1 TX1 tyX1 := ⟨rfl, ix_1, tyX1_ok, nmX1, by decide⟩
theorem cl_2 : mCl 2 4 RX2 TX2 tyX2 := ⟨rfl, ix_2, tyX2_ok, nmX2, by decide⟩
theorem cl_3 : mCl 3 3 RX3 TX3 tyX3 := ⟨rfl, ix_3, tyX3_ok, nmX3, by decide⟩
theorem cl_4 : mCl 4 1 RX4 TX4 tyX4 := ⟨rfl, ix_4, tyX4_ok, nmX4, by decide⟩
theorem cl_5 : mCl 5 6 RX5 TX5 tyX5 := ⟨rfl, ix_5, tyX5_ok, nmX5, by decide⟩
theorem cl_6 : mCl 6 4 RX6 TX6 tyX6 := ⟨rfl, ix_6, tyX6_ok, nmX6, by decide⟩
theorem cl_7 : mCl 7 3 RX7 TX7 tyX7 := ⟨rfl, ix_7, tyX7_ok, nmX7, by decide⟩
theorem cl_8 : mCl 8 5 RX8 TX8 tyX8 := ⟨rfl, ix_8, tyX8_ok, nmX8, by decide⟩
theorem cl_9 : mCl 9 5 RX9 TX9 tyX9 := ⟨rfl, ix_9, tyX9_ok, nmX9, by decide⟩
theorem cl_10 : mCl 10 3 RX10 TX10 tyX10 := ⟨rfl, ix_10, tyX10_ok, nmX10, by decide⟩
theorem cl_11 : mCl 11 10 RX11 TX11 tyX11 := ⟨rfl, ix_11, tyX11_ok, nmX11, by decide⟩
theorem cl_12 : mCl 12 57 RX12 TX12 tyX12 := ⟨rfl, ix_12, tyX12_ok, nmX12, by decide⟩
theorem tb_1 {w : Cond} (i : Nat) (h : tables_1_1[i]? = some w) (hg : goodWord w = true) : w ∈ m_ws := m_in (List.mem_append_right _ (List.mem_append_left _ (List.mem_of_getElem? h))) hg
theorem tb_2 {w : Cond} (i : Nat) (h : tables_1_2[i]? = some w) (hg : goodWord w = true) : w ∈ m_ws := m_in (List.mem_append_right _ (List.mem_append_right _ (List.mem_append_left _ (List.mem_of_getElem? h)))) hg
theorem tb_3 {w : Cond} (i : Nat) (h : tables_1_3[i]? = some w) (hg : goodWord w = true) : w ∈ m_ws := m_in (List.mem_append_right _ (List.mem_append_right _ (List.mem_append_right _ (List.mem_append_left _ (List.mem_of_getElem? h))))) hg
theorem tb_4 {w : Cond} (i : Nat) (h : tables_1_4[i]? = some w) (hg : goodWord w = true) : w ∈ m_ws := m_in (List.mem_append_right _ (List.mem_append_right _ (List.mem_append_right _ (List.mem_append_right _ (List.mem_append_left _ (List.mem_of_getElem? h)))))) hg
theorem tb_5 {w : Cond} (i : Nat) (h : tables_1_5[i]? = some w) (hg : goodWord w = true) : w ∈ m_ws := m_in (List.mem_append_right _ (List.mem_append_right _ (List.mem_append_right _ (List.mem_append_right _ (List.mem_append_right _ (List.mem_append_left _ (List.mem_of_getElem? h))))))) hg
theorem tb_6 {w : Cond} (i : Nat) (h : tables_1_6[i]? = some w) (hg : goodWord w = true) : w ∈ m_ws := m_in (List.mem_append_right _ (List.mem_append_right _ (List.mem_append_right _ (List.mem_append_right _ (List.mem_append_right _ (List.mem_append_right _ (List.mem_of_getElem? h))))))) hg
theorem q_68 : (Jvm.Cond.initialized "OneHandEachLaw") ∈ m_ws := tb_1 0 rfl rfl
theorem q_69 : (Jvm.Cond.initialized "OneHandEach") ∈ m_ws := tb_1 1 rfl rfl
theorem q_70 : (Jvm.Cond.initialized "OneHandEach$Town") ∈ m_ws := tb_1 2 rfl rfl
theorem q_71 : (Jvm.Cond.initialized "OneHandEach$Entries") ∈ m_ws := tb_1 3 rfl rfl
theorem q_72 : (Jvm.Cond.initialized "OneHandEach$Law") ∈ m_ws := tb_1 4 rfl rfl
theorem q_73 : (Jvm.Cond.initialized "OneHandEach$Reader") ∈ m_ws := tb_1 5 rfl rfl
theorem q_74 : (Jvm.Cond.initialized "OneHandEach$Program") ∈ m_ws := tb_1 6 rfl rfl
theorem q_75 : (Jvm.Cond.initialized "OneHandEach$Fitting") ∈ m_ws := tb_1 7 rfl rfl
theorem q_76 : (Jvm.Cond.initialized "OneHandEach$Guesses") ∈ m_ws := tb_1 8 rfl rfl
theorem q_77 : (Jvm.Cond.initialized "OneHandEach$Changes") ∈ m_ws := tb_1 9 rfl rfl
theorem q_78 : (Jvm.Cond.initialized "OneHandEach$Image") ∈ m_ws := tb_1 10 rfl rfl
theorem q_79 : (Jvm.Cond.initialized "OneHandEach$Bodies") ∈ m_ws := tb_1 11 rfl rfl
theorem q_80 : (Jvm.Cond.initialized "OneHandEach$Shelf") ∈ m_ws := tb_1 12 rfl rfl
theorem q_81 : (Jvm.Cond.initialized "OneHandEachModel") ∈ m_ws := tb_1 13 rfl rfl
theorem q_82 : (Jvm.Cond.initialized "java/lang/Math") ∈ m_ws := tb_1 14 rfl rfl
theorem q_83 : (Jvm.Cond.initialized "java/lang/Integer") ∈ m_ws := tb_1 15 rfl rfl
theorem q_84 : (Jvm.Cond.initialized "java/lang/System") ∈ m_ws := tb_1 16 rfl rfl
theorem q_85 : (Jvm.Cond.classLink "OneHandEachLaw" (7 : Nat) "OneHandEach") ∈ m_ws := tb_1 17 rfl rfl
theorem q_86 : (Jvm.Cond.instantiable "OneHandEach" (10 : Nat)) ∈ m_ws := tb_1 18 rfl rfl
theorem q_87 : (Jvm.Cond.methodLink "OneHandEachLaw" (9 : Nat) ({ cls := "OneHandEach", name := "<init>", desc := "()V" } : Jvm.MethodName)) ∈ m_ws := tb_1 19 rfl rfl
theorem q_88 : (Jvm.Cond.instanceMethod ({ cls := "OneHandEach", name := "<init>", desc := "()V" } : Jvm.MethodName)) ∈ m_ws := tb_1 20 rfl rfl
theorem q_89 : (Jvm.Cond.code ({ cls := "OneHandEach", name := "<init>", desc := "()V" } : Jvm.MethodName) prog_1_method_1_code (2 : Nat) (Option.none : Option Jvm.ClassFile.FieldType)) ∈ m_ws := tb_1 21 rfl rfl
theorem q_90 : (Jvm.Cond.methodLink "OneHandEach" (1 : Nat) ({ cls := "java/lang/Object", name := "<init>", desc := "()V" } : Jvm.MethodName)) ∈ m_ws := tb_1 22 rfl rfl
theorem q_91 : (Jvm.Cond.instanceMethod ({ cls := "java/lang/Object", name := "<init>", desc := "()V" } : Jvm.MethodName)) ∈ m_ws := tb_1 23 rfl rfl
theorem q_92 : (Jvm.Cond.code ({ cls := "java/lang/Object", name := "<init>", desc := "()V" } : Jvm.MethodName) object_method_1_code (1 : Nat) (Option.none : Option Jvm.ClassFile.FieldType)) ∈ m_ws := tb_1 24 rfl rfl
theorem q_93 : (Jvm.Cond.classLink "OneHandEach" (7 : Nat) "OneHandEach$Town") ∈ m_ws := tb_1 25 rfl rfl
theorem q_94 : (Jvm.Cond.instantiable "OneHandEach$Town" (3 : Nat)) ∈ m_ws := tb_1 26 rfl rfl
theorem q_95 : (Jvm.Cond.methodLink "OneHandEach" (9 : Nat) ({ cls := "OneHandEach$Town", name := "<init>", desc := "()V" } : Jvm.MethodName)) ∈ m_ws := tb_1 27 rfl rfl
theorem q_96 : (Jvm.Cond.instanceMethod ({ cls := "OneHandEach$Town", name := "<init>", desc := "()V" } : Jvm.MethodName)) ∈ m_ws := tb_1 28 rfl rfl
theorem q_97 : (Jvm.Cond.code ({ cls := "OneHandEach$Town", name := "<init>", desc := "()V" } : Jvm.MethodName) prog_12_method_1_code (1 : Nat) (Option.none : Option Jvm.ClassFile.FieldType)) ∈ m_ws := tb_1 29 rfl rfl
theorem q_98 : (Jvm.Cond.methodLink "OneHandEach$Town" (3 : Nat) ({ cls := "java/lang/Object", name := "<init>", desc := "()V" } : Jvm.MethodName)) ∈ m_ws := tb_1 30 rfl rfl
theorem q_99 : (Jvm.Cond.fieldLink "OneHandEach$Town" (9 : Nat) "OneHandEach$Town" "amounts" "[I") ∈ m_ws := tb_1 31 rfl rfl
theorem q_100 : (Jvm.Cond.fieldLink "OneHandEach" (86 : Nat) "OneHandEach$Town" "amounts" "[I") ∈ m_ws := tb_1 32 rfl rfl
theorem q_101 : (Jvm.Cond.fieldLink "OneHandEach$Fitting" (44 : Nat) "OneHandEach$Town" "amounts" "[I") ∈ m_ws := tb_1 33 rfl rfl
theorem q_102 : (Jvm.Cond.fieldLink "OneHandEach$Changes" (31 : Nat) "OneHandEach$Town" "amounts" "[I") ∈ m_ws := tb_1 34 rfl rfl
theorem q_103 : (Jvm.Cond.fieldLink "OneHandEach$Town" (15 : Nat) "OneHandEach$Town" "timesSet" "[I") ∈ m_ws := tb_1 35 rfl rfl
theorem q_104 : (Jvm.Cond.fieldLink "OneHandEach" (218 : Nat) "OneHandEach$Town" "timesSet" "[I") ∈ m_ws := tb_1 36 rfl rfl
theorem q_105 : (Jvm.Cond.fieldLink "OneHandEach$Town" (18 : Nat) "OneHandEach$Town" "latestSet" "[I") ∈ m_ws := tb_1 37 rfl rfl
theorem q_106 : (Jvm.Cond.fieldLink "OneHandEach" (221 : Nat) "OneHandEach$Town" "latestSet" "[I") ∈ m_ws := tb_1 38 rfl rfl
theorem q_114 : (Jvm.Cond.arrayClass Jvm.ClassFile.FieldType.int) ∈ m_ws := tb_1 46 rfl rfl
theorem q_115 : (Jvm.Cond.classLink "OneHandEach" (16 : Nat) "OneHandEach$Entries") ∈ m_ws := tb_1 47 rfl rfl
theorem q_116 : (Jvm.Cond.instantiable "OneHandEach$Entries" (4 : Nat)) ∈ m_ws := tb_1 48 rfl rfl
theorem q_117 : (Jvm.Cond.methodLink "OneHandEach" (18 : Nat) ({ cls := "OneHandEach$Entries", name := "<init>", desc := "(II)V" } : Jvm.MethodName)) ∈ m_ws := tb_1 49 rfl rfl
theorem q_118 : (Jvm.Cond.instanceMethod ({ cls := "OneHandEach$Entries", name := "<init>", desc := "(II)V" } : Jvm.MethodName)) ∈ m_ws := tb_1 50 rfl rfl
theorem q_119 : (Jvm.Cond.code ({ cls := "OneHandEach$Entries", name := "<init>", desc := "(II)V" } : Jvm.MethodName) prog_4_method_1_code (3 : Nat) (Option.none : Option Jvm.ClassFile.FieldType)) ∈ m_ws := tb_1 51 rfl rfl
theorem q_120 : (Jvm.Cond.methodLink "OneHandEach$Entries" (3 : Nat) ({ cls := "java/lang/Object", name := "<init>", desc := "()V" } : Jvm.MethodName)) ∈ m_ws := tb_1 52 rfl rfl
theorem q_121 : (Jvm.Cond.fieldLink "OneHandEach$Entries" (9 : Nat) "OneHandEach$Entries" "most" "I") ∈ m_ws := tb_1 53 rfl rfl
theorem q_122 : (Jvm.Cond.fieldLink "OneHandEach$Entries" (15 : Nat) "OneHandEach$Entries" "width" "I") ∈ m_ws := tb_1 54 rfl rfl
theorem q_123 : (Jvm.Cond.fieldLink "OneHandEach$Entries" (18 : Nat) "OneHandEach$Entries" "numbers" "[I") ∈ m_ws := tb_1 55 rfl rfl
theorem q_124 : (Jvm.Cond.fieldLink "OneHandEach$Entries" (22 : Nat) "OneHandEach$Entries" "count" "I") ∈ m_ws := tb_1 56 rfl rfl
theorem q_125 : (Jvm.Cond.fieldLink "OneHandEach$Fitting" (25 : Nat) "OneHandEach$Entries" "count" "I") ∈ m_ws := tb_1 57 rfl rfl
theorem q_126 : (Jvm.Cond.fieldLink "OneHandEach$Guesses" (38 : Nat) "OneHandEach$Entries" "count" "I") ∈ m_ws := tb_1 58 rfl rfl
theorem q_127 : (Jvm.Cond.fieldLink "OneHandEach" (152 : Nat) "OneHandEach$Entries" "count" "I") ∈ m_ws := tb_1 59 rfl rfl
theorem q_137 : (Jvm.Cond.classLink "OneHandEach" (28 : Nat) "OneHandEach$Law") ∈ m_ws := tb_1 69 rfl rfl
theorem q_138 : (Jvm.Cond.instantiable "OneHandEach$Law" (4 : Nat)) ∈ m_ws := tb_1 70 rfl rfl
theorem q_139 : (Jvm.Cond.methodLink "OneHandEach" (30 : Nat) ({ cls := "OneHandEach$Law", name := "<init>", desc := "()V" } : Jvm.MethodName)) ∈ m_ws := tb_1 71 rfl rfl
theorem q_140 : (Jvm.Cond.instanceMethod ({ cls := "OneHandEach$Law", name := "<init>", desc := "()V" } : Jvm.MethodName)) ∈ m_ws := tb_1 72 rfl rfl
theorem q_141 : (Jvm.Cond.code ({ cls := "OneHandEach$Law", name := "<init>", desc := "()V" } : Jvm.MethodName) prog_8_method_1_code (1 : Nat) (Option.none : Option Jvm.ClassFile.FieldType)) ∈ m_ws := tb_1 73 rfl rfl
theorem q_142 : (Jvm.Cond.methodLink "OneHandEach$Law" (1 : Nat) ({ cls := "java/lang/Object", name := "<init>", desc := "()V" } : Jvm.MethodName)) ∈ m_ws := tb_1 74 rfl rfl
theorem q_143 : (Jvm.Cond.classLink "OneHandEach$Law" (15 : Nat) "OneHandEach$Reader") ∈ m_ws := tb_1 75 rfl rfl
theorem q_144 : (Jvm.Cond.instantiable "OneHandEach$Reader" (5 : Nat)) ∈ m_ws := tb_1 76 rfl rfl
theorem q_145 : (Jvm.Cond.methodLink "OneHandEach$Law" (17 : Nat) ({ cls := "OneHandEach$Reader", name := "<init>", desc := "()V" } : Jvm.MethodName)) ∈ m_ws := tb_1 77 rfl rfl
theorem q_146 : (Jvm.Cond.instanceMethod ({ cls := "OneHandEach$Reader", name := "<init>", desc := "()V" } : Jvm.MethodName)) ∈ m_ws := tb_1 78 rfl rfl
theorem q_147 : (Jvm.Cond.code ({ cls := "OneHandEach$Reader", name := "<init>", desc := "()V" } : Jvm.MethodName) prog_10_method_1_code (1 : Nat) (Option.none : Option Jvm.ClassFile.FieldType)) ∈ m_ws := tb_1 79 rfl rfl
theorem q_148 : (Jvm.Cond.methodLink "OneHandEach$Reader" (3 : Nat) ({ cls := "java/lang/Object", name := "<init>", desc := "()V" } : Jvm.MethodName)) ∈ m_ws := tb_1 80 rfl rfl
theorem q_149 : (Jvm.Cond.classLink "OneHandEach$Reader" (15 : Nat) "OneHandEach$Program") ∈ m_ws := tb_1 81 rfl rfl
theorem q_150 : (Jvm.Cond.instantiable "OneHandEach$Program" (3 : Nat)) ∈ m_ws := tb_1 82 rfl rfl
theorem q_151 : (Jvm.Cond.methodLink "OneHandEach$Reader" (17 : Nat) ({ cls := "OneHandEach$Program", name := "<init>", desc := "()V" } : Jvm.MethodName)) ∈ m_ws := tb_1 83 rfl rfl
theorem q_152 : (Jvm.Cond.instanceMethod ({ cls := "OneHandEach$Program", name := "<init>", desc := "()V" } : Jvm.MethodName)) ∈ m_ws := tb_1 84 rfl rfl
theorem q_153 : (Jvm.Cond.code ({ cls := "OneHandEach$Program", name := "<init>", desc := "()V" } : Jvm.MethodName) prog_9_method_1_code (1 : Nat) (Option.none : Option Jvm.ClassFile.FieldType)) ∈ m_ws := tb_1 85 rfl rfl
theorem q_154 : (Jvm.Cond.methodLink "OneHandEach$Program" (1 : Nat) ({ cls := "java/lang/Object", name := "<init>", desc := "()V" } : Jvm.MethodName)) ∈ m_ws := tb_1 86 rfl rfl
theorem q_155 : (Jvm.Cond.fieldLink "OneHandEach$Program" (9 : Nat) "OneHandEach$Program" "steps" "[I") ∈ m_ws := tb_1 87 rfl rfl
theorem q_156 : (Jvm.Cond.fieldLink "OneHandEach$Law" (60 : Nat) "OneHandEach$Program" "steps" "[I") ∈ m_ws := tb_1 88 rfl rfl
theorem q_157 : (Jvm.Cond.fieldLink "OneHandEach$Program" (13 : Nat) "OneHandEach$Program" "values" "[I") ∈ m_ws := tb_1 89 rfl rfl
theorem q_158 : (Jvm.Cond.fieldLink "OneHandEach$Law" (74 : Nat) "OneHandEach$Program" "values" "[I") ∈ m_ws := tb_1 90 rfl rfl
theorem q_159 : (Jvm.Cond.fieldLink "OneHandEach$Program" (16 : Nat) "OneHandEach$Program" "length" "I") ∈ m_ws := tb_1 91 rfl rfl
theorem q_160 : (Jvm.Cond.fieldLink "OneHandEach$Reader" (32 : Nat) "OneHandEach$Program" "length" "I") ∈ m_ws := tb_1 92 rfl rfl
theorem q_161 : (Jvm.Cond.fieldLink "OneHandEach$Law" (59 : Nat) "OneHandEach$Program" "length" "I") ∈ m_ws := tb_1 93 rfl rfl
theorem q_169 : (Jvm.Cond.fieldLink "OneHandEach$Reader" (11 : Nat) "OneHandEach$Reader" "tape" "[I") ∈ m_ws := tb_1 101 rfl rfl
theorem q_170 : (Jvm.Cond.fieldLink "OneHandEach$Reader" (22 : Nat) "OneHandEach$Reader" "length" "I") ∈ m_ws := tb_1 102 rfl rfl
theorem q_172 : (Jvm.Cond.fieldLink "OneHandEach$Reader" (26 : Nat) "OneHandEach$Reader" "at" "I") ∈ m_ws := tb_1 104 rfl rfl
theorem q_173 : (Jvm.Cond.fieldLink "OneHandEach$Reader" (29 : Nat) "OneHandEach$Reader" "fault" "I") ∈ m_ws := tb_1 105 rfl rfl
theorem q_174 : (Jvm.Cond.fieldLink "OneHandEach$Reader" (18 : Nat) "OneHandEach$Reader" "into" "LOneHandEach$Program;") ∈ m_ws := tb_1 106 rfl rfl
theorem q_175 : (Jvm.Cond.fieldLink "OneHandEach$Law" (39 : Nat) "OneHandEach$Reader" "into" "LOneHandEach$Program;") ∈ m_ws := tb_1 107 rfl rfl
theorem q_187 : (Jvm.Cond.classLink "OneHandEach$Law" (7 : Nat) "OneHandEach$Program") ∈ m_ws := tb_1 119 rfl rfl
theorem q_188 : (Jvm.Cond.methodLink "OneHandEach$Law" (22 : Nat) ({ cls := "OneHandEach$Program", name := "<init>", desc := "()V" } : Jvm.MethodName)) ∈ m_ws := tb_1 120 rfl rfl
theorem q_189 : (Jvm.Cond.fieldLink "OneHandEach$Law" (9 : Nat) "OneHandEach$Law" "stack" "[I") ∈ m_ws := tb_1 121 rfl rfl
theorem q_190 : (Jvm.Cond.fieldLink "OneHandEach$Law" (18 : Nat) "OneHandEach$Law" "reader" "LOneHandEach$Reader;") ∈ m_ws := tb_1 122 rfl rfl
theorem q_191 : (Jvm.Cond.fieldLink "OneHandEach$Law" (23 : Nat) "OneHandEach$Law" "valid" "LOneHandEach$Program;") ∈ m_ws := tb_1 123 rfl rfl
theorem q_192 : (Jvm.Cond.fieldLink "OneHandEach$Law" (42 : Nat) "OneHandEach$Law" "there" "Z") ∈ m_ws := tb_1 124 rfl rfl
theorem q_202 : (Jvm.Cond.classLink "OneHandEach" (35 : Nat) "OneHandEach$Fitting") ∈ m_ws := tb_1 134 rfl rfl
theorem q_203 : (Jvm.Cond.instantiable "OneHandEach$Fitting" (3 : Nat)) ∈ m_ws := tb_1 135 rfl rfl
theorem q_204 : (Jvm.Cond.methodLink "OneHandEach" (37 : Nat) ({ cls := "OneHandEach$Fitting", name := "<init>", desc := "()V" } : Jvm.MethodName)) ∈ m_ws := tb_1 136 rfl rfl
theorem q_205 : (Jvm.Cond.instanceMethod ({ cls := "OneHandEach$Fitting", name := "<init>", desc := "()V" } : Jvm.MethodName)) ∈ m_ws := tb_1 137 rfl rfl
theorem q_206 : (Jvm.Cond.code ({ cls := "OneHandEach$Fitting", name := "<init>", desc := "()V" } : Jvm.MethodName) prog_5_method_1_code (1 : Nat) (Option.none : Option Jvm.ClassFile.FieldType)) ∈ m_ws := tb_1 138 rfl rfl
theorem q_207 : (Jvm.Cond.methodLink "OneHandEach$Fitting" (3 : Nat) ({ cls := "java/lang/Object", name := "<init>", desc := "()V" } : Jvm.MethodName)) ∈ m_ws := tb_1 139 rfl rfl
theorem q_208 : (Jvm.Cond.fieldLink "OneHandEach$Fitting" (9 : Nat) "OneHandEach$Fitting" "fit" "[Z") ∈ m_ws := tb_1 140 rfl rfl
theorem q_209 : (Jvm.Cond.fieldLink "OneHandEach" (171 : Nat) "OneHandEach$Fitting" "fit" "[Z") ∈ m_ws := tb_1 141 rfl rfl
theorem q_210 : (Jvm.Cond.fieldLink "OneHandEach$Fitting" (15 : Nat) "OneHandEach$Fitting" "nearAhead" "[I") ∈ m_ws := tb_1 142 rfl rfl
theorem q_211 : (Jvm.Cond.fieldLink "OneHandEach$Fitting" (19 : Nat) "OneHandEach$Fitting" "tally" "[I") ∈ m_ws := tb_1 143 rfl rfl
theorem q_219 : (Jvm.Cond.arrayClass Jvm.ClassFile.FieldType.boolean) ∈ m_ws := tb_1 151 rfl rfl
theorem q_220 : (Jvm.Cond.classLink "OneHandEach" (42 : Nat) "OneHandEach$Guesses") ∈ m_ws := tb_1 152 rfl rfl
theorem q_221 : (Jvm.Cond.instantiable "OneHandEach$Guesses" (1 : Nat)) ∈ m_ws := tb_1 153 rfl rfl
theorem q_222 : (Jvm.Cond.methodLink "OneHandEach" (44 : Nat) ({ cls := "OneHandEach$Guesses", name := "<init>", desc := "()V" } : Jvm.MethodName)) ∈ m_ws := tb_1 154 rfl rfl
theorem q_223 : (Jvm.Cond.instanceMethod ({ cls := "OneHandEach$Guesses", name := "<init>", desc := "()V" } : Jvm.MethodName)) ∈ m_ws := tb_1 155 rfl rfl
theorem q_224 : (Jvm.Cond.code ({ cls := "OneHandEach$Guesses", name := "<init>", desc := "()V" } : Jvm.MethodName) prog_6_method_1_code (1 : Nat) (Option.none : Option Jvm.ClassFile.FieldType)) ∈ m_ws := tb_1 156 rfl rfl
theorem q_225 : (Jvm.Cond.methodLink "OneHandEach$Guesses" (3 : Nat) ({ cls := "java/lang/Object", name := "<init>", desc := "()V" } : Jvm.MethodName)) ∈ m_ws := tb_1 157 rfl rfl
theorem q_226 : (Jvm.Cond.fieldLink "OneHandEach$Guesses" (9 : Nat) "OneHandEach$Guesses" "told" "[I") ∈ m_ws := tb_1 158 rfl rfl
theorem q_227 : (Jvm.Cond.fieldLink "OneHandEach" (199 : Nat) "OneHandEach$Guesses" "told" "[I") ∈ m_ws := tb_1 159 rfl rfl
theorem q_231 : (Jvm.Cond.classLink "OneHandEach" (49 : Nat) "OneHandEach$Changes") ∈ m_ws := tb_1 163 rfl rfl
theorem q_232 : (Jvm.Cond.instantiable "OneHandEach$Changes" (5 : Nat)) ∈ m_ws := tb_1 164 rfl rfl
theorem q_233 : (Jvm.Cond.methodLink "OneHandEach" (51 : Nat) ({ cls := "OneHandEach$Changes", name := "<init>", desc := "()V" } : Jvm.MethodName)) ∈ m_ws := tb_1 165 rfl rfl
theorem q_234 : (Jvm.Cond.instanceMethod ({ cls := "OneHandEach$Changes", name := "<init>", desc := "()V" } : Jvm.MethodName)) ∈ m_ws := tb_1 166 rfl rfl
theorem q_235 : (Jvm.Cond.code ({ cls := "OneHandEach$Changes", name := "<init>", desc := "()V" } : Jvm.MethodName) prog_3_method_1_code (1 : Nat) (Option.none : Option Jvm.ClassFile.FieldType)) ∈ m_ws := tb_1 167 rfl rfl
theorem q_236 : (Jvm.Cond.methodLink "OneHandEach$Changes" (3 : Nat) ({ cls := "java/lang/Object", name := "<init>", desc := "()V" } : Jvm.MethodName)) ∈ m_ws := tb_1 168 rfl rfl
theorem q_237 : (Jvm.Cond.fieldLink "OneHandEach$Changes" (11 : Nat) "OneHandEach$Changes" "places" "[I") ∈ m_ws := tb_1 169 rfl rfl
theorem q_238 : (Jvm.Cond.fieldLink "OneHandEach$Changes" (15 : Nat) "OneHandEach$Changes" "was" "[I") ∈ m_ws := tb_1 170 rfl rfl
theorem q_239 : (Jvm.Cond.fieldLink "OneHandEach$Changes" (18 : Nat) "OneHandEach$Changes" "became" "[I") ∈ m_ws := tb_1 171 rfl rfl
theorem q_240 : (Jvm.Cond.fieldLink "OneHandEach$Changes" (21 : Nat) "OneHandEach$Changes" "done" "I") ∈ m_ws := tb_1 172 rfl rfl
theorem q_241 : (Jvm.Cond.fieldLink "OneHandEach" (310 : Nat) "OneHandEach$Changes" "done" "I") ∈ m_ws := tb_1 173 rfl rfl
theorem q_242 : (Jvm.Cond.fieldLink "OneHandEach$Changes" (28 : Nat) "OneHandEach$Changes" "known" "I") ∈ m_ws := tb_1 174 rfl rfl
theorem q_254 : (Jvm.Cond.classLink "OneHandEach" (56 : Nat) "OneHandEach$Image") ∈ m_ws := tb_1 186 rfl rfl
theorem q_255 : (Jvm.Cond.instantiable "OneHandEach$Image" (6 : Nat)) ∈ m_ws := tb_1 187 rfl rfl
theorem q_256 : (Jvm.Cond.methodLink "OneHandEach" (58 : Nat) ({ cls := "OneHandEach$Image", name := "<init>", desc := "()V" } : Jvm.MethodName)) ∈ m_ws := tb_1 188 rfl rfl
theorem q_257 : (Jvm.Cond.instanceMethod ({ cls := "OneHandEach$Image", name := "<init>", desc := "()V" } : Jvm.MethodName)) ∈ m_ws := tb_1 189 rfl rfl
theorem q_258 : (Jvm.Cond.code ({ cls := "OneHandEach$Image", name := "<init>", desc := "()V" } : Jvm.MethodName) prog_7_method_1_code (1 : Nat) (Option.none : Option Jvm.ClassFile.FieldType)) ∈ m_ws := tb_1 190 rfl rfl
theorem q_259 : (Jvm.Cond.methodLink "OneHandEach$Image" (1 : Nat) ({ cls := "java/lang/Object", name := "<init>", desc := "()V" } : Jvm.MethodName)) ∈ m_ws := tb_1 191 rfl rfl
theorem q_260 : (Jvm.Cond.classLink "OneHandEach$Image" (7 : Nat) "OneHandEach$Entries") ∈ m_ws := tb_1 192 rfl rfl
theorem q_261 : (Jvm.Cond.methodLink "OneHandEach$Image" (9 : Nat) ({ cls := "OneHandEach$Entries", name := "<init>", desc := "(II)V" } : Jvm.MethodName)) ∈ m_ws := tb_1 193 rfl rfl
theorem q_262 : (Jvm.Cond.fieldLink "OneHandEach$Image" (12 : Nat) "OneHandEach$Image" "sights" "LOneHandEach$Entries;") ∈ m_ws := tb_1 194 rfl rfl
theorem q_263 : (Jvm.Cond.fieldLink "OneHandEach" (238 : Nat) "OneHandEach$Image" "sights" "LOneHandEach$Entries;") ∈ m_ws := tb_1 195 rfl rfl
theorem q_264 : (Jvm.Cond.fieldLink "OneHandEach$Image" (18 : Nat) "OneHandEach$Image" "guns" "LOneHandEach$Entries;") ∈ m_ws := tb_1 196 rfl rfl
theorem q_265 : (Jvm.Cond.fieldLink "OneHandEach" (243 : Nat) "OneHandEach$Image" "guns" "LOneHandEach$Entries;") ∈ m_ws := tb_1 197 rfl rfl
theorem q_266 : (Jvm.Cond.fieldLink "OneHandEach$Image" (21 : Nat) "OneHandEach$Image" "off" "[I") ∈ m_ws := tb_1 198 rfl rfl
theorem q_267 : (Jvm.Cond.fieldLink "OneHandEach" (244 : Nat) "OneHandEach$Image" "off" "[I") ∈ m_ws := tb_1 199 rfl rfl
theorem q_268 : (Jvm.Cond.fieldLink "OneHandEach$Image" (25 : Nat) "OneHandEach$Image" "timesSet" "[I") ∈ m_ws := tb_1 200 rfl rfl
theorem q_269 : (Jvm.Cond.fieldLink "OneHandEach" (249 : Nat) "OneHandEach$Image" "timesSet" "[I") ∈ m_ws := tb_1 201 rfl rfl
theorem q_270 : (Jvm.Cond.fieldLink "OneHandEach$Image" (28 : Nat) "OneHandEach$Image" "latestSet" "[I") ∈ m_ws := tb_1 202 rfl rfl
theorem q_271 : (Jvm.Cond.fieldLink "OneHandEach" (250 : Nat) "OneHandEach$Image" "latestSet" "[I") ∈ m_ws := tb_1 203 rfl rfl
theorem q_272 : (Jvm.Cond.fieldLink "OneHandEach" (234 : Nat) "OneHandEach$Image" "there" "Z") ∈ m_ws := tb_1 204 rfl rfl
theorem q_286 : (Jvm.Cond.classLink "OneHandEach" (63 : Nat) "OneHandEach$Bodies") ∈ m_ws := tb_1 218 rfl rfl
theorem q_287 : (Jvm.Cond.instantiable "OneHandEach$Bodies" (4 : Nat)) ∈ m_ws := tb_1 219 rfl rfl
theorem q_288 : (Jvm.Cond.methodLink "OneHandEach" (65 : Nat) ({ cls := "OneHandEach$Bodies", name := "<init>", desc := "()V" } : Jvm.MethodName)) ∈ m_ws := tb_1 220 rfl rfl
theorem q_289 : (Jvm.Cond.instanceMethod ({ cls := "OneHandEach$Bodies", name := "<init>", desc := "()V" } : Jvm.MethodName)) ∈ m_ws := tb_1 221 rfl rfl
theorem q_290 : (Jvm.Cond.code ({ cls := "OneHandEach$Bodies", name := "<init>", desc := "()V" } : Jvm.MethodName) prog_2_method_1_code (1 : Nat) (Option.none : Option Jvm.ClassFile.FieldType)) ∈ m_ws := tb_1 222 rfl rfl
theorem q_291 : (Jvm.Cond.methodLink "OneHandEach$Bodies" (3 : Nat) ({ cls := "java/lang/Object", name := "<init>", desc := "()V" } : Jvm.MethodName)) ∈ m_ws := tb_1 223 rfl rfl
theorem q_292 : (Jvm.Cond.fieldLink "OneHandEach$Bodies" (11 : Nat) "OneHandEach$Bodies" "kinds" "[I") ∈ m_ws := tb_1 224 rfl rfl
theorem q_293 : (Jvm.Cond.fieldLink "OneHandEach$Bodies" (15 : Nat) "OneHandEach$Bodies" "traced" "[I") ∈ m_ws := tb_1 225 rfl rfl
theorem q_294 : (Jvm.Cond.fieldLink "OneHandEach" (269 : Nat) "OneHandEach$Bodies" "traced" "[I") ∈ m_ws := tb_1 226 rfl rfl
theorem q_295 : (Jvm.Cond.fieldLink "OneHandEach$Bodies" (18 : Nat) "OneHandEach$Bodies" "count" "I") ∈ m_ws := tb_1 227 rfl rfl
theorem q_296 : (Jvm.Cond.fieldLink "OneHandEach" (272 : Nat) "OneHandEach$Bodies" "count" "I") ∈ m_ws := tb_1 228 rfl rfl
theorem q_297 : (Jvm.Cond.fieldLink "OneHandEach$Bodies" (29 : Nat) "OneHandEach$Bodies" "ran" "I") ∈ m_ws := tb_1 229 rfl rfl
theorem q_298 : (Jvm.Cond.fieldLink "OneHandEach" (266 : Nat) "OneHandEach$Bodies" "ran" "I") ∈ m_ws := tb_1 230 rfl rfl
theorem q_308 : (Jvm.Cond.classLink "OneHandEach" (70 : Nat) "OneHandEach$Shelf") ∈ m_ws := tb_2 0 rfl rfl
theorem q_310 : (Jvm.Cond.instantiable "OneHandEach$Shelf" (5 : Nat)) ∈ m_ws := tb_2 2 rfl rfl
theorem q_311 : (Jvm.Cond.methodLink "OneHandEach" (76 : Nat) ({ cls := "OneHandEach$Shelf", name := "<init>", desc := "()V" } : Jvm.MethodName)) ∈ m_ws := tb_2 3 rfl rfl
theorem q_312 : (Jvm.Cond.instanceMethod ({ cls := "OneHandEach$Shelf", name := "<init>", desc := "()V" } : Jvm.MethodName)) ∈ m_ws := tb_2 4 rfl rfl
theorem q_313 : (Jvm.Cond.code ({ cls := "OneHandEach$Shelf", name := "<init>", desc := "()V" } : Jvm.MethodName) prog_11_method_1_code (1 : Nat) (Option.none : Option Jvm.ClassFile.FieldType)) ∈ m_ws := tb_2 5 rfl rfl
theorem q_314 : (Jvm.Cond.methodLink "OneHandEach$Shelf" (1 : Nat) ({ cls := "java/lang/Object", name := "<init>", desc := "()V" } : Jvm.MethodName)) ∈ m_ws := tb_2 6 rfl rfl
theorem q_315 : (Jvm.Cond.fieldLink "OneHandEach$Shelf" (9 : Nat) "OneHandEach$Shelf" "elements" "[J") ∈ m_ws := tb_2 7 rfl rfl
theorem q_316 : (Jvm.Cond.fieldLink "OneHandEach" (282 : Nat) "OneHandEach$Shelf" "elements" "[J") ∈ m_ws := tb_2 8 rfl rfl
theorem q_317 : (Jvm.Cond.fieldLink "OneHandEach$Shelf" (13 : Nat) "OneHandEach$Shelf" "held" "I") ∈ m_ws := tb_2 9 rfl rfl
theorem q_318 : (Jvm.Cond.fieldLink "OneHandEach" (141 : Nat) "OneHandEach$Shelf" "held" "I") ∈ m_ws := tb_2 10 rfl rfl
theorem q_319 : (Jvm.Cond.fieldLink "OneHandEach" (273 : Nat) "OneHandEach$Shelf" "body" "I") ∈ m_ws := tb_2 11 rfl rfl
theorem q_320 : (Jvm.Cond.fieldLink "OneHandEach$Shelf" (17 : Nat) "OneHandEach$Shelf" "sort" "I") ∈ m_ws := tb_2 12 rfl rfl
theorem q_321 : (Jvm.Cond.fieldLink "OneHandEach" (292 : Nat) "OneHandEach$Shelf" "sort" "I") ∈ m_ws := tb_2 13 rfl rfl
theorem q_322 : (Jvm.Cond.fieldLink "OneHandEach$Shelf" (20 : Nat) "OneHandEach$Shelf" "length" "I") ∈ m_ws := tb_2 14 rfl rfl
theorem q_323 : (Jvm.Cond.fieldLink "OneHandEach" (227 : Nat) "OneHandEach$Shelf" "length" "I") ∈ m_ws := tb_2 15 rfl rfl
theorem q_335 : (Jvm.Cond.arrayClass Jvm.ClassFile.FieldType.long) ∈ m_ws := tb_2 27 rfl rfl
theorem q_336 : (Jvm.Cond.fieldLink "OneHandEach" (10 : Nat) "OneHandEach" "town" "LOneHandEach$Town;") ∈ m_ws := tb_2 28 rfl rfl
theorem q_337 : (Jvm.Cond.fieldLink "OneHandEach" (21 : Nat) "OneHandEach" "sights" "LOneHandEach$Entries;") ∈ m_ws := tb_2 29 rfl rfl
theorem q_338 : (Jvm.Cond.fieldLink "OneHandEach" (25 : Nat) "OneHandEach" "guns" "LOneHandEach$Entries;") ∈ m_ws := tb_2 30 rfl rfl
theorem q_339 : (Jvm.Cond.fieldLink "OneHandEach" (31 : Nat) "OneHandEach" "law" "LOneHandEach$Law;") ∈ m_ws := tb_2 31 rfl rfl
theorem q_340 : (Jvm.Cond.fieldLink "OneHandEach" (38 : Nat) "OneHandEach" "fitting" "LOneHandEach$Fitting;") ∈ m_ws := tb_2 32 rfl rfl
theorem q_341 : (Jvm.Cond.fieldLink "OneHandEach" (45 : Nat) "OneHandEach" "guesses" "LOneHandEach$Guesses;") ∈ m_ws := tb_2 33 rfl rfl
theorem q_342 : (Jvm.Cond.fieldLink "OneHandEach" (52 : Nat) "OneHandEach" "changes" "LOneHandEach$Changes;") ∈ m_ws := tb_2 34 rfl rfl
theorem q_343 : (Jvm.Cond.fieldLink "OneHandEach" (59 : Nat) "OneHandEach" "kept" "LOneHandEach$Image;") ∈ m_ws := tb_2 35 rfl rfl
theorem q_344 : (Jvm.Cond.fieldLink "OneHandEach" (66 : Nat) "OneHandEach" "bodies" "LOneHandEach$Bodies;") ∈ m_ws := tb_2 36 rfl rfl
theorem q_345 : (Jvm.Cond.fieldLink "OneHandEach" (72 : Nat) "OneHandEach" "shelves" "[LOneHandEach$Shelf;") ∈ m_ws := tb_2 37 rfl rfl
theorem q_367 : (Jvm.Cond.methodLink "OneHandEachLaw" (13 : Nat) ({ cls := "OneHandEach", name := "mend", desc := "(III)I" } : Jvm.MethodName)) ∈ m_ws := tb_2 59 rfl rfl
theorem q_368 : (Jvm.Cond.instanceMethod ({ cls := "OneHandEach", name := "mend", desc := "(III)I" } : Jvm.MethodName)) ∈ m_ws := tb_2 60 rfl rfl
theorem q_369 : (Jvm.Cond.selects "OneHandEach" ({ cls := "OneHandEach", name := "mend", desc := "(III)I" } : Jvm.MethodName) ({ cls := "OneHandEach", name := "mend", desc := "(III)I" } : Jvm.MethodName)) ∈ m_ws := tb_2 61 rfl rfl
theorem q_370 : (Jvm.Cond.code ({ cls := "OneHandEach", name := "mend", desc := "(III)I" } : Jvm.MethodName) prog_1_method_2_code (6 : Nat) (Option.some Jvm.ClassFile.FieldType.int)) ∈ m_ws := tb_2 62 rfl rfl
theorem q_371 : (Jvm.Cond.methodLink "OneHandEach" (77 : Nat) ({ cls := "OneHandEach$Town", name := "placeOf", desc := "(II)I" } : Jvm.MethodName)) ∈ m_ws := tb_2 63 rfl rfl
theorem q_372 : (Jvm.Cond.static ({ cls := "OneHandEach$Town", name := "placeOf", desc := "(II)I" } : Jvm.MethodName)) ∈ m_ws := tb_2 64 rfl rfl
theorem q_373 : (Jvm.Cond.code ({ cls := "OneHandEach$Town", name := "placeOf", desc := "(II)I" } : Jvm.MethodName) prog_12_method_2_code (2 : Nat) (Option.some Jvm.ClassFile.FieldType.int)) ∈ m_ws := tb_2 65 rfl rfl
theorem q_375 : (Jvm.Cond.static ({ cls := "OneHandEach", name := "isClock", desc := "(I)Z" } : Jvm.MethodName)) ∈ m_ws := tb_2 67 rfl rfl
theorem q_376 : (Jvm.Cond.code ({ cls := "OneHandEach", name := "isClock", desc := "(I)Z" } : Jvm.MethodName) prog_1_method_41_code (1 : Nat) (Option.some Jvm.ClassFile.FieldType.boolean)) ∈ m_ws := tb_2 68 rfl rfl
theorem q_377 : (Jvm.Cond.methodLink "OneHandEach" (81 : Nat) ({ cls := "OneHandEach$Town", name := "allows", desc := "(II)Z" } : Jvm.MethodName)) ∈ m_ws := tb_2 69 rfl rfl
theorem q_378 : (Jvm.Cond.instanceMethod ({ cls := "OneHandEach$Town", name := "allows", desc := "(II)Z" } : Jvm.MethodName)) ∈ m_ws := tb_2 70 rfl rfl
theorem q_379 : (Jvm.Cond.selects "OneHandEach$Town" ({ cls := "OneHandEach$Town", name := "allows", desc := "(II)Z" } : Jvm.MethodName) ({ cls := "OneHandEach$Town", name := "allows", desc := "(II)Z" } : Jvm.MethodName)) ∈ m_ws := tb_2 71 rfl rfl
theorem q_380 : (Jvm.Cond.code ({ cls := "OneHandEach$Town", name := "allows", desc := "(II)Z" } : Jvm.MethodName) prog_12_method_3_code (3 : Nat) (Option.some Jvm.ClassFile.FieldType.boolean)) ∈ m_ws := tb_2 72 rfl rfl
theorem q_381 : (Jvm.Cond.constant "OneHandEach" (85 : Nat) (-2000000000 : Int32)) ∈ m_ws := tb_2 73 rfl rfl
theorem q_382 : (Jvm.Cond.methodLink "OneHandEach" (90 : Nat) ({ cls := "OneHandEach$Changes", name := "add", desc := "(III)V" } : Jvm.MethodName)) ∈ m_ws := tb_2 74 rfl rfl
theorem q_383 : (Jvm.Cond.instanceMethod ({ cls := "OneHandEach$Changes", name := "add", desc := "(III)V" } : Jvm.MethodName)) ∈ m_ws := tb_2 75 rfl rfl
theorem q_384 : (Jvm.Cond.selects "OneHandEach$Changes" ({ cls := "OneHandEach$Changes", name := "add", desc := "(III)V" } : Jvm.MethodName) ({ cls := "OneHandEach$Changes", name := "add", desc := "(III)V" } : Jvm.MethodName)) ∈ m_ws := tb_2 76 rfl rfl
theorem q_385 : (Jvm.Cond.code ({ cls := "OneHandEach$Changes", name := "add", desc := "(III)V" } : Jvm.MethodName) prog_3_method_2_code (4 : Nat) (Option.none : Option Jvm.ClassFile.FieldType)) ∈ m_ws := tb_2 77 rfl rfl
theorem q_386 : (Jvm.Cond.methodLink "OneHandEach$Changes" (25 : Nat) ({ cls := "OneHandEach$Changes", name := "dropEldest", desc := "()V" } : Jvm.MethodName)) ∈ m_ws := tb_2 78 rfl rfl
theorem q_388 : (Jvm.Cond.instanceMethod ({ cls := "OneHandEach$Changes", name := "dropEldest", desc := "()V" } : Jvm.MethodName)) ∈ m_ws := tb_2 80 rfl rfl
theorem q_389 : (Jvm.Cond.code ({ cls := "OneHandEach$Changes", name := "dropEldest", desc := "()V" } : Jvm.MethodName) prog_3_method_3_code (2 : Nat) (Option.none : Option Jvm.ClassFile.FieldType)) ∈ m_ws := tb_2 81 rfl rfl
theorem q_390 : (Jvm.Cond.methodLink "OneHandEachLaw" (18 : Nat) ({ cls := "OneHandEach", name := "of", desc := "(II)I" } : Jvm.MethodName)) ∈ m_ws := tb_2 82 rfl rfl
theorem q_391 : (Jvm.Cond.instanceMethod ({ cls := "OneHandEach", name := "of", desc := "(II)I" } : Jvm.MethodName)) ∈ m_ws := tb_2 83 rfl rfl
theorem q_392 : (Jvm.Cond.selects "OneHandEach" ({ cls := "OneHandEach", name := "of", desc := "(II)I" } : Jvm.MethodName) ({ cls := "OneHandEach", name := "of", desc := "(II)I" } : Jvm.MethodName)) ∈ m_ws := tb_2 84 rfl rfl
theorem q_393 : (Jvm.Cond.code ({ cls := "OneHandEach", name := "of", desc := "(II)I" } : Jvm.MethodName) prog_1_method_3_code (4 : Nat) (Option.some Jvm.ClassFile.FieldType.int)) ∈ m_ws := tb_2 85 rfl rfl
theorem q_394 : (Jvm.Cond.methodLink "OneHandEach" (94 : Nat) ({ cls := "OneHandEach$Entries", name := "told", desc := "(II)I" } : Jvm.MethodName)) ∈ m_ws := tb_2 86 rfl rfl
theorem q_395 : (Jvm.Cond.instanceMethod ({ cls := "OneHandEach$Entries", name := "told", desc := "(II)I" } : Jvm.MethodName)) ∈ m_ws := tb_2 87 rfl rfl
theorem q_396 : (Jvm.Cond.selects "OneHandEach$Entries" ({ cls := "OneHandEach$Entries", name := "told", desc := "(II)I" } : Jvm.MethodName) ({ cls := "OneHandEach$Entries", name := "told", desc := "(II)I" } : Jvm.MethodName)) ∈ m_ws := tb_2 88 rfl rfl
theorem q_397 : (Jvm.Cond.code ({ cls := "OneHandEach$Entries", name := "told", desc := "(II)I" } : Jvm.MethodName) prog_4_method_5_code (3 : Nat) (Option.some Jvm.ClassFile.FieldType.int)) ∈ m_ws := tb_2 89 rfl rfl
theorem q_399 : (Jvm.Cond.static ({ cls := "OneHandEach", name := "isOneOf", desc := "(II)Z" } : Jvm.MethodName)) ∈ m_ws := tb_2 91 rfl rfl
theorem q_400 : (Jvm.Cond.code ({ cls := "OneHandEach", name := "isOneOf", desc := "(II)Z" } : Jvm.MethodName) prog_1_method_40_code (2 : Nat) (Option.some Jvm.ClassFile.FieldType.boolean)) ∈ m_ws := tb_2 92 rfl rfl
theorem q_401 : (Jvm.Cond.constant "OneHandEach$Entries" (37 : Nat) (-2000000000 : Int32)) ∈ m_ws := tb_2 93 rfl rfl
theorem q_402 : (Jvm.Cond.methodLink "OneHandEachLaw" (23 : Nat) ({ cls := "OneHandEach", name := "shown", desc := "(III)I" } : Jvm.MethodName)) ∈ m_ws := tb_2 94 rfl rfl
theorem q_403 : (Jvm.Cond.instanceMethod ({ cls := "OneHandEach", name := "shown", desc := "(III)I" } : Jvm.MethodName)) ∈ m_ws := tb_2 95 rfl rfl
theorem q_404 : (Jvm.Cond.selects "OneHandEach" ({ cls := "OneHandEach", name := "shown", desc := "(III)I" } : Jvm.MethodName) ({ cls := "OneHandEach", name := "shown", desc := "(III)I" } : Jvm.MethodName)) ∈ m_ws := tb_2 96 rfl rfl
theorem q_405 : (Jvm.Cond.code ({ cls := "OneHandEach", name := "shown", desc := "(III)I" } : Jvm.MethodName) prog_1_method_4_code (4 : Nat) (Option.some Jvm.ClassFile.FieldType.int)) ∈ m_ws := tb_2 97 rfl rfl
theorem q_406 : (Jvm.Cond.methodLink "OneHandEach" (97 : Nat) ({ cls := "OneHandEach", name := "isClock", desc := "(I)Z" } : Jvm.MethodName)) ∈ m_ws := tb_2 98 rfl rfl
theorem q_407 : (Jvm.Cond.methodLink "OneHandEach" (101 : Nat) ({ cls := "OneHandEach", name := "isMinute", desc := "(I)Z" } : Jvm.MethodName)) ∈ m_ws := tb_2 99 rfl rfl
theorem q_408 : (Jvm.Cond.static ({ cls := "OneHandEach", name := "isMinute", desc := "(I)Z" } : Jvm.MethodName)) ∈ m_ws := tb_2 100 rfl rfl
theorem q_409 : (Jvm.Cond.code ({ cls := "OneHandEach", name := "isMinute", desc := "(I)Z" } : Jvm.MethodName) prog_1_method_42_code (1 : Nat) (Option.some Jvm.ClassFile.FieldType.boolean)) ∈ m_ws := tb_2 101 rfl rfl
theorem q_410 : (Jvm.Cond.constant "OneHandEach" (313 : Nat) (99999 : Int32)) ∈ m_ws := tb_2 102 rfl rfl
theorem q_411 : (Jvm.Cond.methodLink "OneHandEach" (104 : Nat) ({ cls := "OneHandEach", name := "isOneOf", desc := "(II)Z" } : Jvm.MethodName)) ∈ m_ws := tb_2 103 rfl rfl
theorem q_412 : (Jvm.Cond.methodLink "OneHandEach" (107 : Nat) ({ cls := "OneHandEach$Town", name := "timeAt", desc := "(II)I" } : Jvm.MethodName)) ∈ m_ws := tb_2 104 rfl rfl
theorem q_413 : (Jvm.Cond.instanceMethod ({ cls := "OneHandEach$Town", name := "timeAt", desc := "(II)I" } : Jvm.MethodName)) ∈ m_ws := tb_2 105 rfl rfl
theorem q_414 : (Jvm.Cond.selects "OneHandEach$Town" ({ cls := "OneHandEach$Town", name := "timeAt", desc := "(II)I" } : Jvm.MethodName) ({ cls := "OneHandEach$Town", name := "timeAt", desc := "(II)I" } : Jvm.MethodName)) ∈ m_ws := tb_2 106 rfl rfl
theorem q_415 : (Jvm.Cond.code ({ cls := "OneHandEach$Town", name := "timeAt", desc := "(II)I" } : Jvm.MethodName) prog_12_method_9_code (3 : Nat) (Option.some Jvm.ClassFile.FieldType.int)) ∈ m_ws := tb_2 107 rfl rfl
theorem q_416 : (Jvm.Cond.methodLink "OneHandEach$Town" (31 : Nat) ({ cls := "OneHandEach$Town", name := "off", desc := "(I)I" } : Jvm.MethodName)) ∈ m_ws := tb_2 108 rfl rfl
theorem q_417 : (Jvm.Cond.instanceMethod ({ cls := "OneHandEach$Town", name := "off", desc := "(I)I" } : Jvm.MethodName)) ∈ m_ws := tb_2 109 rfl rfl
theorem q_418 : (Jvm.Cond.selects "OneHandEach$Town" ({ cls := "OneHandEach$Town", name := "off", desc := "(I)I" } : Jvm.MethodName) ({ cls := "OneHandEach$Town", name := "off", desc := "(I)I" } : Jvm.MethodName)) ∈ m_ws := tb_2 110 rfl rfl
theorem q_419 : (Jvm.Cond.code ({ cls := "OneHandEach$Town", name := "off", desc := "(I)I" } : Jvm.MethodName) prog_12_method_4_code (2 : Nat) (Option.some Jvm.ClassFile.FieldType.int)) ∈ m_ws := tb_2 111 rfl rfl
theorem q_420 : (Jvm.Cond.methodLink "OneHandEach$Town" (35 : Nat) ({ cls := "OneHandEach$Town", name := "gain", desc := "(I)I" } : Jvm.MethodName)) ∈ m_ws := tb_2 112 rfl rfl
theorem q_421 : (Jvm.Cond.instanceMethod ({ cls := "OneHandEach$Town", name := "gain", desc := "(I)I" } : Jvm.MethodName)) ∈ m_ws := tb_2 113 rfl rfl
theorem q_422 : (Jvm.Cond.selects "OneHandEach$Town" ({ cls := "OneHandEach$Town", name := "gain", desc := "(I)I" } : Jvm.MethodName) ({ cls := "OneHandEach$Town", name := "gain", desc := "(I)I" } : Jvm.MethodName)) ∈ m_ws := tb_2 114 rfl rfl
theorem q_423 : (Jvm.Cond.code ({ cls := "OneHandEach$Town", name := "gain", desc := "(I)I" } : Jvm.MethodName) prog_12_method_5_code (2 : Nat) (Option.some Jvm.ClassFile.FieldType.int)) ∈ m_ws := tb_2 115 rfl rfl
theorem q_424 : (Jvm.Cond.methodLink "OneHandEach$Town" (38 : Nat) ({ cls := "OneHandEach$Town", name := "timeBy", desc := "(III)I" } : Jvm.MethodName)) ∈ m_ws := tb_2 116 rfl rfl
theorem q_425 : (Jvm.Cond.static ({ cls := "OneHandEach$Town", name := "timeBy", desc := "(III)I" } : Jvm.MethodName)) ∈ m_ws := tb_2 117 rfl rfl
theorem q_426 : (Jvm.Cond.code ({ cls := "OneHandEach$Town", name := "timeBy", desc := "(III)I" } : Jvm.MethodName) prog_12_method_7_code (3 : Nat) (Option.some Jvm.ClassFile.FieldType.int)) ∈ m_ws := tb_2 118 rfl rfl
theorem q_427 : (Jvm.Cond.methodLink "OneHandEach$Town" (25 : Nat) ({ cls := "java/lang/Math", name := "floorMod", desc := "(II)I" } : Jvm.MethodName)) ∈ m_ws := tb_2 119 rfl rfl
theorem q_428 : (Jvm.Cond.static ({ cls := "java/lang/Math", name := "floorMod", desc := "(II)I" } : Jvm.MethodName)) ∈ m_ws := tb_2 120 rfl rfl
theorem q_429 : (Jvm.Cond.code ({ cls := "java/lang/Math", name := "floorMod", desc := "(II)I" } : Jvm.MethodName) prog_16_method_50_code (3 : Nat) (Option.some Jvm.ClassFile.FieldType.int)) ∈ m_ws := tb_2 121 rfl rfl
theorem q_430 : (Jvm.Cond.methodLink "OneHandEach" (110 : Nat) ({ cls := "OneHandEach$Town", name := "partAt", desc := "(II)I" } : Jvm.MethodName)) ∈ m_ws := tb_2 122 rfl rfl
theorem q_431 : (Jvm.Cond.instanceMethod ({ cls := "OneHandEach$Town", name := "partAt", desc := "(II)I" } : Jvm.MethodName)) ∈ m_ws := tb_2 123 rfl rfl
theorem q_432 : (Jvm.Cond.selects "OneHandEach$Town" ({ cls := "OneHandEach$Town", name := "partAt", desc := "(II)I" } : Jvm.MethodName) ({ cls := "OneHandEach$Town", name := "partAt", desc := "(II)I" } : Jvm.MethodName)) ∈ m_ws := tb_2 124 rfl rfl
theorem q_433 : (Jvm.Cond.code ({ cls := "OneHandEach$Town", name := "partAt", desc := "(II)I" } : Jvm.MethodName) prog_12_method_10_code (3 : Nat) (Option.some Jvm.ClassFile.FieldType.int)) ∈ m_ws := tb_2 125 rfl rfl
theorem q_434 : (Jvm.Cond.methodLink "OneHandEach$Town" (42 : Nat) ({ cls := "OneHandEach$Town", name := "timeAt", desc := "(II)I" } : Jvm.MethodName)) ∈ m_ws := tb_2 126 rfl rfl
theorem q_435 : (Jvm.Cond.methodLink "OneHandEach$Town" (45 : Nat) ({ cls := "OneHandEach$Town", name := "partOf", desc := "(II)I" } : Jvm.MethodName)) ∈ m_ws := tb_2 127 rfl rfl
theorem q_436 : (Jvm.Cond.static ({ cls := "OneHandEach$Town", name := "partOf", desc := "(II)I" } : Jvm.MethodName)) ∈ m_ws := tb_2 128 rfl rfl
theorem q_437 : (Jvm.Cond.code ({ cls := "OneHandEach$Town", name := "partOf", desc := "(II)I" } : Jvm.MethodName) prog_12_method_8_code (2 : Nat) (Option.some Jvm.ClassFile.FieldType.int)) ∈ m_ws := tb_2 129 rfl rfl
theorem q_438 : (Jvm.Cond.methodLink "OneHandEachLaw" (27 : Nat) ({ cls := "OneHandEach", name := "feed", desc := "(I)I" } : Jvm.MethodName)) ∈ m_ws := tb_2 130 rfl rfl
theorem q_439 : (Jvm.Cond.instanceMethod ({ cls := "OneHandEach", name := "feed", desc := "(I)I" } : Jvm.MethodName)) ∈ m_ws := tb_2 131 rfl rfl
theorem q_440 : (Jvm.Cond.selects "OneHandEach" ({ cls := "OneHandEach", name := "feed", desc := "(I)I" } : Jvm.MethodName) ({ cls := "OneHandEach", name := "feed", desc := "(I)I" } : Jvm.MethodName)) ∈ m_ws := tb_2 132 rfl rfl
theorem q_441 : (Jvm.Cond.code ({ cls := "OneHandEach", name := "feed", desc := "(I)I" } : Jvm.MethodName) prog_1_method_5_code (2 : Nat) (Option.some Jvm.ClassFile.FieldType.int)) ∈ m_ws := tb_2 133 rfl rfl
theorem q_442 : (Jvm.Cond.methodLink "OneHandEach" (113 : Nat) ({ cls := "OneHandEach$Law", name := "takeByte", desc := "(I)I" } : Jvm.MethodName)) ∈ m_ws := tb_2 134 rfl rfl
theorem q_443 : (Jvm.Cond.instanceMethod ({ cls := "OneHandEach$Law", name := "takeByte", desc := "(I)I" } : Jvm.MethodName)) ∈ m_ws := tb_2 135 rfl rfl
theorem q_444 : (Jvm.Cond.selects "OneHandEach$Law" ({ cls := "OneHandEach$Law", name := "takeByte", desc := "(I)I" } : Jvm.MethodName) ({ cls := "OneHandEach$Law", name := "takeByte", desc := "(I)I" } : Jvm.MethodName)) ∈ m_ws := tb_2 136 rfl rfl
theorem q_445 : (Jvm.Cond.code ({ cls := "OneHandEach$Law", name := "takeByte", desc := "(I)I" } : Jvm.MethodName) prog_8_method_2_code (2 : Nat) (Option.some Jvm.ClassFile.FieldType.int)) ∈ m_ws := tb_2 137 rfl rfl
theorem q_446 : (Jvm.Cond.methodLink "OneHandEach$Law" (27 : Nat) ({ cls := "OneHandEach$Reader", name := "takeByte", desc := "(I)I" } : Jvm.MethodName)) ∈ m_ws := tb_2 138 rfl rfl
theorem q_447 : (Jvm.Cond.instanceMethod ({ cls := "OneHandEach$Reader", name := "takeByte", desc := "(I)I" } : Jvm.MethodName)) ∈ m_ws := tb_2 139 rfl rfl
theorem q_448 : (Jvm.Cond.selects "OneHandEach$Reader" ({ cls := "OneHandEach$Reader", name := "takeByte", desc := "(I)I" } : Jvm.MethodName) ({ cls := "OneHandEach$Reader", name := "takeByte", desc := "(I)I" } : Jvm.MethodName)) ∈ m_ws := tb_2 140 rfl rfl
theorem q_449 : (Jvm.Cond.code ({ cls := "OneHandEach$Reader", name := "takeByte", desc := "(I)I" } : Jvm.MethodName) prog_10_method_2_code (2 : Nat) (Option.some Jvm.ClassFile.FieldType.int)) ∈ m_ws := tb_2 141 rfl rfl
theorem q_450 : (Jvm.Cond.methodLink "OneHandEachLaw" (32 : Nat) ({ cls := "OneHandEach", name := "law", desc := "()I" } : Jvm.MethodName)) ∈ m_ws := tb_2 142 rfl rfl
theorem q_451 : (Jvm.Cond.instanceMethod ({ cls := "OneHandEach", name := "law", desc := "()I" } : Jvm.MethodName)) ∈ m_ws := tb_2 143 rfl rfl
theorem q_452 : (Jvm.Cond.selects "OneHandEach" ({ cls := "OneHandEach", name := "law", desc := "()I" } : Jvm.MethodName) ({ cls := "OneHandEach", name := "law", desc := "()I" } : Jvm.MethodName)) ∈ m_ws := tb_2 144 rfl rfl
theorem q_453 : (Jvm.Cond.code ({ cls := "OneHandEach", name := "law", desc := "()I" } : Jvm.MethodName) prog_1_method_6_code (2 : Nat) (Option.some Jvm.ClassFile.FieldType.int)) ∈ m_ws := tb_2 145 rfl rfl
theorem q_454 : (Jvm.Cond.methodLink "OneHandEach" (117 : Nat) ({ cls := "OneHandEach$Law", name := "readTape", desc := "()I" } : Jvm.MethodName)) ∈ m_ws := tb_2 146 rfl rfl
theorem q_455 : (Jvm.Cond.instanceMethod ({ cls := "OneHandEach$Law", name := "readTape", desc := "()I" } : Jvm.MethodName)) ∈ m_ws := tb_2 147 rfl rfl
theorem q_456 : (Jvm.Cond.selects "OneHandEach$Law" ({ cls := "OneHandEach$Law", name := "readTape", desc := "()I" } : Jvm.MethodName) ({ cls := "OneHandEach$Law", name := "readTape", desc := "()I" } : Jvm.MethodName)) ∈ m_ws := tb_2 148 rfl rfl
theorem q_457 : (Jvm.Cond.code ({ cls := "OneHandEach$Law", name := "readTape", desc := "()I" } : Jvm.MethodName) prog_8_method_4_code (3 : Nat) (Option.some Jvm.ClassFile.FieldType.int)) ∈ m_ws := tb_2 149 rfl rfl
theorem q_458 : (Jvm.Cond.methodLink "OneHandEach$Law" (35 : Nat) ({ cls := "OneHandEach$Reader", name := "read", desc := "()I" } : Jvm.MethodName)) ∈ m_ws := tb_2 150 rfl rfl
theorem q_459 : (Jvm.Cond.instanceMethod ({ cls := "OneHandEach$Reader", name := "read", desc := "()I" } : Jvm.MethodName)) ∈ m_ws := tb_2 151 rfl rfl
theorem q_460 : (Jvm.Cond.selects "OneHandEach$Reader" ({ cls := "OneHandEach$Reader", name := "read", desc := "()I" } : Jvm.MethodName) ({ cls := "OneHandEach$Reader", name := "read", desc := "()I" } : Jvm.MethodName)) ∈ m_ws := tb_2 152 rfl rfl
theorem q_461 : (Jvm.Cond.code ({ cls := "OneHandEach$Reader", name := "read", desc := "()I" } : Jvm.MethodName) prog_10_method_3_code (2 : Nat) (Option.some Jvm.ClassFile.FieldType.int)) ∈ m_ws := tb_2 153 rfl rfl
theorem q_462 : (Jvm.Cond.methodLink "OneHandEach$Reader" (33 : Nat) ({ cls := "OneHandEach$Reader", name := "line", desc := "()V" } : Jvm.MethodName)) ∈ m_ws := tb_2 154 rfl rfl
theorem q_464 : (Jvm.Cond.instanceMethod ({ cls := "OneHandEach$Reader", name := "line", desc := "()V" } : Jvm.MethodName)) ∈ m_ws := tb_2 156 rfl rfl
theorem q_465 : (Jvm.Cond.code ({ cls := "OneHandEach$Reader", name := "line", desc := "()V" } : Jvm.MethodName) prog_10_method_6_code (1 : Nat) (Option.none : Option Jvm.ClassFile.FieldType)) ∈ m_ws := tb_2 157 rfl rfl
theorem q_466 : (Jvm.Cond.methodLink "OneHandEach$Reader" (44 : Nat) ({ cls := "OneHandEach$Reader", name := "joined", desc := "(II)V" } : Jvm.MethodName)) ∈ m_ws := tb_2 158 rfl rfl
theorem q_468 : (Jvm.Cond.instanceMethod ({ cls := "OneHandEach$Reader", name := "joined", desc := "(II)V" } : Jvm.MethodName)) ∈ m_ws := tb_2 160 rfl rfl
theorem q_469 : (Jvm.Cond.code ({ cls := "OneHandEach$Reader", name := "joined", desc := "(II)V" } : Jvm.MethodName) prog_10_method_7_code (5 : Nat) (Option.none : Option Jvm.ClassFile.FieldType)) ∈ m_ws := tb_2 161 rfl rfl
theorem q_470 : (Jvm.Cond.methodLink "OneHandEach$Reader" (51 : Nat) ({ cls := "OneHandEach$Reader", name := "operand", desc := "(I)V" } : Jvm.MethodName)) ∈ m_ws := tb_2 162 rfl rfl
theorem q_472 : (Jvm.Cond.instanceMethod ({ cls := "OneHandEach$Reader", name := "operand", desc := "(I)V" } : Jvm.MethodName)) ∈ m_ws := tb_2 164 rfl rfl
theorem q_473 : (Jvm.Cond.code ({ cls := "OneHandEach$Reader", name := "operand", desc := "(I)V" } : Jvm.MethodName) prog_10_method_9_code (3 : Nat) (Option.none : Option Jvm.ClassFile.FieldType)) ∈ m_ws := tb_2 165 rfl rfl
theorem q_474 : (Jvm.Cond.methodLink "OneHandEach$Reader" (40 : Nat) ({ cls := "OneHandEach$Reader", name := "here", desc := "()I" } : Jvm.MethodName)) ∈ m_ws := tb_2 166 rfl rfl
theorem q_476 : (Jvm.Cond.instanceMethod ({ cls := "OneHandEach$Reader", name := "here", desc := "()I" } : Jvm.MethodName)) ∈ m_ws := tb_2 168 rfl rfl
theorem q_477 : (Jvm.Cond.code ({ cls := "OneHandEach$Reader", name := "here", desc := "()I" } : Jvm.MethodName) prog_10_method_4_code (1 : Nat) (Option.some Jvm.ClassFile.FieldType.int)) ∈ m_ws := tb_2 169 rfl rfl
theorem q_478 : (Jvm.Cond.methodLink "OneHandEach$Reader" (59 : Nat) ({ cls := "OneHandEach$Reader", name := "number", desc := "()V" } : Jvm.MethodName)) ∈ m_ws := tb_2 170 rfl rfl
theorem q_480 : (Jvm.Cond.instanceMethod ({ cls := "OneHandEach$Reader", name := "number", desc := "()V" } : Jvm.MethodName)) ∈ m_ws := tb_2 172 rfl rfl
theorem q_481 : (Jvm.Cond.code ({ cls := "OneHandEach$Reader", name := "number", desc := "()V" } : Jvm.MethodName) prog_10_method_11_code (3 : Nat) (Option.none : Option Jvm.ClassFile.FieldType)) ∈ m_ws := tb_2 173 rfl rfl
theorem q_482 : (Jvm.Cond.methodLink "OneHandEach$Reader" (48 : Nat) ({ cls := "OneHandEach$Program", name := "add", desc := "(II)V" } : Jvm.MethodName)) ∈ m_ws := tb_2 174 rfl rfl
theorem q_483 : (Jvm.Cond.instanceMethod ({ cls := "OneHandEach$Program", name := "add", desc := "(II)V" } : Jvm.MethodName)) ∈ m_ws := tb_2 175 rfl rfl
theorem q_484 : (Jvm.Cond.selects "OneHandEach$Program" ({ cls := "OneHandEach$Program", name := "add", desc := "(II)V" } : Jvm.MethodName) ({ cls := "OneHandEach$Program", name := "add", desc := "(II)V" } : Jvm.MethodName)) ∈ m_ws := tb_2 176 rfl rfl
theorem q_485 : (Jvm.Cond.code ({ cls := "OneHandEach$Program", name := "add", desc := "(II)V" } : Jvm.MethodName) prog_9_method_2_code (3 : Nat) (Option.none : Option Jvm.ClassFile.FieldType)) ∈ m_ws := tb_2 177 rfl rfl
theorem q_486 : (Jvm.Cond.methodLink "OneHandEach$Reader" (62 : Nat) ({ cls := "OneHandEach$Reader", name := "close", desc := "()V" } : Jvm.MethodName)) ∈ m_ws := tb_2 178 rfl rfl
theorem q_488 : (Jvm.Cond.instanceMethod ({ cls := "OneHandEach$Reader", name := "close", desc := "()V" } : Jvm.MethodName)) ∈ m_ws := tb_2 180 rfl rfl
theorem q_489 : (Jvm.Cond.code ({ cls := "OneHandEach$Reader", name := "close", desc := "()V" } : Jvm.MethodName) prog_10_method_10_code (1 : Nat) (Option.none : Option Jvm.ClassFile.FieldType)) ∈ m_ws := tb_2 181 rfl rfl
theorem q_490 : (Jvm.Cond.methodLink "OneHandEach$Reader" (36 : Nat) ({ cls := "OneHandEach$Reader", name := "takes", desc := "(I)Z" } : Jvm.MethodName)) ∈ m_ws := tb_2 182 rfl rfl
theorem q_492 : (Jvm.Cond.instanceMethod ({ cls := "OneHandEach$Reader", name := "takes", desc := "(I)Z" } : Jvm.MethodName)) ∈ m_ws := tb_2 184 rfl rfl
theorem q_493 : (Jvm.Cond.code ({ cls := "OneHandEach$Reader", name := "takes", desc := "(I)Z" } : Jvm.MethodName) prog_10_method_5_code (2 : Nat) (Option.some Jvm.ClassFile.FieldType.boolean)) ∈ m_ws := tb_2 185 rfl rfl
theorem q_494 : (Jvm.Cond.methodLink "OneHandEach$Reader" (55 : Nat) ({ cls := "OneHandEach$Reader", name := "rankOf", desc := "(I)I" } : Jvm.MethodName)) ∈ m_ws := tb_2 186 rfl rfl
theorem q_495 : (Jvm.Cond.static ({ cls := "OneHandEach$Reader", name := "rankOf", desc := "(I)I" } : Jvm.MethodName)) ∈ m_ws := tb_2 187 rfl rfl
theorem q_496 : (Jvm.Cond.code ({ cls := "OneHandEach$Reader", name := "rankOf", desc := "(I)I" } : Jvm.MethodName) prog_10_method_8_code (1 : Nat) (Option.some Jvm.ClassFile.FieldType.int)) ∈ m_ws := tb_2 188 rfl rfl
theorem q_497 : (Jvm.Cond.methodLink "OneHandEachLaw" (37 : Nat) ({ cls := "OneHandEach", name := "weight", desc := "(I)I" } : Jvm.MethodName)) ∈ m_ws := tb_2 189 rfl rfl
theorem q_498 : (Jvm.Cond.instanceMethod ({ cls := "OneHandEach", name := "weight", desc := "(I)I" } : Jvm.MethodName)) ∈ m_ws := tb_2 190 rfl rfl
theorem q_499 : (Jvm.Cond.selects "OneHandEach" ({ cls := "OneHandEach", name := "weight", desc := "(I)I" } : Jvm.MethodName) ({ cls := "OneHandEach", name := "weight", desc := "(I)I" } : Jvm.MethodName)) ∈ m_ws := tb_2 191 rfl rfl
theorem q_500 : (Jvm.Cond.code ({ cls := "OneHandEach", name := "weight", desc := "(I)I" } : Jvm.MethodName) prog_1_method_7_code (2 : Nat) (Option.some Jvm.ClassFile.FieldType.int)) ∈ m_ws := tb_2 192 rfl rfl
theorem q_501 : (Jvm.Cond.methodLink "OneHandEach" (121 : Nat) ({ cls := "OneHandEach", name := "isTime", desc := "(I)Z" } : Jvm.MethodName)) ∈ m_ws := tb_2 193 rfl rfl
theorem q_502 : (Jvm.Cond.static ({ cls := "OneHandEach", name := "isTime", desc := "(I)Z" } : Jvm.MethodName)) ∈ m_ws := tb_2 194 rfl rfl
theorem q_503 : (Jvm.Cond.code ({ cls := "OneHandEach", name := "isTime", desc := "(I)Z" } : Jvm.MethodName) prog_1_method_43_code (1 : Nat) (Option.some Jvm.ClassFile.FieldType.boolean)) ∈ m_ws := tb_2 195 rfl rfl
theorem q_504 : (Jvm.Cond.methodLink "OneHandEach" (124 : Nat) ({ cls := "OneHandEach", name := "weightOf", desc := "(I)I" } : Jvm.MethodName)) ∈ m_ws := tb_2 196 rfl rfl
theorem q_506 : (Jvm.Cond.instanceMethod ({ cls := "OneHandEach", name := "weightOf", desc := "(I)I" } : Jvm.MethodName)) ∈ m_ws := tb_2 198 rfl rfl
theorem q_507 : (Jvm.Cond.code ({ cls := "OneHandEach", name := "weightOf", desc := "(I)I" } : Jvm.MethodName) prog_1_method_50_code (2 : Nat) (Option.some Jvm.ClassFile.FieldType.int)) ∈ m_ws := tb_2 199 rfl rfl
theorem q_508 : (Jvm.Cond.methodLink "OneHandEach" (315 : Nat) ({ cls := "OneHandEach$Town", name := "err", desc := "()I" } : Jvm.MethodName)) ∈ m_ws := tb_2 200 rfl rfl
theorem q_509 : (Jvm.Cond.instanceMethod ({ cls := "OneHandEach$Town", name := "err", desc := "()I" } : Jvm.MethodName)) ∈ m_ws := tb_2 201 rfl rfl
theorem q_510 : (Jvm.Cond.selects "OneHandEach$Town" ({ cls := "OneHandEach$Town", name := "err", desc := "()I" } : Jvm.MethodName) ({ cls := "OneHandEach$Town", name := "err", desc := "()I" } : Jvm.MethodName)) ∈ m_ws := tb_2 202 rfl rfl
theorem q_511 : (Jvm.Cond.code ({ cls := "OneHandEach$Town", name := "err", desc := "()I" } : Jvm.MethodName) prog_12_method_6_code (1 : Nat) (Option.some Jvm.ClassFile.FieldType.int)) ∈ m_ws := tb_2 203 rfl rfl
theorem q_512 : (Jvm.Cond.methodLink "OneHandEach" (318 : Nat) ({ cls := "OneHandEach$Law", name := "weightOf", desc := "(III)I" } : Jvm.MethodName)) ∈ m_ws := tb_2 204 rfl rfl
theorem q_513 : (Jvm.Cond.instanceMethod ({ cls := "OneHandEach$Law", name := "weightOf", desc := "(III)I" } : Jvm.MethodName)) ∈ m_ws := tb_2 205 rfl rfl
theorem q_514 : (Jvm.Cond.selects "OneHandEach$Law" ({ cls := "OneHandEach$Law", name := "weightOf", desc := "(III)I" } : Jvm.MethodName) ({ cls := "OneHandEach$Law", name := "weightOf", desc := "(III)I" } : Jvm.MethodName)) ∈ m_ws := tb_2 206 rfl rfl
theorem q_515 : (Jvm.Cond.code ({ cls := "OneHandEach$Law", name := "weightOf", desc := "(III)I" } : Jvm.MethodName) prog_8_method_5_code (4 : Nat) (Option.some Jvm.ClassFile.FieldType.int)) ∈ m_ws := tb_2 207 rfl rfl
theorem q_516 : (Jvm.Cond.methodLink "OneHandEach$Law" (46 : Nat) ({ cls := "OneHandEach$Law", name := "valueOf", desc := "(III)I" } : Jvm.MethodName)) ∈ m_ws := tb_2 208 rfl rfl
theorem q_518 : (Jvm.Cond.instanceMethod ({ cls := "OneHandEach$Law", name := "valueOf", desc := "(III)I" } : Jvm.MethodName)) ∈ m_ws := tb_2 210 rfl rfl
theorem q_519 : (Jvm.Cond.code ({ cls := "OneHandEach$Law", name := "valueOf", desc := "(III)I" } : Jvm.MethodName) prog_8_method_6_code (8 : Nat) (Option.some Jvm.ClassFile.FieldType.int)) ∈ m_ws := tb_2 211 rfl rfl
theorem q_520 : (Jvm.Cond.methodLink "OneHandEach$Law" (56 : Nat) ({ cls := "java/lang/Math", name := "max", desc := "(II)I" } : Jvm.MethodName)) ∈ m_ws := tb_2 212 rfl rfl
theorem q_521 : (Jvm.Cond.static ({ cls := "java/lang/Math", name := "max", desc := "(II)I" } : Jvm.MethodName)) ∈ m_ws := tb_2 213 rfl rfl
theorem q_522 : (Jvm.Cond.code ({ cls := "java/lang/Math", name := "max", desc := "(II)I" } : Jvm.MethodName) prog_16_method_65_code (2 : Nat) (Option.some Jvm.ClassFile.FieldType.int)) ∈ m_ws := tb_2 214 rfl rfl
theorem q_523 : (Jvm.Cond.methodLink "OneHandEach$Law" (63 : Nat) ({ cls := "OneHandEach$Law", name := "isName", desc := "(I)Z" } : Jvm.MethodName)) ∈ m_ws := tb_2 215 rfl rfl
theorem q_524 : (Jvm.Cond.static ({ cls := "OneHandEach$Law", name := "isName", desc := "(I)Z" } : Jvm.MethodName)) ∈ m_ws := tb_2 216 rfl rfl
theorem q_525 : (Jvm.Cond.code ({ cls := "OneHandEach$Law", name := "isName", desc := "(I)Z" } : Jvm.MethodName) prog_8_method_7_code (1 : Nat) (Option.some Jvm.ClassFile.FieldType.boolean)) ∈ m_ws := tb_2 217 rfl rfl
theorem q_526 : (Jvm.Cond.methodLink "OneHandEach$Law" (67 : Nat) ({ cls := "OneHandEach$Law", name := "named", desc := "(IIII)I" } : Jvm.MethodName)) ∈ m_ws := tb_2 218 rfl rfl
theorem q_527 : (Jvm.Cond.static ({ cls := "OneHandEach$Law", name := "named", desc := "(IIII)I" } : Jvm.MethodName)) ∈ m_ws := tb_2 219 rfl rfl
theorem q_528 : (Jvm.Cond.code ({ cls := "OneHandEach$Law", name := "named", desc := "(IIII)I" } : Jvm.MethodName) prog_8_method_8_code (4 : Nat) (Option.some Jvm.ClassFile.FieldType.int)) ∈ m_ws := tb_2 220 rfl rfl
theorem q_529 : (Jvm.Cond.methodLink "OneHandEach$Law" (71 : Nat) ({ cls := "OneHandEach$Law", name := "push", desc := "(II)I" } : Jvm.MethodName)) ∈ m_ws := tb_2 221 rfl rfl
theorem q_531 : (Jvm.Cond.instanceMethod ({ cls := "OneHandEach$Law", name := "push", desc := "(II)I" } : Jvm.MethodName)) ∈ m_ws := tb_2 223 rfl rfl
theorem q_532 : (Jvm.Cond.code ({ cls := "OneHandEach$Law", name := "push", desc := "(II)I" } : Jvm.MethodName) prog_8_method_9_code (3 : Nat) (Option.some Jvm.ClassFile.FieldType.int)) ∈ m_ws := tb_2 224 rfl rfl
theorem q_533 : (Jvm.Cond.methodLink "OneHandEach$Law" (77 : Nat) ({ cls := "OneHandEach$Law", name := "workOut", desc := "(II)I" } : Jvm.MethodName)) ∈ m_ws := tb_2 225 rfl rfl
theorem q_535 : (Jvm.Cond.instanceMethod ({ cls := "OneHandEach$Law", name := "workOut", desc := "(II)I" } : Jvm.MethodName)) ∈ m_ws := tb_2 227 rfl rfl
theorem q_536 : (Jvm.Cond.code ({ cls := "OneHandEach$Law", name := "workOut", desc := "(II)I" } : Jvm.MethodName) prog_8_method_10_code (4 : Nat) (Option.some Jvm.ClassFile.FieldType.int)) ∈ m_ws := tb_2 228 rfl rfl
theorem q_537 : (Jvm.Cond.methodLink "OneHandEach$Law" (80 : Nat) ({ cls := "OneHandEach$Law", name := "joined", desc := "(III)I" } : Jvm.MethodName)) ∈ m_ws := tb_2 229 rfl rfl
theorem q_538 : (Jvm.Cond.static ({ cls := "OneHandEach$Law", name := "joined", desc := "(III)I" } : Jvm.MethodName)) ∈ m_ws := tb_2 230 rfl rfl
theorem q_539 : (Jvm.Cond.code ({ cls := "OneHandEach$Law", name := "joined", desc := "(III)I" } : Jvm.MethodName) prog_8_method_11_code (3 : Nat) (Option.some Jvm.ClassFile.FieldType.int)) ∈ m_ws := tb_2 231 rfl rfl
theorem q_540 : (Jvm.Cond.methodLink "OneHandEach$Law" (50 : Nat) ({ cls := "java/lang/Math", name := "min", desc := "(II)I" } : Jvm.MethodName)) ∈ m_ws := tb_2 232 rfl rfl
theorem q_541 : (Jvm.Cond.static ({ cls := "java/lang/Math", name := "min", desc := "(II)I" } : Jvm.MethodName)) ∈ m_ws := tb_2 233 rfl rfl
theorem q_542 : (Jvm.Cond.code ({ cls := "java/lang/Math", name := "min", desc := "(II)I" } : Jvm.MethodName) prog_16_method_69_code (2 : Nat) (Option.some Jvm.ClassFile.FieldType.int)) ∈ m_ws := tb_2 234 rfl rfl
theorem q_543 : (Jvm.Cond.methodLink "OneHandEachLaw" (41 : Nat) ({ cls := "OneHandEach", name := "sight", desc := "(II)I" } : Jvm.MethodName)) ∈ m_ws := tb_2 235 rfl rfl
theorem q_544 : (Jvm.Cond.instanceMethod ({ cls := "OneHandEach", name := "sight", desc := "(II)I" } : Jvm.MethodName)) ∈ m_ws := tb_2 236 rfl rfl
theorem q_545 : (Jvm.Cond.selects "OneHandEach" ({ cls := "OneHandEach", name := "sight", desc := "(II)I" } : Jvm.MethodName) ({ cls := "OneHandEach", name := "sight", desc := "(II)I" } : Jvm.MethodName)) ∈ m_ws := tb_2 237 rfl rfl
theorem q_546 : (Jvm.Cond.code ({ cls := "OneHandEach", name := "sight", desc := "(II)I" } : Jvm.MethodName) prog_1_method_8_code (3 : Nat) (Option.some Jvm.ClassFile.FieldType.int)) ∈ m_ws := tb_2 238 rfl rfl
theorem q_547 : (Jvm.Cond.methodLink "OneHandEach" (127 : Nat) ({ cls := "OneHandEach", name := "isSight", desc := "(IIII)Z" } : Jvm.MethodName)) ∈ m_ws := tb_2 239 rfl rfl
theorem q_548 : (Jvm.Cond.static ({ cls := "OneHandEach", name := "isSight", desc := "(IIII)Z" } : Jvm.MethodName)) ∈ m_ws := tb_3 0 rfl rfl
theorem q_549 : (Jvm.Cond.code ({ cls := "OneHandEach", name := "isSight", desc := "(IIII)Z" } : Jvm.MethodName) prog_1_method_47_code (4 : Nat) (Option.some Jvm.ClassFile.FieldType.boolean)) ∈ m_ws := tb_3 1 rfl rfl
theorem q_550 : (Jvm.Cond.methodLink "OneHandEach" (193 : Nat) ({ cls := "OneHandEach", name := "isPart", desc := "(I)Z" } : Jvm.MethodName)) ∈ m_ws := tb_3 2 rfl rfl
theorem q_551 : (Jvm.Cond.static ({ cls := "OneHandEach", name := "isPart", desc := "(I)Z" } : Jvm.MethodName)) ∈ m_ws := tb_3 3 rfl rfl
theorem q_552 : (Jvm.Cond.code ({ cls := "OneHandEach", name := "isPart", desc := "(I)Z" } : Jvm.MethodName) prog_1_method_44_code (1 : Nat) (Option.some Jvm.ClassFile.FieldType.boolean)) ∈ m_ws := tb_3 4 rfl rfl
theorem q_553 : (Jvm.Cond.methodLink "OneHandEach" (131 : Nat) ({ cls := "OneHandEach$Entries", name := "isFull", desc := "()Z" } : Jvm.MethodName)) ∈ m_ws := tb_3 5 rfl rfl
theorem q_554 : (Jvm.Cond.instanceMethod ({ cls := "OneHandEach$Entries", name := "isFull", desc := "()Z" } : Jvm.MethodName)) ∈ m_ws := tb_3 6 rfl rfl
theorem q_555 : (Jvm.Cond.selects "OneHandEach$Entries" ({ cls := "OneHandEach$Entries", name := "isFull", desc := "()Z" } : Jvm.MethodName) ({ cls := "OneHandEach$Entries", name := "isFull", desc := "()Z" } : Jvm.MethodName)) ∈ m_ws := tb_3 7 rfl rfl
theorem q_556 : (Jvm.Cond.code ({ cls := "OneHandEach$Entries", name := "isFull", desc := "()Z" } : Jvm.MethodName) prog_4_method_2_code (1 : Nat) (Option.some Jvm.ClassFile.FieldType.boolean)) ∈ m_ws := tb_3 8 rfl rfl
theorem q_557 : (Jvm.Cond.methodLink "OneHandEach" (135 : Nat) ({ cls := "OneHandEach$Entries", name := "add", desc := "(IIII)I" } : Jvm.MethodName)) ∈ m_ws := tb_3 9 rfl rfl
theorem q_558 : (Jvm.Cond.instanceMethod ({ cls := "OneHandEach$Entries", name := "add", desc := "(IIII)I" } : Jvm.MethodName)) ∈ m_ws := tb_3 10 rfl rfl
theorem q_559 : (Jvm.Cond.selects "OneHandEach$Entries" ({ cls := "OneHandEach$Entries", name := "add", desc := "(IIII)I" } : Jvm.MethodName) ({ cls := "OneHandEach$Entries", name := "add", desc := "(IIII)I" } : Jvm.MethodName)) ∈ m_ws := tb_3 11 rfl rfl
theorem q_560 : (Jvm.Cond.code ({ cls := "OneHandEach$Entries", name := "add", desc := "(IIII)I" } : Jvm.MethodName) prog_4_method_3_code (5 : Nat) (Option.some Jvm.ClassFile.FieldType.int)) ∈ m_ws := tb_3 12 rfl rfl
theorem q_561 : (Jvm.Cond.methodLink "OneHandEach$Entries" (25 : Nat) ({ cls := "OneHandEach$Entries", name := "isFull", desc := "()Z" } : Jvm.MethodName)) ∈ m_ws := tb_3 13 rfl rfl
theorem q_562 : (Jvm.Cond.methodLink "OneHandEach$Entries" (29 : Nat) ({ cls := "OneHandEach$Entries", name := "lay", desc := "(II)V" } : Jvm.MethodName)) ∈ m_ws := tb_3 14 rfl rfl
theorem q_564 : (Jvm.Cond.instanceMethod ({ cls := "OneHandEach$Entries", name := "lay", desc := "(II)V" } : Jvm.MethodName)) ∈ m_ws := tb_3 16 rfl rfl
theorem q_565 : (Jvm.Cond.code ({ cls := "OneHandEach$Entries", name := "lay", desc := "(II)V" } : Jvm.MethodName) prog_4_method_4_code (3 : Nat) (Option.none : Option Jvm.ClassFile.FieldType)) ∈ m_ws := tb_3 17 rfl rfl
theorem q_566 : (Jvm.Cond.methodLink "OneHandEachLaw" (45 : Nat) ({ cls := "OneHandEach", name := "sights", desc := "(III)I" } : Jvm.MethodName)) ∈ m_ws := tb_3 18 rfl rfl
theorem q_567 : (Jvm.Cond.instanceMethod ({ cls := "OneHandEach", name := "sights", desc := "(III)I" } : Jvm.MethodName)) ∈ m_ws := tb_3 19 rfl rfl
theorem q_568 : (Jvm.Cond.selects "OneHandEach" ({ cls := "OneHandEach", name := "sights", desc := "(III)I" } : Jvm.MethodName) ({ cls := "OneHandEach", name := "sights", desc := "(III)I" } : Jvm.MethodName)) ∈ m_ws := tb_3 20 rfl rfl
theorem q_569 : (Jvm.Cond.code ({ cls := "OneHandEach", name := "sights", desc := "(III)I" } : Jvm.MethodName) prog_1_method_9_code (5 : Nat) (Option.some Jvm.ClassFile.FieldType.int)) ∈ m_ws := tb_3 21 rfl rfl
theorem q_570 : (Jvm.Cond.methodLink "OneHandEach" (138 : Nat) ({ cls := "OneHandEach", name := "isShelf", desc := "(I)Z" } : Jvm.MethodName)) ∈ m_ws := tb_3 22 rfl rfl
theorem q_571 : (Jvm.Cond.static ({ cls := "OneHandEach", name := "isShelf", desc := "(I)Z" } : Jvm.MethodName)) ∈ m_ws := tb_3 23 rfl rfl
theorem q_572 : (Jvm.Cond.code ({ cls := "OneHandEach", name := "isShelf", desc := "(I)Z" } : Jvm.MethodName) prog_1_method_45_code (1 : Nat) (Option.some Jvm.ClassFile.FieldType.boolean)) ∈ m_ws := tb_3 24 rfl rfl
theorem q_573 : (Jvm.Cond.methodLink "OneHandEach" (145 : Nat) ({ cls := "OneHandEach$Shelf", name := "holdsRow", desc := "(I)Z" } : Jvm.MethodName)) ∈ m_ws := tb_3 25 rfl rfl
theorem q_574 : (Jvm.Cond.instanceMethod ({ cls := "OneHandEach$Shelf", name := "holdsRow", desc := "(I)Z" } : Jvm.MethodName)) ∈ m_ws := tb_3 26 rfl rfl
theorem q_575 : (Jvm.Cond.selects "OneHandEach$Shelf" ({ cls := "OneHandEach$Shelf", name := "holdsRow", desc := "(I)Z" } : Jvm.MethodName) ({ cls := "OneHandEach$Shelf", name := "holdsRow", desc := "(I)Z" } : Jvm.MethodName)) ∈ m_ws := tb_3 27 rfl rfl
theorem q_576 : (Jvm.Cond.code ({ cls := "OneHandEach$Shelf", name := "holdsRow", desc := "(I)Z" } : Jvm.MethodName) prog_11_method_2_code (2 : Nat) (Option.some Jvm.ClassFile.FieldType.boolean)) ∈ m_ws := tb_3 28 rfl rfl
theorem q_577 : (Jvm.Cond.methodLink "OneHandEach" (148 : Nat) ({ cls := "OneHandEach", name := "sightsFrom", desc := "(LOneHandEach$Shelf;II)I" } : Jvm.MethodName)) ∈ m_ws := tb_3 29 rfl rfl
theorem q_579 : (Jvm.Cond.instanceMethod ({ cls := "OneHandEach", name := "sightsFrom", desc := "(LOneHandEach$Shelf;II)I" } : Jvm.MethodName)) ∈ m_ws := tb_3 31 rfl rfl
theorem q_580 : (Jvm.Cond.code ({ cls := "OneHandEach", name := "sightsFrom", desc := "(LOneHandEach$Shelf;II)I" } : Jvm.MethodName) prog_1_method_52_code (10 : Nat) (Option.some Jvm.ClassFile.FieldType.int)) ∈ m_ws := tb_3 32 rfl rfl
theorem q_581 : (Jvm.Cond.methodLink "OneHandEachLaw" (49 : Nat) ({ cls := "OneHandEach", name := "forget", desc := "()I" } : Jvm.MethodName)) ∈ m_ws := tb_3 33 rfl rfl
theorem q_582 : (Jvm.Cond.instanceMethod ({ cls := "OneHandEach", name := "forget", desc := "()I" } : Jvm.MethodName)) ∈ m_ws := tb_3 34 rfl rfl
theorem q_583 : (Jvm.Cond.selects "OneHandEach" ({ cls := "OneHandEach", name := "forget", desc := "()I" } : Jvm.MethodName) ({ cls := "OneHandEach", name := "forget", desc := "()I" } : Jvm.MethodName)) ∈ m_ws := tb_3 35 rfl rfl
theorem q_584 : (Jvm.Cond.code ({ cls := "OneHandEach", name := "forget", desc := "()I" } : Jvm.MethodName) prog_1_method_10_code (1 : Nat) (Option.some Jvm.ClassFile.FieldType.int)) ∈ m_ws := tb_3 36 rfl rfl
theorem q_585 : (Jvm.Cond.methodLink "OneHandEachLaw" (53 : Nat) ({ cls := "OneHandEach", name := "fits", desc := "(I)I" } : Jvm.MethodName)) ∈ m_ws := tb_3 37 rfl rfl
theorem q_586 : (Jvm.Cond.instanceMethod ({ cls := "OneHandEach", name := "fits", desc := "(I)I" } : Jvm.MethodName)) ∈ m_ws := tb_3 38 rfl rfl
theorem q_587 : (Jvm.Cond.selects "OneHandEach" ({ cls := "OneHandEach", name := "fits", desc := "(I)I" } : Jvm.MethodName) ({ cls := "OneHandEach", name := "fits", desc := "(I)I" } : Jvm.MethodName)) ∈ m_ws := tb_3 39 rfl rfl
theorem q_588 : (Jvm.Cond.code ({ cls := "OneHandEach", name := "fits", desc := "(I)I" } : Jvm.MethodName) prog_1_method_11_code (2 : Nat) (Option.some Jvm.ClassFile.FieldType.int)) ∈ m_ws := tb_3 40 rfl rfl
theorem q_589 : (Jvm.Cond.methodLink "OneHandEach" (155 : Nat) ({ cls := "OneHandEach$Fitting", name := "findAll", desc := "(LOneHandEach$Town;LOneHandEach$Entries;I)V" } : Jvm.MethodName)) ∈ m_ws := tb_3 41 rfl rfl
theorem q_590 : (Jvm.Cond.instanceMethod ({ cls := "OneHandEach$Fitting", name := "findAll", desc := "(LOneHandEach$Town;LOneHandEach$Entries;I)V" } : Jvm.MethodName)) ∈ m_ws := tb_3 42 rfl rfl
theorem q_591 : (Jvm.Cond.selects "OneHandEach$Fitting" ({ cls := "OneHandEach$Fitting", name := "findAll", desc := "(LOneHandEach$Town;LOneHandEach$Entries;I)V" } : Jvm.MethodName) ({ cls := "OneHandEach$Fitting", name := "findAll", desc := "(LOneHandEach$Town;LOneHandEach$Entries;I)V" } : Jvm.MethodName)) ∈ m_ws := tb_3 43 rfl rfl
theorem q_592 : (Jvm.Cond.code ({ cls := "OneHandEach$Fitting", name := "findAll", desc := "(LOneHandEach$Town;LOneHandEach$Entries;I)V" } : Jvm.MethodName) prog_5_method_2_code (5 : Nat) (Option.none : Option Jvm.ClassFile.FieldType)) ∈ m_ws := tb_3 44 rfl rfl
theorem q_593 : (Jvm.Cond.methodLink "OneHandEach$Fitting" (22 : Nat) ({ cls := "OneHandEach$Fitting", name := "startAnew", desc := "()V" } : Jvm.MethodName)) ∈ m_ws := tb_3 45 rfl rfl
theorem q_595 : (Jvm.Cond.instanceMethod ({ cls := "OneHandEach$Fitting", name := "startAnew", desc := "()V" } : Jvm.MethodName)) ∈ m_ws := tb_3 47 rfl rfl
theorem q_596 : (Jvm.Cond.code ({ cls := "OneHandEach$Fitting", name := "startAnew", desc := "()V" } : Jvm.MethodName) prog_5_method_4_code (2 : Nat) (Option.none : Option Jvm.ClassFile.FieldType)) ∈ m_ws := tb_3 48 rfl rfl
theorem q_597 : (Jvm.Cond.methodLink "OneHandEach$Fitting" (31 : Nat) ({ cls := "OneHandEach$Entries", name := "told", desc := "(II)I" } : Jvm.MethodName)) ∈ m_ws := tb_3 49 rfl rfl
theorem q_598 : (Jvm.Cond.methodLink "OneHandEach$Fitting" (35 : Nat) ({ cls := "OneHandEach$Fitting", name := "strike", desc := "(LOneHandEach$Town;IIII)V" } : Jvm.MethodName)) ∈ m_ws := tb_3 50 rfl rfl
theorem q_600 : (Jvm.Cond.instanceMethod ({ cls := "OneHandEach$Fitting", name := "strike", desc := "(LOneHandEach$Town;IIII)V" } : Jvm.MethodName)) ∈ m_ws := tb_3 52 rfl rfl
theorem q_601 : (Jvm.Cond.code ({ cls := "OneHandEach$Fitting", name := "strike", desc := "(LOneHandEach$Town;IIII)V" } : Jvm.MethodName) prog_5_method_5_code (8 : Nat) (Option.none : Option Jvm.ClassFile.FieldType)) ∈ m_ws := tb_3 53 rfl rfl
theorem q_603 : (Jvm.Cond.methodLink "OneHandEach$Fitting" (39 : Nat) ({ cls := "OneHandEach$Town", name := "partAt", desc := "(II)I" } : Jvm.MethodName)) ∈ m_ws := tb_3 55 rfl rfl
theorem q_604 : (Jvm.Cond.methodLink "OneHandEach$Fitting" (55 : Nat) ({ cls := "OneHandEach$Town", name := "isNear", desc := "(II)Z" } : Jvm.MethodName)) ∈ m_ws := tb_3 56 rfl rfl
theorem q_605 : (Jvm.Cond.instanceMethod ({ cls := "OneHandEach$Town", name := "isNear", desc := "(II)Z" } : Jvm.MethodName)) ∈ m_ws := tb_3 57 rfl rfl
theorem q_606 : (Jvm.Cond.selects "OneHandEach$Town" ({ cls := "OneHandEach$Town", name := "isNear", desc := "(II)Z" } : Jvm.MethodName) ({ cls := "OneHandEach$Town", name := "isNear", desc := "(II)Z" } : Jvm.MethodName)) ∈ m_ws := tb_3 58 rfl rfl
theorem q_607 : (Jvm.Cond.code ({ cls := "OneHandEach$Town", name := "isNear", desc := "(II)Z" } : Jvm.MethodName) prog_12_method_11_code (4 : Nat) (Option.some Jvm.ClassFile.FieldType.boolean)) ∈ m_ws := tb_3 59 rfl rfl
theorem q_608 : (Jvm.Cond.methodLink "OneHandEach$Town" (48 : Nat) ({ cls := "java/lang/Math", name := "abs", desc := "(I)I" } : Jvm.MethodName)) ∈ m_ws := tb_3 60 rfl rfl
theorem q_609 : (Jvm.Cond.static ({ cls := "java/lang/Math", name := "abs", desc := "(I)I" } : Jvm.MethodName)) ∈ m_ws := tb_3 61 rfl rfl
theorem q_610 : (Jvm.Cond.code ({ cls := "java/lang/Math", name := "abs", desc := "(I)I" } : Jvm.MethodName) prog_16_method_59_code (1 : Nat) (Option.some Jvm.ClassFile.FieldType.int)) ∈ m_ws := tb_3 62 rfl rfl
theorem q_611 : (Jvm.Cond.methodLink "OneHandEach$Town" (51 : Nat) ({ cls := "java/lang/Math", name := "min", desc := "(II)I" } : Jvm.MethodName)) ∈ m_ws := tb_3 63 rfl rfl
theorem q_612 : (Jvm.Cond.methodLink "OneHandEach" (159 : Nat) ({ cls := "OneHandEach$Fitting", name := "howMany", desc := "()I" } : Jvm.MethodName)) ∈ m_ws := tb_3 64 rfl rfl
theorem q_613 : (Jvm.Cond.instanceMethod ({ cls := "OneHandEach$Fitting", name := "howMany", desc := "()I" } : Jvm.MethodName)) ∈ m_ws := tb_3 65 rfl rfl
theorem q_614 : (Jvm.Cond.selects "OneHandEach$Fitting" ({ cls := "OneHandEach$Fitting", name := "howMany", desc := "()I" } : Jvm.MethodName) ({ cls := "OneHandEach$Fitting", name := "howMany", desc := "()I" } : Jvm.MethodName)) ∈ m_ws := tb_3 66 rfl rfl
theorem q_615 : (Jvm.Cond.code ({ cls := "OneHandEach$Fitting", name := "howMany", desc := "()I" } : Jvm.MethodName) prog_5_method_6_code (3 : Nat) (Option.some Jvm.ClassFile.FieldType.int)) ∈ m_ws := tb_3 67 rfl rfl
theorem q_616 : (Jvm.Cond.methodLink "OneHandEach" (162 : Nat) ({ cls := "OneHandEach$Fitting", name := "timeOf", desc := "(I)I" } : Jvm.MethodName)) ∈ m_ws := tb_3 68 rfl rfl
theorem q_617 : (Jvm.Cond.instanceMethod ({ cls := "OneHandEach$Fitting", name := "timeOf", desc := "(I)I" } : Jvm.MethodName)) ∈ m_ws := tb_3 69 rfl rfl
theorem q_618 : (Jvm.Cond.selects "OneHandEach$Fitting" ({ cls := "OneHandEach$Fitting", name := "timeOf", desc := "(I)I" } : Jvm.MethodName) ({ cls := "OneHandEach$Fitting", name := "timeOf", desc := "(I)I" } : Jvm.MethodName)) ∈ m_ws := tb_3 70 rfl rfl
theorem q_619 : (Jvm.Cond.code ({ cls := "OneHandEach$Fitting", name := "timeOf", desc := "(I)I" } : Jvm.MethodName) prog_5_method_7_code (4 : Nat) (Option.some Jvm.ClassFile.FieldType.int)) ∈ m_ws := tb_3 71 rfl rfl
theorem q_620 : (Jvm.Cond.methodLink "OneHandEachLaw" (57 : Nat) ({ cls := "OneHandEach", name := "chance", desc := "(II)I" } : Jvm.MethodName)) ∈ m_ws := tb_3 72 rfl rfl
theorem q_621 : (Jvm.Cond.instanceMethod ({ cls := "OneHandEach", name := "chance", desc := "(II)I" } : Jvm.MethodName)) ∈ m_ws := tb_3 73 rfl rfl
theorem q_622 : (Jvm.Cond.selects "OneHandEach" ({ cls := "OneHandEach", name := "chance", desc := "(II)I" } : Jvm.MethodName) ({ cls := "OneHandEach", name := "chance", desc := "(II)I" } : Jvm.MethodName)) ∈ m_ws := tb_3 74 rfl rfl
theorem q_623 : (Jvm.Cond.code ({ cls := "OneHandEach", name := "chance", desc := "(II)I" } : Jvm.MethodName) prog_1_method_12_code (8 : Nat) (Option.some Jvm.ClassFile.FieldType.int)) ∈ m_ws := tb_3 75 rfl rfl
theorem q_624 : (Jvm.Cond.methodLink "OneHandEach" (165 : Nat) ({ cls := "OneHandEach", name := "weightOfFits", desc := "(II)I" } : Jvm.MethodName)) ∈ m_ws := tb_3 76 rfl rfl
theorem q_626 : (Jvm.Cond.instanceMethod ({ cls := "OneHandEach", name := "weightOfFits", desc := "(II)I" } : Jvm.MethodName)) ∈ m_ws := tb_3 78 rfl rfl
theorem q_627 : (Jvm.Cond.code ({ cls := "OneHandEach", name := "weightOfFits", desc := "(II)I" } : Jvm.MethodName) prog_1_method_51_code (5 : Nat) (Option.some Jvm.ClassFile.FieldType.int)) ∈ m_ws := tb_3 79 rfl rfl
theorem q_628 : (Jvm.Cond.methodLink "OneHandEach" (168 : Nat) ({ cls := "OneHandEach", name := "commonMeasure", desc := "(II)I" } : Jvm.MethodName)) ∈ m_ws := tb_3 80 rfl rfl
theorem q_629 : (Jvm.Cond.static ({ cls := "OneHandEach", name := "commonMeasure", desc := "(II)I" } : Jvm.MethodName)) ∈ m_ws := tb_3 81 rfl rfl
theorem q_630 : (Jvm.Cond.code ({ cls := "OneHandEach", name := "commonMeasure", desc := "(II)I" } : Jvm.MethodName) prog_1_method_49_code (6 : Nat) (Option.some Jvm.ClassFile.FieldType.int)) ∈ m_ws := tb_3 82 rfl rfl
theorem q_631 : (Jvm.Cond.methodLink "OneHandEachLaw" (61 : Nat) ({ cls := "OneHandEach", name := "likely", desc := "()I" } : Jvm.MethodName)) ∈ m_ws := tb_3 83 rfl rfl
theorem q_632 : (Jvm.Cond.instanceMethod ({ cls := "OneHandEach", name := "likely", desc := "()I" } : Jvm.MethodName)) ∈ m_ws := tb_3 84 rfl rfl
theorem q_633 : (Jvm.Cond.selects "OneHandEach" ({ cls := "OneHandEach", name := "likely", desc := "()I" } : Jvm.MethodName) ({ cls := "OneHandEach", name := "likely", desc := "()I" } : Jvm.MethodName)) ∈ m_ws := tb_3 85 rfl rfl
theorem q_634 : (Jvm.Cond.code ({ cls := "OneHandEach", name := "likely", desc := "()I" } : Jvm.MethodName) prog_1_method_13_code (5 : Nat) (Option.some Jvm.ClassFile.FieldType.int)) ∈ m_ws := tb_3 86 rfl rfl
theorem q_635 : (Jvm.Cond.methodLink "OneHandEachLaw" (65 : Nat) ({ cls := "OneHandEach", name := "tells", desc := "(I)I" } : Jvm.MethodName)) ∈ m_ws := tb_3 87 rfl rfl
theorem q_636 : (Jvm.Cond.instanceMethod ({ cls := "OneHandEach", name := "tells", desc := "(I)I" } : Jvm.MethodName)) ∈ m_ws := tb_3 88 rfl rfl
theorem q_637 : (Jvm.Cond.selects "OneHandEach" ({ cls := "OneHandEach", name := "tells", desc := "(I)I" } : Jvm.MethodName) ({ cls := "OneHandEach", name := "tells", desc := "(I)I" } : Jvm.MethodName)) ∈ m_ws := tb_3 89 rfl rfl
theorem q_638 : (Jvm.Cond.code ({ cls := "OneHandEach", name := "tells", desc := "(I)I" } : Jvm.MethodName) prog_1_method_14_code (3 : Nat) (Option.some Jvm.ClassFile.FieldType.int)) ∈ m_ws := tb_3 90 rfl rfl
theorem q_639 : (Jvm.Cond.methodLink "OneHandEachLaw" (69 : Nat) ({ cls := "OneHandEach", name := "next", desc := "(II)I" } : Jvm.MethodName)) ∈ m_ws := tb_3 91 rfl rfl
theorem q_640 : (Jvm.Cond.instanceMethod ({ cls := "OneHandEach", name := "next", desc := "(II)I" } : Jvm.MethodName)) ∈ m_ws := tb_3 92 rfl rfl
theorem q_641 : (Jvm.Cond.selects "OneHandEach" ({ cls := "OneHandEach", name := "next", desc := "(II)I" } : Jvm.MethodName) ({ cls := "OneHandEach", name := "next", desc := "(II)I" } : Jvm.MethodName)) ∈ m_ws := tb_3 93 rfl rfl
theorem q_642 : (Jvm.Cond.code ({ cls := "OneHandEach", name := "next", desc := "(II)I" } : Jvm.MethodName) prog_1_method_15_code (6 : Nat) (Option.some Jvm.ClassFile.FieldType.int)) ∈ m_ws := tb_3 94 rfl rfl
theorem q_643 : (Jvm.Cond.methodLink "OneHandEach" (175 : Nat) ({ cls := "OneHandEach$Fitting", name := "mostAlike", desc := "(LOneHandEach$Town;II)I" } : Jvm.MethodName)) ∈ m_ws := tb_3 95 rfl rfl
theorem q_644 : (Jvm.Cond.instanceMethod ({ cls := "OneHandEach$Fitting", name := "mostAlike", desc := "(LOneHandEach$Town;II)I" } : Jvm.MethodName)) ∈ m_ws := tb_3 96 rfl rfl
theorem q_645 : (Jvm.Cond.selects "OneHandEach$Fitting" ({ cls := "OneHandEach$Fitting", name := "mostAlike", desc := "(LOneHandEach$Town;II)I" } : Jvm.MethodName) ({ cls := "OneHandEach$Fitting", name := "mostAlike", desc := "(LOneHandEach$Town;II)I" } : Jvm.MethodName)) ∈ m_ws := tb_3 97 rfl rfl
theorem q_646 : (Jvm.Cond.code ({ cls := "OneHandEach$Fitting", name := "mostAlike", desc := "(LOneHandEach$Town;II)I" } : Jvm.MethodName) prog_5_method_8_code (7 : Nat) (Option.some Jvm.ClassFile.FieldType.int)) ∈ m_ws := tb_3 98 rfl rfl
theorem q_648 : (Jvm.Cond.methodLink "OneHandEach$Fitting" (63 : Nat) ({ cls := "java/lang/Math", name := "max", desc := "(II)I" } : Jvm.MethodName)) ∈ m_ws := tb_3 100 rfl rfl
theorem q_649 : (Jvm.Cond.methodLink "OneHandEach" (179 : Nat) ({ cls := "java/lang/Math", name := "min", desc := "(II)I" } : Jvm.MethodName)) ∈ m_ws := tb_3 101 rfl rfl
theorem q_650 : (Jvm.Cond.methodLink "OneHandEachLaw" (73 : Nat) ({ cls := "OneHandEach", name := "lot", desc := "(III)I" } : Jvm.MethodName)) ∈ m_ws := tb_3 102 rfl rfl
theorem q_651 : (Jvm.Cond.instanceMethod ({ cls := "OneHandEach", name := "lot", desc := "(III)I" } : Jvm.MethodName)) ∈ m_ws := tb_3 103 rfl rfl
theorem q_652 : (Jvm.Cond.selects "OneHandEach" ({ cls := "OneHandEach", name := "lot", desc := "(III)I" } : Jvm.MethodName) ({ cls := "OneHandEach", name := "lot", desc := "(III)I" } : Jvm.MethodName)) ∈ m_ws := tb_3 104 rfl rfl
theorem q_653 : (Jvm.Cond.code ({ cls := "OneHandEach", name := "lot", desc := "(III)I" } : Jvm.MethodName) prog_1_method_16_code (10 : Nat) (Option.some Jvm.ClassFile.FieldType.int)) ∈ m_ws := tb_3 105 rfl rfl
theorem q_654 : (Jvm.Cond.methodLink "OneHandEach" (184 : Nat) ({ cls := "OneHandEach", name := "drawn", desc := "(I)I" } : Jvm.MethodName)) ∈ m_ws := tb_3 106 rfl rfl
theorem q_655 : (Jvm.Cond.static ({ cls := "OneHandEach", name := "drawn", desc := "(I)I" } : Jvm.MethodName)) ∈ m_ws := tb_3 107 rfl rfl
theorem q_656 : (Jvm.Cond.code ({ cls := "OneHandEach", name := "drawn", desc := "(I)I" } : Jvm.MethodName) prog_1_method_48_code (1 : Nat) (Option.some Jvm.ClassFile.FieldType.int)) ∈ m_ws := tb_3 108 rfl rfl
theorem q_657 : (Jvm.Cond.constant "OneHandEach" (314 : Nat) (1103515245 : Int32)) ∈ m_ws := tb_3 109 rfl rfl
theorem q_658 : (Jvm.Cond.methodLink "OneHandEach" (187 : Nat) ({ cls := "OneHandEach$Town", name := "walkOf", desc := "(I)I" } : Jvm.MethodName)) ∈ m_ws := tb_3 110 rfl rfl
theorem q_659 : (Jvm.Cond.instanceMethod ({ cls := "OneHandEach$Town", name := "walkOf", desc := "(I)I" } : Jvm.MethodName)) ∈ m_ws := tb_3 111 rfl rfl
theorem q_660 : (Jvm.Cond.selects "OneHandEach$Town" ({ cls := "OneHandEach$Town", name := "walkOf", desc := "(I)I" } : Jvm.MethodName) ({ cls := "OneHandEach$Town", name := "walkOf", desc := "(I)I" } : Jvm.MethodName)) ∈ m_ws := tb_3 112 rfl rfl
theorem q_661 : (Jvm.Cond.code ({ cls := "OneHandEach$Town", name := "walkOf", desc := "(I)I" } : Jvm.MethodName) prog_12_method_14_code (3 : Nat) (Option.some Jvm.ClassFile.FieldType.int)) ∈ m_ws := tb_3 113 rfl rfl
theorem q_662 : (Jvm.Cond.methodLink "OneHandEach" (190 : Nat) ({ cls := "OneHandEach$Fitting", name := "fitsOfWalker", desc := "(LOneHandEach$Town;II)I" } : Jvm.MethodName)) ∈ m_ws := tb_3 114 rfl rfl
theorem q_663 : (Jvm.Cond.instanceMethod ({ cls := "OneHandEach$Fitting", name := "fitsOfWalker", desc := "(LOneHandEach$Town;II)I" } : Jvm.MethodName)) ∈ m_ws := tb_3 115 rfl rfl
theorem q_664 : (Jvm.Cond.selects "OneHandEach$Fitting" ({ cls := "OneHandEach$Fitting", name := "fitsOfWalker", desc := "(LOneHandEach$Town;II)I" } : Jvm.MethodName) ({ cls := "OneHandEach$Fitting", name := "fitsOfWalker", desc := "(LOneHandEach$Town;II)I" } : Jvm.MethodName)) ∈ m_ws := tb_3 116 rfl rfl
theorem q_665 : (Jvm.Cond.code ({ cls := "OneHandEach$Fitting", name := "fitsOfWalker", desc := "(LOneHandEach$Town;II)I" } : Jvm.MethodName) prog_5_method_3_code (4 : Nat) (Option.some Jvm.ClassFile.FieldType.int)) ∈ m_ws := tb_3 117 rfl rfl
theorem q_666 : (Jvm.Cond.methodLink "OneHandEach$Fitting" (47 : Nat) ({ cls := "OneHandEach$Fitting", name := "howMany", desc := "()I" } : Jvm.MethodName)) ∈ m_ws := tb_3 118 rfl rfl
theorem q_667 : (Jvm.Cond.methodLink "OneHandEachLaw" (77 : Nat) ({ cls := "OneHandEach", name := "gun", desc := "(II)I" } : Jvm.MethodName)) ∈ m_ws := tb_3 119 rfl rfl
theorem q_668 : (Jvm.Cond.instanceMethod ({ cls := "OneHandEach", name := "gun", desc := "(II)I" } : Jvm.MethodName)) ∈ m_ws := tb_3 120 rfl rfl
theorem q_669 : (Jvm.Cond.selects "OneHandEach" ({ cls := "OneHandEach", name := "gun", desc := "(II)I" } : Jvm.MethodName) ({ cls := "OneHandEach", name := "gun", desc := "(II)I" } : Jvm.MethodName)) ∈ m_ws := tb_3 121 rfl rfl
theorem q_670 : (Jvm.Cond.code ({ cls := "OneHandEach", name := "gun", desc := "(II)I" } : Jvm.MethodName) prog_1_method_17_code (3 : Nat) (Option.some Jvm.ClassFile.FieldType.int)) ∈ m_ws := tb_3 122 rfl rfl
theorem q_671 : (Jvm.Cond.methodLink "OneHandEachLaw" (81 : Nat) ({ cls := "OneHandEach", name := "guess", desc := "(II)I" } : Jvm.MethodName)) ∈ m_ws := tb_3 123 rfl rfl
theorem q_672 : (Jvm.Cond.instanceMethod ({ cls := "OneHandEach", name := "guess", desc := "(II)I" } : Jvm.MethodName)) ∈ m_ws := tb_3 124 rfl rfl
theorem q_673 : (Jvm.Cond.selects "OneHandEach" ({ cls := "OneHandEach", name := "guess", desc := "(II)I" } : Jvm.MethodName) ({ cls := "OneHandEach", name := "guess", desc := "(II)I" } : Jvm.MethodName)) ∈ m_ws := tb_3 125 rfl rfl
theorem q_674 : (Jvm.Cond.code ({ cls := "OneHandEach", name := "guess", desc := "(II)I" } : Jvm.MethodName) prog_1_method_18_code (3 : Nat) (Option.some Jvm.ClassFile.FieldType.int)) ∈ m_ws := tb_3 126 rfl rfl
theorem q_675 : (Jvm.Cond.methodLink "OneHandEach" (196 : Nat) ({ cls := "OneHandEach$Guesses", name := "find", desc := "(LOneHandEach$Town;LOneHandEach$Entries;I)V" } : Jvm.MethodName)) ∈ m_ws := tb_3 127 rfl rfl
theorem q_676 : (Jvm.Cond.instanceMethod ({ cls := "OneHandEach$Guesses", name := "find", desc := "(LOneHandEach$Town;LOneHandEach$Entries;I)V" } : Jvm.MethodName)) ∈ m_ws := tb_3 128 rfl rfl
theorem q_677 : (Jvm.Cond.selects "OneHandEach$Guesses" ({ cls := "OneHandEach$Guesses", name := "find", desc := "(LOneHandEach$Town;LOneHandEach$Entries;I)V" } : Jvm.MethodName) ({ cls := "OneHandEach$Guesses", name := "find", desc := "(LOneHandEach$Town;LOneHandEach$Entries;I)V" } : Jvm.MethodName)) ∈ m_ws := tb_3 129 rfl rfl
theorem q_678 : (Jvm.Cond.code ({ cls := "OneHandEach$Guesses", name := "find", desc := "(LOneHandEach$Town;LOneHandEach$Entries;I)V" } : Jvm.MethodName) prog_6_method_2_code (6 : Nat) (Option.none : Option Jvm.ClassFile.FieldType)) ∈ m_ws := tb_3 130 rfl rfl
theorem q_679 : (Jvm.Cond.methodLink "OneHandEach$Guesses" (15 : Nat) ({ cls := "OneHandEach$Guesses", name := "wrongBy", desc := "(LOneHandEach$Town;LOneHandEach$Entries;III)I" } : Jvm.MethodName)) ∈ m_ws := tb_3 131 rfl rfl
theorem q_680 : (Jvm.Cond.static ({ cls := "OneHandEach$Guesses", name := "wrongBy", desc := "(LOneHandEach$Town;LOneHandEach$Entries;III)I" } : Jvm.MethodName)) ∈ m_ws := tb_3 132 rfl rfl
theorem q_681 : (Jvm.Cond.code ({ cls := "OneHandEach$Guesses", name := "wrongBy", desc := "(LOneHandEach$Town;LOneHandEach$Entries;III)I" } : Jvm.MethodName) prog_6_method_5_code (8 : Nat) (Option.some Jvm.ClassFile.FieldType.int)) ∈ m_ws := tb_3 133 rfl rfl
theorem q_682 : (Jvm.Cond.methodLink "OneHandEach$Guesses" (44 : Nat) ({ cls := "OneHandEach$Entries", name := "told", desc := "(II)I" } : Jvm.MethodName)) ∈ m_ws := tb_3 134 rfl rfl
theorem q_683 : (Jvm.Cond.methodLink "OneHandEach$Guesses" (46 : Nat) ({ cls := "OneHandEach$Town", name := "timeBy", desc := "(III)I" } : Jvm.MethodName)) ∈ m_ws := tb_3 135 rfl rfl
theorem q_684 : (Jvm.Cond.methodLink "OneHandEach$Guesses" (52 : Nat) ({ cls := "OneHandEach$Town", name := "partOf", desc := "(II)I" } : Jvm.MethodName)) ∈ m_ws := tb_3 136 rfl rfl
theorem q_685 : (Jvm.Cond.methodLink "OneHandEach$Guesses" (55 : Nat) ({ cls := "OneHandEach$Town", name := "isNear", desc := "(II)Z" } : Jvm.MethodName)) ∈ m_ws := tb_3 137 rfl rfl
theorem q_686 : (Jvm.Cond.methodLink "OneHandEach$Guesses" (19 : Nat) ({ cls := "OneHandEach$Guesses", name := "note", desc := "(II)V" } : Jvm.MethodName)) ∈ m_ws := tb_3 138 rfl rfl
theorem q_688 : (Jvm.Cond.instanceMethod ({ cls := "OneHandEach$Guesses", name := "note", desc := "(II)V" } : Jvm.MethodName)) ∈ m_ws := tb_3 140 rfl rfl
theorem q_689 : (Jvm.Cond.code ({ cls := "OneHandEach$Guesses", name := "note", desc := "(II)V" } : Jvm.MethodName) prog_6_method_3_code (4 : Nat) (Option.none : Option Jvm.ClassFile.FieldType)) ∈ m_ws := tb_3 141 rfl rfl
theorem q_690 : (Jvm.Cond.methodLink "OneHandEach$Guesses" (23 : Nat) ({ cls := "java/lang/Math", name := "min", desc := "(II)I" } : Jvm.MethodName)) ∈ m_ws := tb_3 142 rfl rfl
theorem q_691 : (Jvm.Cond.methodLink "OneHandEach$Guesses" (29 : Nat) ({ cls := "java/lang/Math", name := "max", desc := "(II)I" } : Jvm.MethodName)) ∈ m_ws := tb_3 143 rfl rfl
theorem q_692 : (Jvm.Cond.methodLink "OneHandEachLaw" (85 : Nat) ({ cls := "OneHandEach", name := "liars", desc := "(I)I" } : Jvm.MethodName)) ∈ m_ws := tb_3 144 rfl rfl
theorem q_693 : (Jvm.Cond.instanceMethod ({ cls := "OneHandEach", name := "liars", desc := "(I)I" } : Jvm.MethodName)) ∈ m_ws := tb_3 145 rfl rfl
theorem q_694 : (Jvm.Cond.selects "OneHandEach" ({ cls := "OneHandEach", name := "liars", desc := "(I)I" } : Jvm.MethodName) ({ cls := "OneHandEach", name := "liars", desc := "(I)I" } : Jvm.MethodName)) ∈ m_ws := tb_3 146 rfl rfl
theorem q_695 : (Jvm.Cond.code ({ cls := "OneHandEach", name := "liars", desc := "(I)I" } : Jvm.MethodName) prog_1_method_19_code (2 : Nat) (Option.some Jvm.ClassFile.FieldType.int)) ∈ m_ws := tb_3 147 rfl rfl
theorem q_696 : (Jvm.Cond.methodLink "OneHandEach" (201 : Nat) ({ cls := "OneHandEach$Guesses", name := "fewestWrong", desc := "(LOneHandEach$Town;LOneHandEach$Entries;I)I" } : Jvm.MethodName)) ∈ m_ws := tb_3 148 rfl rfl
theorem q_697 : (Jvm.Cond.static ({ cls := "OneHandEach$Guesses", name := "fewestWrong", desc := "(LOneHandEach$Town;LOneHandEach$Entries;I)I" } : Jvm.MethodName)) ∈ m_ws := tb_3 149 rfl rfl
theorem q_698 : (Jvm.Cond.code ({ cls := "OneHandEach$Guesses", name := "fewestWrong", desc := "(LOneHandEach$Town;LOneHandEach$Entries;I)I" } : Jvm.MethodName) prog_6_method_4_code (8 : Nat) (Option.some Jvm.ClassFile.FieldType.int)) ∈ m_ws := tb_3 150 rfl rfl
theorem q_699 : (Jvm.Cond.methodLink "OneHandEach$Guesses" (32 : Nat) ({ cls := "java/lang/Integer", name := "bitCount", desc := "(I)I" } : Jvm.MethodName)) ∈ m_ws := tb_3 151 rfl rfl
theorem q_700 : (Jvm.Cond.static ({ cls := "java/lang/Integer", name := "bitCount", desc := "(I)I" } : Jvm.MethodName)) ∈ m_ws := tb_3 152 rfl rfl
theorem q_701 : (Jvm.Cond.code ({ cls := "java/lang/Integer", name := "bitCount", desc := "(I)I" } : Jvm.MethodName) prog_15_method_49_code (1 : Nat) (Option.some Jvm.ClassFile.FieldType.int)) ∈ m_ws := tb_3 153 rfl rfl
theorem q_702 : (Jvm.Cond.constant "java/lang/Integer" (265 : Nat) (1431655765 : Int32)) ∈ m_ws := tb_3 154 rfl rfl
theorem q_703 : (Jvm.Cond.constant "java/lang/Integer" (266 : Nat) (858993459 : Int32)) ∈ m_ws := tb_3 155 rfl rfl
theorem q_704 : (Jvm.Cond.constant "java/lang/Integer" (267 : Nat) (252645135 : Int32)) ∈ m_ws := tb_3 156 rfl rfl
theorem q_705 : (Jvm.Cond.methodLink "OneHandEachLaw" (89 : Nat) ({ cls := "OneHandEach", name := "agree", desc := "(III)I" } : Jvm.MethodName)) ∈ m_ws := tb_3 157 rfl rfl
theorem q_706 : (Jvm.Cond.instanceMethod ({ cls := "OneHandEach", name := "agree", desc := "(III)I" } : Jvm.MethodName)) ∈ m_ws := tb_3 158 rfl rfl
theorem q_707 : (Jvm.Cond.selects "OneHandEach" ({ cls := "OneHandEach", name := "agree", desc := "(III)I" } : Jvm.MethodName) ({ cls := "OneHandEach", name := "agree", desc := "(III)I" } : Jvm.MethodName)) ∈ m_ws := tb_3 159 rfl rfl
theorem q_708 : (Jvm.Cond.code ({ cls := "OneHandEach", name := "agree", desc := "(III)I" } : Jvm.MethodName) prog_1_method_20_code (7 : Nat) (Option.some Jvm.ClassFile.FieldType.int)) ∈ m_ws := tb_3 160 rfl rfl
theorem q_709 : (Jvm.Cond.methodLink "OneHandEachLaw" (93 : Nat) ({ cls := "OneHandEach", name := "meet", desc := "(III)I" } : Jvm.MethodName)) ∈ m_ws := tb_3 161 rfl rfl
theorem q_710 : (Jvm.Cond.instanceMethod ({ cls := "OneHandEach", name := "meet", desc := "(III)I" } : Jvm.MethodName)) ∈ m_ws := tb_3 162 rfl rfl
theorem q_711 : (Jvm.Cond.selects "OneHandEach" ({ cls := "OneHandEach", name := "meet", desc := "(III)I" } : Jvm.MethodName) ({ cls := "OneHandEach", name := "meet", desc := "(III)I" } : Jvm.MethodName)) ∈ m_ws := tb_3 163 rfl rfl
theorem q_712 : (Jvm.Cond.code ({ cls := "OneHandEach", name := "meet", desc := "(III)I" } : Jvm.MethodName) prog_1_method_21_code (6 : Nat) (Option.some Jvm.ClassFile.FieldType.int)) ∈ m_ws := tb_3 164 rfl rfl
theorem q_713 : (Jvm.Cond.methodLink "OneHandEach" (205 : Nat) ({ cls := "OneHandEach$Town", name := "firstMinute", desc := "(III)I" } : Jvm.MethodName)) ∈ m_ws := tb_3 165 rfl rfl
theorem q_714 : (Jvm.Cond.instanceMethod ({ cls := "OneHandEach$Town", name := "firstMinute", desc := "(III)I" } : Jvm.MethodName)) ∈ m_ws := tb_3 166 rfl rfl
theorem q_715 : (Jvm.Cond.selects "OneHandEach$Town" ({ cls := "OneHandEach$Town", name := "firstMinute", desc := "(III)I" } : Jvm.MethodName) ({ cls := "OneHandEach$Town", name := "firstMinute", desc := "(III)I" } : Jvm.MethodName)) ∈ m_ws := tb_3 167 rfl rfl
theorem q_716 : (Jvm.Cond.code ({ cls := "OneHandEach$Town", name := "firstMinute", desc := "(III)I" } : Jvm.MethodName) prog_12_method_13_code (5 : Nat) (Option.some Jvm.ClassFile.FieldType.int)) ∈ m_ws := tb_3 168 rfl rfl
theorem q_717 : (Jvm.Cond.methodLink "OneHandEach$Town" (54 : Nat) ({ cls := "OneHandEach$Town", name := "partAt", desc := "(II)I" } : Jvm.MethodName)) ∈ m_ws := tb_3 169 rfl rfl
theorem q_718 : (Jvm.Cond.methodLink "OneHandEach" (209 : Nat) ({ cls := "java/lang/Math", name := "abs", desc := "(I)I" } : Jvm.MethodName)) ∈ m_ws := tb_3 170 rfl rfl
theorem q_719 : (Jvm.Cond.methodLink "OneHandEachLaw" (97 : Nat) ({ cls := "OneHandEach", name := "round", desc := "(II)I" } : Jvm.MethodName)) ∈ m_ws := tb_3 171 rfl rfl
theorem q_720 : (Jvm.Cond.instanceMethod ({ cls := "OneHandEach", name := "round", desc := "(II)I" } : Jvm.MethodName)) ∈ m_ws := tb_3 172 rfl rfl
theorem q_721 : (Jvm.Cond.selects "OneHandEach" ({ cls := "OneHandEach", name := "round", desc := "(II)I" } : Jvm.MethodName) ({ cls := "OneHandEach", name := "round", desc := "(II)I" } : Jvm.MethodName)) ∈ m_ws := tb_3 173 rfl rfl
theorem q_722 : (Jvm.Cond.code ({ cls := "OneHandEach", name := "round", desc := "(II)I" } : Jvm.MethodName) prog_1_method_22_code (5 : Nat) (Option.some Jvm.ClassFile.FieldType.int)) ∈ m_ws := tb_3 174 rfl rfl
theorem q_723 : (Jvm.Cond.methodLink "OneHandEach" (212 : Nat) ({ cls := "OneHandEach$Town", name := "gain", desc := "(I)I" } : Jvm.MethodName)) ∈ m_ws := tb_3 175 rfl rfl
theorem q_724 : (Jvm.Cond.methodLink "OneHandEachLaw" (101 : Nat) ({ cls := "OneHandEach", name := "set", desc := "(II)I" } : Jvm.MethodName)) ∈ m_ws := tb_3 176 rfl rfl
theorem q_725 : (Jvm.Cond.instanceMethod ({ cls := "OneHandEach", name := "set", desc := "(II)I" } : Jvm.MethodName)) ∈ m_ws := tb_3 177 rfl rfl
theorem q_726 : (Jvm.Cond.selects "OneHandEach" ({ cls := "OneHandEach", name := "set", desc := "(II)I" } : Jvm.MethodName) ({ cls := "OneHandEach", name := "set", desc := "(II)I" } : Jvm.MethodName)) ∈ m_ws := tb_3 178 rfl rfl
theorem q_727 : (Jvm.Cond.code ({ cls := "OneHandEach", name := "set", desc := "(II)I" } : Jvm.MethodName) prog_1_method_23_code (4 : Nat) (Option.some Jvm.ClassFile.FieldType.int)) ∈ m_ws := tb_3 179 rfl rfl
theorem q_728 : (Jvm.Cond.methodLink "OneHandEach" (215 : Nat) ({ cls := "OneHandEach$Town", name := "offToShow", desc := "(III)I" } : Jvm.MethodName)) ∈ m_ws := tb_3 180 rfl rfl
theorem q_729 : (Jvm.Cond.instanceMethod ({ cls := "OneHandEach$Town", name := "offToShow", desc := "(III)I" } : Jvm.MethodName)) ∈ m_ws := tb_3 181 rfl rfl
theorem q_730 : (Jvm.Cond.selects "OneHandEach$Town" ({ cls := "OneHandEach$Town", name := "offToShow", desc := "(III)I" } : Jvm.MethodName) ({ cls := "OneHandEach$Town", name := "offToShow", desc := "(III)I" } : Jvm.MethodName)) ∈ m_ws := tb_3 182 rfl rfl
theorem q_731 : (Jvm.Cond.code ({ cls := "OneHandEach$Town", name := "offToShow", desc := "(III)I" } : Jvm.MethodName) prog_12_method_12_code (5 : Nat) (Option.some Jvm.ClassFile.FieldType.int)) ∈ m_ws := tb_3 183 rfl rfl
theorem q_732 : (Jvm.Cond.methodLink "OneHandEachLaw" (105 : Nat) ({ cls := "OneHandEach", name := "led", desc := "(II)I" } : Jvm.MethodName)) ∈ m_ws := tb_3 184 rfl rfl
theorem q_733 : (Jvm.Cond.instanceMethod ({ cls := "OneHandEach", name := "led", desc := "(II)I" } : Jvm.MethodName)) ∈ m_ws := tb_3 185 rfl rfl
theorem q_734 : (Jvm.Cond.selects "OneHandEach" ({ cls := "OneHandEach", name := "led", desc := "(II)I" } : Jvm.MethodName) ({ cls := "OneHandEach", name := "led", desc := "(II)I" } : Jvm.MethodName)) ∈ m_ws := tb_3 186 rfl rfl
theorem q_735 : (Jvm.Cond.code ({ cls := "OneHandEach", name := "led", desc := "(II)I" } : Jvm.MethodName) prog_1_method_24_code (3 : Nat) (Option.some Jvm.ClassFile.FieldType.int)) ∈ m_ws := tb_3 187 rfl rfl
theorem q_736 : (Jvm.Cond.methodLink "OneHandEachLaw" (109 : Nat) ({ cls := "OneHandEach", name := "judge", desc := "(I)I" } : Jvm.MethodName)) ∈ m_ws := tb_3 188 rfl rfl
theorem q_737 : (Jvm.Cond.instanceMethod ({ cls := "OneHandEach", name := "judge", desc := "(I)I" } : Jvm.MethodName)) ∈ m_ws := tb_3 189 rfl rfl
theorem q_738 : (Jvm.Cond.selects "OneHandEach" ({ cls := "OneHandEach", name := "judge", desc := "(I)I" } : Jvm.MethodName) ({ cls := "OneHandEach", name := "judge", desc := "(I)I" } : Jvm.MethodName)) ∈ m_ws := tb_3 190 rfl rfl
theorem q_739 : (Jvm.Cond.code ({ cls := "OneHandEach", name := "judge", desc := "(I)I" } : Jvm.MethodName) prog_1_method_25_code (5 : Nat) (Option.some Jvm.ClassFile.FieldType.int)) ∈ m_ws := tb_3 191 rfl rfl
theorem q_740 : (Jvm.Cond.methodLink "OneHandEach" (224 : Nat) ({ cls := "OneHandEach", name := "refusalOfRow", desc := "(I)I" } : Jvm.MethodName)) ∈ m_ws := tb_3 192 rfl rfl
theorem q_742 : (Jvm.Cond.instanceMethod ({ cls := "OneHandEach", name := "refusalOfRow", desc := "(I)I" } : Jvm.MethodName)) ∈ m_ws := tb_3 194 rfl rfl
theorem q_743 : (Jvm.Cond.code ({ cls := "OneHandEach", name := "refusalOfRow", desc := "(I)I" } : Jvm.MethodName) prog_1_method_54_code (3 : Nat) (Option.some Jvm.ClassFile.FieldType.int)) ∈ m_ws := tb_3 195 rfl rfl
theorem q_744 : (Jvm.Cond.methodLink "OneHandEach" (230 : Nat) ({ cls := "OneHandEach", name := "isSo", desc := "(LOneHandEach$Shelf;I)Z" } : Jvm.MethodName)) ∈ m_ws := tb_3 196 rfl rfl
theorem q_746 : (Jvm.Cond.instanceMethod ({ cls := "OneHandEach", name := "isSo", desc := "(LOneHandEach$Shelf;I)Z" } : Jvm.MethodName)) ∈ m_ws := tb_3 198 rfl rfl
theorem q_747 : (Jvm.Cond.code ({ cls := "OneHandEach", name := "isSo", desc := "(LOneHandEach$Shelf;I)Z" } : Jvm.MethodName) prog_1_method_53_code (5 : Nat) (Option.some Jvm.ClassFile.FieldType.boolean)) ∈ m_ws := tb_3 199 rfl rfl
theorem q_748 : (Jvm.Cond.methodLink "OneHandEachLaw" (113 : Nat) ({ cls := "OneHandEach", name := "image", desc := "()I" } : Jvm.MethodName)) ∈ m_ws := tb_3 200 rfl rfl
theorem q_749 : (Jvm.Cond.instanceMethod ({ cls := "OneHandEach", name := "image", desc := "()I" } : Jvm.MethodName)) ∈ m_ws := tb_3 201 rfl rfl
theorem q_750 : (Jvm.Cond.selects "OneHandEach" ({ cls := "OneHandEach", name := "image", desc := "()I" } : Jvm.MethodName) ({ cls := "OneHandEach", name := "image", desc := "()I" } : Jvm.MethodName)) ∈ m_ws := tb_3 202 rfl rfl
theorem q_751 : (Jvm.Cond.code ({ cls := "OneHandEach", name := "image", desc := "()I" } : Jvm.MethodName) prog_1_method_26_code (2 : Nat) (Option.some Jvm.ClassFile.FieldType.int)) ∈ m_ws := tb_3 203 rfl rfl
theorem q_752 : (Jvm.Cond.methodLink "OneHandEach" (239 : Nat) ({ cls := "OneHandEach$Entries", name := "become", desc := "(LOneHandEach$Entries;)V" } : Jvm.MethodName)) ∈ m_ws := tb_3 204 rfl rfl
theorem q_753 : (Jvm.Cond.instanceMethod ({ cls := "OneHandEach$Entries", name := "become", desc := "(LOneHandEach$Entries;)V" } : Jvm.MethodName)) ∈ m_ws := tb_3 205 rfl rfl
theorem q_754 : (Jvm.Cond.selects "OneHandEach$Entries" ({ cls := "OneHandEach$Entries", name := "become", desc := "(LOneHandEach$Entries;)V" } : Jvm.MethodName) ({ cls := "OneHandEach$Entries", name := "become", desc := "(LOneHandEach$Entries;)V" } : Jvm.MethodName)) ∈ m_ws := tb_3 206 rfl rfl
theorem q_755 : (Jvm.Cond.code ({ cls := "OneHandEach$Entries", name := "become", desc := "(LOneHandEach$Entries;)V" } : Jvm.MethodName) prog_4_method_6_code (2 : Nat) (Option.none : Option Jvm.ClassFile.FieldType)) ∈ m_ws := tb_3 207 rfl rfl
theorem q_756 : (Jvm.Cond.methodLink "OneHandEach$Entries" (38 : Nat) ({ cls := "java/lang/System", name := "arraycopy", desc := "(Ljava/lang/Object;ILjava/lang/Object;II)V" } : Jvm.MethodName)) ∈ m_ws := tb_3 208 rfl rfl
theorem q_757 : (Jvm.Cond.static ({ cls := "java/lang/System", name := "arraycopy", desc := "(Ljava/lang/Object;ILjava/lang/Object;II)V" } : Jvm.MethodName)) ∈ m_ws := tb_3 209 rfl rfl
theorem q_758 : (Jvm.Cond.native ({ cls := "java/lang/System", name := "arraycopy", desc := "(Ljava/lang/Object;ILjava/lang/Object;II)V" } : Jvm.MethodName)) ∈ m_ws := tb_3 210 rfl rfl
theorem q_759 : (Jvm.Cond.methodLink "OneHandEach" (247 : Nat) ({ cls := "OneHandEach$Town", name := "off", desc := "(I)I" } : Jvm.MethodName)) ∈ m_ws := tb_3 211 rfl rfl
theorem q_760 : (Jvm.Cond.methodLink "OneHandEachLaw" (117 : Nat) ({ cls := "OneHandEach", name := "back", desc := "()I" } : Jvm.MethodName)) ∈ m_ws := tb_3 212 rfl rfl
theorem q_761 : (Jvm.Cond.instanceMethod ({ cls := "OneHandEach", name := "back", desc := "()I" } : Jvm.MethodName)) ∈ m_ws := tb_3 213 rfl rfl
theorem q_762 : (Jvm.Cond.selects "OneHandEach" ({ cls := "OneHandEach", name := "back", desc := "()I" } : Jvm.MethodName) ({ cls := "OneHandEach", name := "back", desc := "()I" } : Jvm.MethodName)) ∈ m_ws := tb_3 214 rfl rfl
theorem q_763 : (Jvm.Cond.code ({ cls := "OneHandEach", name := "back", desc := "()I" } : Jvm.MethodName) prog_1_method_27_code (2 : Nat) (Option.some Jvm.ClassFile.FieldType.int)) ∈ m_ws := tb_3 215 rfl rfl
theorem q_764 : (Jvm.Cond.methodLink "OneHandEachLaw" (121 : Nat) ({ cls := "OneHandEach", name := "undo", desc := "()I" } : Jvm.MethodName)) ∈ m_ws := tb_3 216 rfl rfl
theorem q_765 : (Jvm.Cond.instanceMethod ({ cls := "OneHandEach", name := "undo", desc := "()I" } : Jvm.MethodName)) ∈ m_ws := tb_3 217 rfl rfl
theorem q_766 : (Jvm.Cond.selects "OneHandEach" ({ cls := "OneHandEach", name := "undo", desc := "()I" } : Jvm.MethodName) ({ cls := "OneHandEach", name := "undo", desc := "()I" } : Jvm.MethodName)) ∈ m_ws := tb_3 218 rfl rfl
theorem q_767 : (Jvm.Cond.code ({ cls := "OneHandEach", name := "undo", desc := "()I" } : Jvm.MethodName) prog_1_method_28_code (1 : Nat) (Option.some Jvm.ClassFile.FieldType.int)) ∈ m_ws := tb_3 219 rfl rfl
theorem q_768 : (Jvm.Cond.methodLink "OneHandEach" (251 : Nat) ({ cls := "OneHandEach$Changes", name := "undoIn", desc := "(LOneHandEach$Town;)I" } : Jvm.MethodName)) ∈ m_ws := tb_3 220 rfl rfl
theorem q_769 : (Jvm.Cond.instanceMethod ({ cls := "OneHandEach$Changes", name := "undoIn", desc := "(LOneHandEach$Town;)I" } : Jvm.MethodName)) ∈ m_ws := tb_3 221 rfl rfl
theorem q_770 : (Jvm.Cond.selects "OneHandEach$Changes" ({ cls := "OneHandEach$Changes", name := "undoIn", desc := "(LOneHandEach$Town;)I" } : Jvm.MethodName) ({ cls := "OneHandEach$Changes", name := "undoIn", desc := "(LOneHandEach$Town;)I" } : Jvm.MethodName)) ∈ m_ws := tb_3 222 rfl rfl
theorem q_771 : (Jvm.Cond.code ({ cls := "OneHandEach$Changes", name := "undoIn", desc := "(LOneHandEach$Town;)I" } : Jvm.MethodName) prog_3_method_4_code (2 : Nat) (Option.some Jvm.ClassFile.FieldType.int)) ∈ m_ws := tb_3 223 rfl rfl
theorem q_772 : (Jvm.Cond.methodLink "OneHandEachLaw" (125 : Nat) ({ cls := "OneHandEach", name := "redo", desc := "()I" } : Jvm.MethodName)) ∈ m_ws := tb_3 224 rfl rfl
theorem q_773 : (Jvm.Cond.instanceMethod ({ cls := "OneHandEach", name := "redo", desc := "()I" } : Jvm.MethodName)) ∈ m_ws := tb_3 225 rfl rfl
theorem q_774 : (Jvm.Cond.selects "OneHandEach" ({ cls := "OneHandEach", name := "redo", desc := "()I" } : Jvm.MethodName) ({ cls := "OneHandEach", name := "redo", desc := "()I" } : Jvm.MethodName)) ∈ m_ws := tb_3 226 rfl rfl
theorem q_775 : (Jvm.Cond.code ({ cls := "OneHandEach", name := "redo", desc := "()I" } : Jvm.MethodName) prog_1_method_29_code (1 : Nat) (Option.some Jvm.ClassFile.FieldType.int)) ∈ m_ws := tb_3 227 rfl rfl
theorem q_776 : (Jvm.Cond.methodLink "OneHandEach" (255 : Nat) ({ cls := "OneHandEach$Changes", name := "redoIn", desc := "(LOneHandEach$Town;)I" } : Jvm.MethodName)) ∈ m_ws := tb_3 228 rfl rfl
theorem q_777 : (Jvm.Cond.instanceMethod ({ cls := "OneHandEach$Changes", name := "redoIn", desc := "(LOneHandEach$Town;)I" } : Jvm.MethodName)) ∈ m_ws := tb_3 229 rfl rfl
theorem q_778 : (Jvm.Cond.selects "OneHandEach$Changes" ({ cls := "OneHandEach$Changes", name := "redoIn", desc := "(LOneHandEach$Town;)I" } : Jvm.MethodName) ({ cls := "OneHandEach$Changes", name := "redoIn", desc := "(LOneHandEach$Town;)I" } : Jvm.MethodName)) ∈ m_ws := tb_3 230 rfl rfl
theorem q_779 : (Jvm.Cond.code ({ cls := "OneHandEach$Changes", name := "redoIn", desc := "(LOneHandEach$Town;)I" } : Jvm.MethodName) prog_3_method_5_code (2 : Nat) (Option.some Jvm.ClassFile.FieldType.int)) ∈ m_ws := tb_3 231 rfl rfl
theorem q_780 : (Jvm.Cond.methodLink "OneHandEachLaw" (129 : Nat) ({ cls := "OneHandEach", name := "body", desc := "(I)I" } : Jvm.MethodName)) ∈ m_ws := tb_3 232 rfl rfl
theorem q_781 : (Jvm.Cond.instanceMethod ({ cls := "OneHandEach", name := "body", desc := "(I)I" } : Jvm.MethodName)) ∈ m_ws := tb_3 233 rfl rfl
theorem q_782 : (Jvm.Cond.selects "OneHandEach" ({ cls := "OneHandEach", name := "body", desc := "(I)I" } : Jvm.MethodName) ({ cls := "OneHandEach", name := "body", desc := "(I)I" } : Jvm.MethodName)) ∈ m_ws := tb_3 234 rfl rfl
theorem q_783 : (Jvm.Cond.code ({ cls := "OneHandEach", name := "body", desc := "(I)I" } : Jvm.MethodName) prog_1_method_30_code (2 : Nat) (Option.some Jvm.ClassFile.FieldType.int)) ∈ m_ws := tb_3 235 rfl rfl
theorem q_784 : (Jvm.Cond.methodLink "OneHandEach" (258 : Nat) ({ cls := "OneHandEach", name := "isKind", desc := "(I)Z" } : Jvm.MethodName)) ∈ m_ws := tb_3 236 rfl rfl
theorem q_785 : (Jvm.Cond.static ({ cls := "OneHandEach", name := "isKind", desc := "(I)Z" } : Jvm.MethodName)) ∈ m_ws := tb_3 237 rfl rfl
theorem q_786 : (Jvm.Cond.code ({ cls := "OneHandEach", name := "isKind", desc := "(I)Z" } : Jvm.MethodName) prog_1_method_46_code (1 : Nat) (Option.some Jvm.ClassFile.FieldType.boolean)) ∈ m_ws := tb_3 238 rfl rfl
theorem q_787 : (Jvm.Cond.methodLink "OneHandEach" (261 : Nat) ({ cls := "OneHandEach$Bodies", name := "add", desc := "(I)I" } : Jvm.MethodName)) ∈ m_ws := tb_3 239 rfl rfl
theorem q_788 : (Jvm.Cond.instanceMethod ({ cls := "OneHandEach$Bodies", name := "add", desc := "(I)I" } : Jvm.MethodName)) ∈ m_ws := tb_4 0 rfl rfl
theorem q_789 : (Jvm.Cond.selects "OneHandEach$Bodies" ({ cls := "OneHandEach$Bodies", name := "add", desc := "(I)I" } : Jvm.MethodName) ({ cls := "OneHandEach$Bodies", name := "add", desc := "(I)I" } : Jvm.MethodName)) ∈ m_ws := tb_4 1 rfl rfl
theorem q_790 : (Jvm.Cond.code ({ cls := "OneHandEach$Bodies", name := "add", desc := "(I)I" } : Jvm.MethodName) prog_2_method_2_code (2 : Nat) (Option.some Jvm.ClassFile.FieldType.int)) ∈ m_ws := tb_4 2 rfl rfl
theorem q_791 : (Jvm.Cond.methodLink "OneHandEachLaw" (133 : Nat) ({ cls := "OneHandEach", name := "act", desc := "(III)I" } : Jvm.MethodName)) ∈ m_ws := tb_4 3 rfl rfl
theorem q_792 : (Jvm.Cond.instanceMethod ({ cls := "OneHandEach", name := "act", desc := "(III)I" } : Jvm.MethodName)) ∈ m_ws := tb_4 4 rfl rfl
theorem q_793 : (Jvm.Cond.selects "OneHandEach" ({ cls := "OneHandEach", name := "act", desc := "(III)I" } : Jvm.MethodName) ({ cls := "OneHandEach", name := "act", desc := "(III)I" } : Jvm.MethodName)) ∈ m_ws := tb_4 5 rfl rfl
theorem q_794 : (Jvm.Cond.code ({ cls := "OneHandEach", name := "act", desc := "(III)I" } : Jvm.MethodName) prog_1_method_31_code (4 : Nat) (Option.some Jvm.ClassFile.FieldType.int)) ∈ m_ws := tb_4 6 rfl rfl
theorem q_795 : (Jvm.Cond.methodLink "OneHandEach" (263 : Nat) ({ cls := "OneHandEach$Bodies", name := "actOf", desc := "(III)I" } : Jvm.MethodName)) ∈ m_ws := tb_4 7 rfl rfl
theorem q_796 : (Jvm.Cond.instanceMethod ({ cls := "OneHandEach$Bodies", name := "actOf", desc := "(III)I" } : Jvm.MethodName)) ∈ m_ws := tb_4 8 rfl rfl
theorem q_797 : (Jvm.Cond.selects "OneHandEach$Bodies" ({ cls := "OneHandEach$Bodies", name := "actOf", desc := "(III)I" } : Jvm.MethodName) ({ cls := "OneHandEach$Bodies", name := "actOf", desc := "(III)I" } : Jvm.MethodName)) ∈ m_ws := tb_4 9 rfl rfl
theorem q_798 : (Jvm.Cond.code ({ cls := "OneHandEach$Bodies", name := "actOf", desc := "(III)I" } : Jvm.MethodName) prog_2_method_5_code (4 : Nat) (Option.some Jvm.ClassFile.FieldType.int)) ∈ m_ws := tb_4 10 rfl rfl
theorem q_800 : (Jvm.Cond.methodLink "OneHandEach$Bodies" (32 : Nat) ({ cls := "OneHandEach$Bodies", name := "own", desc := "(IIII)I" } : Jvm.MethodName)) ∈ m_ws := tb_4 12 rfl rfl
theorem q_802 : (Jvm.Cond.instanceMethod ({ cls := "OneHandEach$Bodies", name := "own", desc := "(IIII)I" } : Jvm.MethodName)) ∈ m_ws := tb_4 14 rfl rfl
theorem q_803 : (Jvm.Cond.code ({ cls := "OneHandEach$Bodies", name := "own", desc := "(IIII)I" } : Jvm.MethodName) prog_2_method_6_code (5 : Nat) (Option.some Jvm.ClassFile.FieldType.int)) ∈ m_ws := tb_4 15 rfl rfl
theorem q_804 : (Jvm.Cond.methodLink "OneHandEach$Bodies" (36 : Nat) ({ cls := "OneHandEach$Bodies", name := "kindOf", desc := "(I)I" } : Jvm.MethodName)) ∈ m_ws := tb_4 16 rfl rfl
theorem q_805 : (Jvm.Cond.instanceMethod ({ cls := "OneHandEach$Bodies", name := "kindOf", desc := "(I)I" } : Jvm.MethodName)) ∈ m_ws := tb_4 17 rfl rfl
theorem q_806 : (Jvm.Cond.selects "OneHandEach$Bodies" ({ cls := "OneHandEach$Bodies", name := "kindOf", desc := "(I)I" } : Jvm.MethodName) ({ cls := "OneHandEach$Bodies", name := "kindOf", desc := "(I)I" } : Jvm.MethodName)) ∈ m_ws := tb_4 18 rfl rfl
theorem q_807 : (Jvm.Cond.code ({ cls := "OneHandEach$Bodies", name := "kindOf", desc := "(I)I" } : Jvm.MethodName) prog_2_method_3_code (2 : Nat) (Option.some Jvm.ClassFile.FieldType.int)) ∈ m_ws := tb_4 19 rfl rfl
theorem q_808 : (Jvm.Cond.methodLink "OneHandEach$Bodies" (40 : Nat) ({ cls := "OneHandEach$Bodies", name := "from", desc := "(IIIII)I" } : Jvm.MethodName)) ∈ m_ws := tb_4 20 rfl rfl
theorem q_810 : (Jvm.Cond.instanceMethod ({ cls := "OneHandEach$Bodies", name := "from", desc := "(IIIII)I" } : Jvm.MethodName)) ∈ m_ws := tb_4 22 rfl rfl
theorem q_811 : (Jvm.Cond.code ({ cls := "OneHandEach$Bodies", name := "from", desc := "(IIIII)I" } : Jvm.MethodName) prog_2_method_7_code (9 : Nat) (Option.some Jvm.ClassFile.FieldType.int)) ∈ m_ws := tb_4 23 rfl rfl
theorem q_812 : (Jvm.Cond.fieldLink "OneHandEach$Bodies" (44 : Nat) "OneHandEach$Bodies" "OWN" "[I") ∈ m_ws := tb_4 24 rfl rfl
theorem q_814 : (Jvm.Cond.fieldLink "OneHandEach$Bodies" (26 : Nat) "OneHandEach$Bodies" "ABOVE" "[I") ∈ m_ws := tb_4 26 rfl rfl
theorem q_816 : (Jvm.Cond.methodLink "OneHandEach$Bodies" (47 : Nat) ({ cls := "OneHandEach$Bodies", name := "run", desc := "(IIIII)I" } : Jvm.MethodName)) ∈ m_ws := tb_4 28 rfl rfl
theorem q_818 : (Jvm.Cond.instanceMethod ({ cls := "OneHandEach$Bodies", name := "run", desc := "(IIIII)I" } : Jvm.MethodName)) ∈ m_ws := tb_4 30 rfl rfl
theorem q_819 : (Jvm.Cond.code ({ cls := "OneHandEach$Bodies", name := "run", desc := "(IIIII)I" } : Jvm.MethodName) prog_2_method_8_code (6 : Nat) (Option.some Jvm.ClassFile.FieldType.int)) ∈ m_ws := tb_4 31 rfl rfl
theorem q_820 : (Jvm.Cond.methodLink "OneHandEachLaw" (137 : Nat) ({ cls := "OneHandEach", name := "trace", desc := "(I)I" } : Jvm.MethodName)) ∈ m_ws := tb_4 32 rfl rfl
theorem q_821 : (Jvm.Cond.instanceMethod ({ cls := "OneHandEach", name := "trace", desc := "(I)I" } : Jvm.MethodName)) ∈ m_ws := tb_4 33 rfl rfl
theorem q_822 : (Jvm.Cond.selects "OneHandEach" ({ cls := "OneHandEach", name := "trace", desc := "(I)I" } : Jvm.MethodName) ({ cls := "OneHandEach", name := "trace", desc := "(I)I" } : Jvm.MethodName)) ∈ m_ws := tb_4 34 rfl rfl
theorem q_823 : (Jvm.Cond.code ({ cls := "OneHandEach", name := "trace", desc := "(I)I" } : Jvm.MethodName) prog_1_method_32_code (2 : Nat) (Option.some Jvm.ClassFile.FieldType.int)) ∈ m_ws := tb_4 35 rfl rfl
theorem q_824 : (Jvm.Cond.methodLink "OneHandEachLaw" (141 : Nat) ({ cls := "OneHandEach", name := "keep", desc := "(II)I" } : Jvm.MethodName)) ∈ m_ws := tb_4 36 rfl rfl
theorem q_825 : (Jvm.Cond.instanceMethod ({ cls := "OneHandEach", name := "keep", desc := "(II)I" } : Jvm.MethodName)) ∈ m_ws := tb_4 37 rfl rfl
theorem q_826 : (Jvm.Cond.selects "OneHandEach" ({ cls := "OneHandEach", name := "keep", desc := "(II)I" } : Jvm.MethodName) ({ cls := "OneHandEach", name := "keep", desc := "(II)I" } : Jvm.MethodName)) ∈ m_ws := tb_4 38 rfl rfl
theorem q_827 : (Jvm.Cond.code ({ cls := "OneHandEach", name := "keep", desc := "(II)I" } : Jvm.MethodName) prog_1_method_33_code (4 : Nat) (Option.some Jvm.ClassFile.FieldType.int)) ∈ m_ws := tb_4 39 rfl rfl
theorem q_828 : (Jvm.Cond.methodLink "OneHandEachLaw" (145 : Nat) ({ cls := "OneHandEach", name := "row", desc := "(III)I" } : Jvm.MethodName)) ∈ m_ws := tb_4 40 rfl rfl
theorem q_829 : (Jvm.Cond.instanceMethod ({ cls := "OneHandEach", name := "row", desc := "(III)I" } : Jvm.MethodName)) ∈ m_ws := tb_4 41 rfl rfl
theorem q_830 : (Jvm.Cond.selects "OneHandEach" ({ cls := "OneHandEach", name := "row", desc := "(III)I" } : Jvm.MethodName) ({ cls := "OneHandEach", name := "row", desc := "(III)I" } : Jvm.MethodName)) ∈ m_ws := tb_4 42 rfl rfl
theorem q_831 : (Jvm.Cond.code ({ cls := "OneHandEach", name := "row", desc := "(III)I" } : Jvm.MethodName) prog_1_method_34_code (4 : Nat) (Option.some Jvm.ClassFile.FieldType.int)) ∈ m_ws := tb_4 43 rfl rfl
theorem q_832 : (Jvm.Cond.methodLink "OneHandEach" (276 : Nat) ({ cls := "OneHandEach$Shelf", name := "becomeRow", desc := "(II)V" } : Jvm.MethodName)) ∈ m_ws := tb_4 44 rfl rfl
theorem q_833 : (Jvm.Cond.instanceMethod ({ cls := "OneHandEach$Shelf", name := "becomeRow", desc := "(II)V" } : Jvm.MethodName)) ∈ m_ws := tb_4 45 rfl rfl
theorem q_834 : (Jvm.Cond.selects "OneHandEach$Shelf" ({ cls := "OneHandEach$Shelf", name := "becomeRow", desc := "(II)V" } : Jvm.MethodName) ({ cls := "OneHandEach$Shelf", name := "becomeRow", desc := "(II)V" } : Jvm.MethodName)) ∈ m_ws := tb_4 46 rfl rfl
theorem q_835 : (Jvm.Cond.code ({ cls := "OneHandEach$Shelf", name := "becomeRow", desc := "(II)V" } : Jvm.MethodName) prog_11_method_3_code (4 : Nat) (Option.none : Option Jvm.ClassFile.FieldType)) ∈ m_ws := tb_4 47 rfl rfl
theorem q_836 : (Jvm.Cond.methodLink "OneHandEachLaw" (151 : Nat) ({ cls := "OneHandEach", name := "put", desc := "(IIJ)I" } : Jvm.MethodName)) ∈ m_ws := tb_4 48 rfl rfl
theorem q_837 : (Jvm.Cond.instanceMethod ({ cls := "OneHandEach", name := "put", desc := "(IIJ)I" } : Jvm.MethodName)) ∈ m_ws := tb_4 49 rfl rfl
theorem q_838 : (Jvm.Cond.selects "OneHandEach" ({ cls := "OneHandEach", name := "put", desc := "(IIJ)I" } : Jvm.MethodName) ({ cls := "OneHandEach", name := "put", desc := "(IIJ)I" } : Jvm.MethodName)) ∈ m_ws := tb_4 50 rfl rfl
theorem q_839 : (Jvm.Cond.code ({ cls := "OneHandEach", name := "put", desc := "(IIJ)I" } : Jvm.MethodName) prog_1_method_35_code (6 : Nat) (Option.some Jvm.ClassFile.FieldType.int)) ∈ m_ws := tb_4 51 rfl rfl
theorem q_840 : (Jvm.Cond.methodLink "OneHandEach" (279 : Nat) ({ cls := "OneHandEach", name := "refusalOfPlace", desc := "(II)I" } : Jvm.MethodName)) ∈ m_ws := tb_4 52 rfl rfl
theorem q_842 : (Jvm.Cond.instanceMethod ({ cls := "OneHandEach", name := "refusalOfPlace", desc := "(II)I" } : Jvm.MethodName)) ∈ m_ws := tb_4 54 rfl rfl
theorem q_843 : (Jvm.Cond.code ({ cls := "OneHandEach", name := "refusalOfPlace", desc := "(II)I" } : Jvm.MethodName) prog_1_method_55_code (4 : Nat) (Option.some Jvm.ClassFile.FieldType.int)) ∈ m_ws := tb_4 55 rfl rfl
theorem q_844 : (Jvm.Cond.methodLink "OneHandEach" (286 : Nat) ({ cls := "OneHandEach$Shelf", name := "keptOf", desc := "(J)J" } : Jvm.MethodName)) ∈ m_ws := tb_4 56 rfl rfl
theorem q_845 : (Jvm.Cond.instanceMethod ({ cls := "OneHandEach$Shelf", name := "keptOf", desc := "(J)J" } : Jvm.MethodName)) ∈ m_ws := tb_4 57 rfl rfl
theorem q_846 : (Jvm.Cond.selects "OneHandEach$Shelf" ({ cls := "OneHandEach$Shelf", name := "keptOf", desc := "(J)J" } : Jvm.MethodName) ({ cls := "OneHandEach$Shelf", name := "keptOf", desc := "(J)J" } : Jvm.MethodName)) ∈ m_ws := tb_4 58 rfl rfl
theorem q_847 : (Jvm.Cond.code ({ cls := "OneHandEach$Shelf", name := "keptOf", desc := "(J)J" } : Jvm.MethodName) prog_11_method_4_code (3 : Nat) (Option.some Jvm.ClassFile.FieldType.long)) ∈ m_ws := tb_4 59 rfl rfl
theorem q_848 : (Jvm.Cond.methodLink "OneHandEachLaw" (156 : Nat) ({ cls := "OneHandEach", name := "element", desc := "(II)J" } : Jvm.MethodName)) ∈ m_ws := tb_4 60 rfl rfl
theorem q_849 : (Jvm.Cond.instanceMethod ({ cls := "OneHandEach", name := "element", desc := "(II)J" } : Jvm.MethodName)) ∈ m_ws := tb_4 61 rfl rfl
theorem q_850 : (Jvm.Cond.selects "OneHandEach" ({ cls := "OneHandEach", name := "element", desc := "(II)J" } : Jvm.MethodName) ({ cls := "OneHandEach", name := "element", desc := "(II)J" } : Jvm.MethodName)) ∈ m_ws := tb_4 62 rfl rfl
theorem q_851 : (Jvm.Cond.code ({ cls := "OneHandEach", name := "element", desc := "(II)J" } : Jvm.MethodName) prog_1_method_36_code (3 : Nat) (Option.some Jvm.ClassFile.FieldType.long)) ∈ m_ws := tb_4 63 rfl rfl
theorem q_852 : (Jvm.Cond.constantLong "OneHandEach" (290 : Nat) (-9223372036854775808 : Int64)) ∈ m_ws := tb_4 64 rfl rfl
theorem q_853 : (Jvm.Cond.methodLink "OneHandEachLaw" (161 : Nat) ({ cls := "OneHandEach", name := "shift", desc := "(IIIII)I" } : Jvm.MethodName)) ∈ m_ws := tb_4 65 rfl rfl
theorem q_854 : (Jvm.Cond.instanceMethod ({ cls := "OneHandEach", name := "shift", desc := "(IIIII)I" } : Jvm.MethodName)) ∈ m_ws := tb_4 66 rfl rfl
theorem q_855 : (Jvm.Cond.selects "OneHandEach" ({ cls := "OneHandEach", name := "shift", desc := "(IIIII)I" } : Jvm.MethodName) ({ cls := "OneHandEach", name := "shift", desc := "(IIIII)I" } : Jvm.MethodName)) ∈ m_ws := tb_4 67 rfl rfl
theorem q_856 : (Jvm.Cond.code ({ cls := "OneHandEach", name := "shift", desc := "(IIIII)I" } : Jvm.MethodName) prog_1_method_37_code (8 : Nat) (Option.some Jvm.ClassFile.FieldType.int)) ∈ m_ws := tb_4 68 rfl rfl
theorem q_857 : (Jvm.Cond.methodLink "OneHandEach" (295 : Nat) ({ cls := "java/lang/System", name := "arraycopy", desc := "(Ljava/lang/Object;ILjava/lang/Object;II)V" } : Jvm.MethodName)) ∈ m_ws := tb_4 69 rfl rfl
theorem q_858 : (Jvm.Cond.methodLink "OneHandEachLaw" (166 : Nat) ({ cls := "OneHandEach", name := "taken", desc := "(II)I" } : Jvm.MethodName)) ∈ m_ws := tb_4 70 rfl rfl
theorem q_859 : (Jvm.Cond.instanceMethod ({ cls := "OneHandEach", name := "taken", desc := "(II)I" } : Jvm.MethodName)) ∈ m_ws := tb_4 71 rfl rfl
theorem q_860 : (Jvm.Cond.selects "OneHandEach" ({ cls := "OneHandEach", name := "taken", desc := "(II)I" } : Jvm.MethodName) ({ cls := "OneHandEach", name := "taken", desc := "(II)I" } : Jvm.MethodName)) ∈ m_ws := tb_4 72 rfl rfl
theorem q_861 : (Jvm.Cond.code ({ cls := "OneHandEach", name := "taken", desc := "(II)I" } : Jvm.MethodName) prog_1_method_38_code (5 : Nat) (Option.some Jvm.ClassFile.FieldType.int)) ∈ m_ws := tb_4 73 rfl rfl
theorem q_862 : (Jvm.Cond.methodLink "OneHandEach" (301 : Nat) ({ cls := "OneHandEach$Bodies", name := "kindOf", desc := "(I)I" } : Jvm.MethodName)) ∈ m_ws := tb_4 74 rfl rfl
theorem q_863 : (Jvm.Cond.methodLink "OneHandEach" (304 : Nat) ({ cls := "OneHandEach$Bodies", name := "isUnder", desc := "(II)Z" } : Jvm.MethodName)) ∈ m_ws := tb_4 75 rfl rfl
theorem q_864 : (Jvm.Cond.static ({ cls := "OneHandEach$Bodies", name := "isUnder", desc := "(II)Z" } : Jvm.MethodName)) ∈ m_ws := tb_4 76 rfl rfl
theorem q_865 : (Jvm.Cond.code ({ cls := "OneHandEach$Bodies", name := "isUnder", desc := "(II)Z" } : Jvm.MethodName) prog_2_method_4_code (4 : Nat) (Option.some Jvm.ClassFile.FieldType.boolean)) ∈ m_ws := tb_4 77 rfl rfl
theorem q_866 : (Jvm.Cond.methodLink "OneHandEachLaw" (170 : Nat) ({ cls := "OneHandEach", name := "count", desc := "(I)I" } : Jvm.MethodName)) ∈ m_ws := tb_4 78 rfl rfl
theorem q_867 : (Jvm.Cond.instanceMethod ({ cls := "OneHandEach", name := "count", desc := "(I)I" } : Jvm.MethodName)) ∈ m_ws := tb_4 79 rfl rfl
theorem q_868 : (Jvm.Cond.selects "OneHandEach" ({ cls := "OneHandEach", name := "count", desc := "(I)I" } : Jvm.MethodName) ({ cls := "OneHandEach", name := "count", desc := "(I)I" } : Jvm.MethodName)) ∈ m_ws := tb_4 80 rfl rfl
theorem q_869 : (Jvm.Cond.code ({ cls := "OneHandEach", name := "count", desc := "(I)I" } : Jvm.MethodName) prog_1_method_39_code (2 : Nat) (Option.some Jvm.ClassFile.FieldType.int)) ∈ m_ws := tb_4 81 rfl rfl
theorem q_870 : (Jvm.Cond.methodLink "OneHandEach" (307 : Nat) ({ cls := "OneHandEach$Law", name := "bytesOnTape", desc := "()I" } : Jvm.MethodName)) ∈ m_ws := tb_4 82 rfl rfl
theorem q_871 : (Jvm.Cond.instanceMethod ({ cls := "OneHandEach$Law", name := "bytesOnTape", desc := "()I" } : Jvm.MethodName)) ∈ m_ws := tb_4 83 rfl rfl
theorem q_872 : (Jvm.Cond.selects "OneHandEach$Law" ({ cls := "OneHandEach$Law", name := "bytesOnTape", desc := "()I" } : Jvm.MethodName) ({ cls := "OneHandEach$Law", name := "bytesOnTape", desc := "()I" } : Jvm.MethodName)) ∈ m_ws := tb_4 84 rfl rfl
theorem q_873 : (Jvm.Cond.code ({ cls := "OneHandEach$Law", name := "bytesOnTape", desc := "()I" } : Jvm.MethodName) prog_8_method_3_code (1 : Nat) (Option.some Jvm.ClassFile.FieldType.int)) ∈ m_ws := tb_4 85 rfl rfl
theorem q_874 : (Jvm.Cond.classLink "OneHandEachLaw" (10 : Nat) "OneHandEachModel") ∈ m_ws := tb_4 86 rfl rfl
theorem q_875 : (Jvm.Cond.instantiable "OneHandEachModel" (57 : Nat)) ∈ m_ws := tb_4 87 rfl rfl
theorem q_876 : (Jvm.Cond.methodLink "OneHandEachLaw" (12 : Nat) ({ cls := "OneHandEachModel", name := "<init>", desc := "()V" } : Jvm.MethodName)) ∈ m_ws := tb_4 88 rfl rfl
theorem q_877 : (Jvm.Cond.instanceMethod ({ cls := "OneHandEachModel", name := "<init>", desc := "()V" } : Jvm.MethodName)) ∈ m_ws := tb_4 89 rfl rfl
theorem q_878 : (Jvm.Cond.code ({ cls := "OneHandEachModel", name := "<init>", desc := "()V" } : Jvm.MethodName) prog_14_method_1_code (1 : Nat) (Option.none : Option Jvm.ClassFile.FieldType)) ∈ m_ws := tb_4 90 rfl rfl
theorem q_879 : (Jvm.Cond.methodLink "OneHandEachModel" (1 : Nat) ({ cls := "java/lang/Object", name := "<init>", desc := "()V" } : Jvm.MethodName)) ∈ m_ws := tb_4 91 rfl rfl
theorem q_880 : (Jvm.Cond.fieldLink "OneHandEachModel" (7 : Nat) "OneHandEachModel" "off" "[I") ∈ m_ws := tb_4 92 rfl rfl
theorem q_881 : (Jvm.Cond.fieldLink "OneHandEachModel" (13 : Nat) "OneHandEachModel" "gain" "[I") ∈ m_ws := tb_4 93 rfl rfl
theorem q_882 : (Jvm.Cond.fieldLink "OneHandEachModel" (148 : Nat) "OneHandEachModel" "err" "I") ∈ m_ws := tb_4 94 rfl rfl
theorem q_883 : (Jvm.Cond.fieldLink "OneHandEachModel" (16 : Nat) "OneHandEachModel" "walkFrom" "I") ∈ m_ws := tb_4 95 rfl rfl
theorem q_884 : (Jvm.Cond.fieldLink "OneHandEachModel" (20 : Nat) "OneHandEachModel" "walkTo" "I") ∈ m_ws := tb_4 96 rfl rfl
theorem q_885 : (Jvm.Cond.fieldLink "OneHandEachModel" (23 : Nat) "OneHandEachModel" "setOften" "[I") ∈ m_ws := tb_4 97 rfl rfl
theorem q_886 : (Jvm.Cond.fieldLink "OneHandEachModel" (26 : Nat) "OneHandEachModel" "setLatest" "[I") ∈ m_ws := tb_4 98 rfl rfl
theorem q_887 : (Jvm.Cond.fieldLink "OneHandEachModel" (167 : Nat) "OneHandEachModel" "doneMany" "I") ∈ m_ws := tb_4 99 rfl rfl
theorem q_888 : (Jvm.Cond.fieldLink "OneHandEachModel" (164 : Nat) "OneHandEachModel" "undoneMany" "I") ∈ m_ws := tb_4 100 rfl rfl
theorem q_889 : (Jvm.Cond.fieldLink "OneHandEachModel" (29 : Nat) "OneHandEachModel" "changeOf" "[I") ∈ m_ws := tb_4 101 rfl rfl
theorem q_890 : (Jvm.Cond.fieldLink "OneHandEachModel" (32 : Nat) "OneHandEachModel" "changeAt" "[I") ∈ m_ws := tb_4 102 rfl rfl
theorem q_891 : (Jvm.Cond.fieldLink "OneHandEachModel" (35 : Nat) "OneHandEachModel" "before" "[I") ∈ m_ws := tb_4 103 rfl rfl
theorem q_892 : (Jvm.Cond.fieldLink "OneHandEachModel" (38 : Nat) "OneHandEachModel" "behind" "[I") ∈ m_ws := tb_4 104 rfl rfl
theorem q_893 : (Jvm.Cond.fieldLink "OneHandEachModel" (178 : Nat) "OneHandEachModel" "sights" "I") ∈ m_ws := tb_4 105 rfl rfl
theorem q_894 : (Jvm.Cond.fieldLink "OneHandEachModel" (41 : Nat) "OneHandEachModel" "seenClock" "[I") ∈ m_ws := tb_4 106 rfl rfl
theorem q_895 : (Jvm.Cond.fieldLink "OneHandEachModel" (44 : Nat) "OneHandEachModel" "seenPart" "[I") ∈ m_ws := tb_4 107 rfl rfl
theorem q_896 : (Jvm.Cond.fieldLink "OneHandEachModel" (47 : Nat) "OneHandEachModel" "seenFrom" "[I") ∈ m_ws := tb_4 108 rfl rfl
theorem q_897 : (Jvm.Cond.fieldLink "OneHandEachModel" (50 : Nat) "OneHandEachModel" "seenTo" "[I") ∈ m_ws := tb_4 109 rfl rfl
theorem q_898 : (Jvm.Cond.fieldLink "OneHandEachModel" (181 : Nat) "OneHandEachModel" "guns" "I") ∈ m_ws := tb_4 110 rfl rfl
theorem q_899 : (Jvm.Cond.fieldLink "OneHandEachModel" (53 : Nat) "OneHandEachModel" "gunClock" "[I") ∈ m_ws := tb_4 111 rfl rfl
theorem q_900 : (Jvm.Cond.fieldLink "OneHandEachModel" (56 : Nat) "OneHandEachModel" "gunDay" "[I") ∈ m_ws := tb_4 112 rfl rfl
theorem q_901 : (Jvm.Cond.fieldLink "OneHandEachModel" (59 : Nat) "OneHandEachModel" "gunPart" "[I") ∈ m_ws := tb_4 113 rfl rfl
theorem q_902 : (Jvm.Cond.fieldLink "OneHandEachModel" (62 : Nat) "OneHandEachModel" "tape" "[B") ∈ m_ws := tb_4 114 rfl rfl
theorem q_903 : (Jvm.Cond.fieldLink "OneHandEachModel" (197 : Nat) "OneHandEachModel" "taped" "I") ∈ m_ws := tb_4 115 rfl rfl
theorem q_904 : (Jvm.Cond.fieldLink "OneHandEachModel" (200 : Nat) "OneHandEachModel" "here" "I") ∈ m_ws := tb_4 116 rfl rfl
theorem q_905 : (Jvm.Cond.fieldLink "OneHandEachModel" (203 : Nat) "OneHandEachModel" "fault" "I") ∈ m_ws := tb_4 117 rfl rfl
theorem q_906 : (Jvm.Cond.fieldLink "OneHandEachModel" (209 : Nat) "OneHandEachModel" "open" "I") ∈ m_ws := tb_4 118 rfl rfl
theorem q_907 : (Jvm.Cond.fieldLink "OneHandEachModel" (206 : Nat) "OneHandEachModel" "laid" "I") ∈ m_ws := tb_4 119 rfl rfl
theorem q_908 : (Jvm.Cond.fieldLink "OneHandEachModel" (66 : Nat) "OneHandEachModel" "act" "[B") ∈ m_ws := tb_4 120 rfl rfl
theorem q_909 : (Jvm.Cond.fieldLink "OneHandEachModel" (69 : Nat) "OneHandEachModel" "with" "[I") ∈ m_ws := tb_4 121 rfl rfl
theorem q_910 : (Jvm.Cond.fieldLink "OneHandEachModel" (72 : Nat) "OneHandEachModel" "lineMany" "[I") ∈ m_ws := tb_4 122 rfl rfl
theorem q_911 : (Jvm.Cond.fieldLink "OneHandEachModel" (75 : Nat) "OneHandEachModel" "testEnd" "[S") ∈ m_ws := tb_4 123 rfl rfl
theorem q_912 : (Jvm.Cond.fieldLink "OneHandEachModel" (79 : Nat) "OneHandEachModel" "lineEnd" "[S") ∈ m_ws := tb_4 124 rfl rfl
theorem q_913 : (Jvm.Cond.fieldLink "OneHandEachModel" (82 : Nat) "OneHandEachModel" "facts" "[I") ∈ m_ws := tb_4 125 rfl rfl
theorem q_914 : (Jvm.Cond.fieldLink "OneHandEachModel" (85 : Nat) "OneHandEachModel" "pile" "[I") ∈ m_ws := tb_4 126 rfl rfl
theorem q_915 : (Jvm.Cond.fieldLink "OneHandEachModel" (264 : Nat) "OneHandEachModel" "hasLaw" "Z") ∈ m_ws := tb_4 127 rfl rfl
theorem q_916 : (Jvm.Cond.fieldLink "OneHandEachModel" (88 : Nat) "OneHandEachModel" "fit" "[Z") ∈ m_ws := tb_4 128 rfl rfl
theorem q_917 : (Jvm.Cond.fieldLink "OneHandEachModel" (278 : Nat) "OneHandEachModel" "fitMany" "I") ∈ m_ws := tb_4 129 rfl rfl
theorem q_918 : (Jvm.Cond.fieldLink "OneHandEachModel" (92 : Nat) "OneHandEachModel" "parts" "[I") ∈ m_ws := tb_4 130 rfl rfl
theorem q_919 : (Jvm.Cond.fieldLink "OneHandEachModel" (294 : Nat) "OneHandEachModel" "drawn" "I") ∈ m_ws := tb_4 131 rfl rfl
theorem q_920 : (Jvm.Cond.fieldLink "OneHandEachModel" (313 : Nat) "OneHandEachModel" "hasImage" "Z") ∈ m_ws := tb_4 132 rfl rfl
theorem q_921 : (Jvm.Cond.fieldLink "OneHandEachModel" (316 : Nat) "OneHandEachModel" "keptSights" "I") ∈ m_ws := tb_4 133 rfl rfl
theorem q_922 : (Jvm.Cond.fieldLink "OneHandEachModel" (319 : Nat) "OneHandEachModel" "keptGuns" "I") ∈ m_ws := tb_4 134 rfl rfl
theorem q_923 : (Jvm.Cond.fieldLink "OneHandEachModel" (95 : Nat) "OneHandEachModel" "keptOff" "[I") ∈ m_ws := tb_4 135 rfl rfl
theorem q_924 : (Jvm.Cond.fieldLink "OneHandEachModel" (98 : Nat) "OneHandEachModel" "keptOften" "[I") ∈ m_ws := tb_4 136 rfl rfl
theorem q_925 : (Jvm.Cond.fieldLink "OneHandEachModel" (101 : Nat) "OneHandEachModel" "keptLatest" "[I") ∈ m_ws := tb_4 137 rfl rfl
theorem q_926 : (Jvm.Cond.fieldLink "OneHandEachModel" (104 : Nat) "OneHandEachModel" "keptSeen" "[I") ∈ m_ws := tb_4 138 rfl rfl
theorem q_927 : (Jvm.Cond.fieldLink "OneHandEachModel" (107 : Nat) "OneHandEachModel" "keptGun" "[I") ∈ m_ws := tb_4 139 rfl rfl
theorem q_928 : (Jvm.Cond.fieldLink "OneHandEachModel" (322 : Nat) "OneHandEachModel" "bodies" "I") ∈ m_ws := tb_4 140 rfl rfl
theorem q_929 : (Jvm.Cond.fieldLink "OneHandEachModel" (110 : Nat) "OneHandEachModel" "kind" "[I") ∈ m_ws := tb_4 141 rfl rfl
theorem q_930 : (Jvm.Cond.fieldLink "OneHandEachModel" (325 : Nat) "OneHandEachModel" "traces" "I") ∈ m_ws := tb_4 142 rfl rfl
theorem q_931 : (Jvm.Cond.fieldLink "OneHandEachModel" (113 : Nat) "OneHandEachModel" "traced" "[I") ∈ m_ws := tb_4 143 rfl rfl
theorem q_932 : (Jvm.Cond.fieldLink "OneHandEachModel" (116 : Nat) "OneHandEachModel" "holds" "[I") ∈ m_ws := tb_4 144 rfl rfl
theorem q_933 : (Jvm.Cond.fieldLink "OneHandEachModel" (119 : Nat) "OneHandEachModel" "size" "[I") ∈ m_ws := tb_4 145 rfl rfl
theorem q_934 : (Jvm.Cond.fieldLink "OneHandEachModel" (122 : Nat) "OneHandEachModel" "elements" "[J") ∈ m_ws := tb_4 146 rfl rfl
theorem q_935 : (Jvm.Cond.fieldLink "OneHandEachModel" (126 : Nat) "OneHandEachModel" "shifted" "[J") ∈ m_ws := tb_4 147 rfl rfl
theorem q_1051 : (Jvm.Cond.arrayClass Jvm.ClassFile.FieldType.byte) ∈ m_ws := tb_5 23 rfl rfl
theorem q_1052 : (Jvm.Cond.arrayClass Jvm.ClassFile.FieldType.short) ∈ m_ws := tb_5 24 rfl rfl
theorem q_1053 : (Jvm.Cond.methodLink "OneHandEachLaw" (26 : Nat) ({ cls := "OneHandEachModel", name := "shown", desc := "(III)I" } : Jvm.MethodName)) ∈ m_ws := tb_5 25 rfl rfl
theorem q_1054 : (Jvm.Cond.instanceMethod ({ cls := "OneHandEachModel", name := "shown", desc := "(III)I" } : Jvm.MethodName)) ∈ m_ws := tb_5 26 rfl rfl
theorem q_1055 : (Jvm.Cond.selects "OneHandEachModel" ({ cls := "OneHandEachModel", name := "shown", desc := "(III)I" } : Jvm.MethodName) ({ cls := "OneHandEachModel", name := "shown", desc := "(III)I" } : Jvm.MethodName)) ∈ m_ws := tb_5 27 rfl rfl
theorem q_1056 : (Jvm.Cond.code ({ cls := "OneHandEachModel", name := "shown", desc := "(III)I" } : Jvm.MethodName) prog_14_method_12_code (4 : Nat) (Option.some Jvm.ClassFile.FieldType.int)) ∈ m_ws := tb_5 28 rfl rfl
theorem q_1057 : (Jvm.Cond.methodLink "OneHandEachModel" (151 : Nat) ({ cls := "OneHandEachModel", name := "isClock", desc := "(I)Z" } : Jvm.MethodName)) ∈ m_ws := tb_5 29 rfl rfl
theorem q_1058 : (Jvm.Cond.static ({ cls := "OneHandEachModel", name := "isClock", desc := "(I)Z" } : Jvm.MethodName)) ∈ m_ws := tb_5 30 rfl rfl
theorem q_1059 : (Jvm.Cond.code ({ cls := "OneHandEachModel", name := "isClock", desc := "(I)Z" } : Jvm.MethodName) prog_14_method_5_code (1 : Nat) (Option.some Jvm.ClassFile.FieldType.boolean)) ∈ m_ws := tb_5 31 rfl rfl
theorem q_1060 : (Jvm.Cond.methodLink "OneHandEachModel" (132 : Nat) ({ cls := "OneHandEachModel", name := "in", desc := "(III)Z" } : Jvm.MethodName)) ∈ m_ws := tb_5 32 rfl rfl
theorem q_1061 : (Jvm.Cond.static ({ cls := "OneHandEachModel", name := "in", desc := "(III)Z" } : Jvm.MethodName)) ∈ m_ws := tb_5 33 rfl rfl
theorem q_1062 : (Jvm.Cond.code ({ cls := "OneHandEachModel", name := "in", desc := "(III)Z" } : Jvm.MethodName) prog_14_method_3_code (3 : Nat) (Option.some Jvm.ClassFile.FieldType.boolean)) ∈ m_ws := tb_5 34 rfl rfl
theorem q_1063 : (Jvm.Cond.methodLink "OneHandEachModel" (155 : Nat) ({ cls := "OneHandEachModel", name := "isMinute", desc := "(I)Z" } : Jvm.MethodName)) ∈ m_ws := tb_5 35 rfl rfl
theorem q_1064 : (Jvm.Cond.static ({ cls := "OneHandEachModel", name := "isMinute", desc := "(I)Z" } : Jvm.MethodName)) ∈ m_ws := tb_5 36 rfl rfl
theorem q_1065 : (Jvm.Cond.code ({ cls := "OneHandEachModel", name := "isMinute", desc := "(I)Z" } : Jvm.MethodName) prog_14_method_6_code (1 : Nat) (Option.some Jvm.ClassFile.FieldType.boolean)) ∈ m_ws := tb_5 37 rfl rfl
theorem q_1066 : (Jvm.Cond.constant "OneHandEachModel" (136 : Nat) (99999 : Int32)) ∈ m_ws := tb_5 38 rfl rfl
theorem q_1067 : (Jvm.Cond.methodLink "OneHandEachModel" (141 : Nat) ({ cls := "OneHandEachModel", name := "show", desc := "(II)I" } : Jvm.MethodName)) ∈ m_ws := tb_5 39 rfl rfl
theorem q_1069 : (Jvm.Cond.instanceMethod ({ cls := "OneHandEachModel", name := "show", desc := "(II)I" } : Jvm.MethodName)) ∈ m_ws := tb_5 41 rfl rfl
theorem q_1070 : (Jvm.Cond.code ({ cls := "OneHandEachModel", name := "show", desc := "(II)I" } : Jvm.MethodName) prog_14_method_8_code (3 : Nat) (Option.some Jvm.ClassFile.FieldType.int)) ∈ m_ws := tb_5 42 rfl rfl
theorem q_1071 : (Jvm.Cond.methodLink "OneHandEachModel" (137 : Nat) ({ cls := "OneHandEachModel", name := "showBy", desc := "(III)I" } : Jvm.MethodName)) ∈ m_ws := tb_5 43 rfl rfl
theorem q_1072 : (Jvm.Cond.static ({ cls := "OneHandEachModel", name := "showBy", desc := "(III)I" } : Jvm.MethodName)) ∈ m_ws := tb_5 44 rfl rfl
theorem q_1073 : (Jvm.Cond.code ({ cls := "OneHandEachModel", name := "showBy", desc := "(III)I" } : Jvm.MethodName) prog_14_method_7_code (4 : Nat) (Option.some Jvm.ClassFile.FieldType.int)) ∈ m_ws := tb_5 45 rfl rfl
theorem q_1074 : (Jvm.Cond.methodLink "OneHandEachModel" (158 : Nat) ({ cls := "OneHandEachModel", name := "partAt", desc := "(II)I" } : Jvm.MethodName)) ∈ m_ws := tb_5 46 rfl rfl
theorem q_1076 : (Jvm.Cond.instanceMethod ({ cls := "OneHandEachModel", name := "partAt", desc := "(II)I" } : Jvm.MethodName)) ∈ m_ws := tb_5 48 rfl rfl
theorem q_1077 : (Jvm.Cond.code ({ cls := "OneHandEachModel", name := "partAt", desc := "(II)I" } : Jvm.MethodName) prog_14_method_10_code (3 : Nat) (Option.some Jvm.ClassFile.FieldType.int)) ∈ m_ws := tb_5 49 rfl rfl
theorem q_1078 : (Jvm.Cond.methodLink "OneHandEachModel" (145 : Nat) ({ cls := "OneHandEachModel", name := "partOf", desc := "(II)I" } : Jvm.MethodName)) ∈ m_ws := tb_5 50 rfl rfl
theorem q_1079 : (Jvm.Cond.static ({ cls := "OneHandEachModel", name := "partOf", desc := "(II)I" } : Jvm.MethodName)) ∈ m_ws := tb_5 51 rfl rfl
theorem q_1080 : (Jvm.Cond.code ({ cls := "OneHandEachModel", name := "partOf", desc := "(II)I" } : Jvm.MethodName) prog_14_method_9_code (2 : Nat) (Option.some Jvm.ClassFile.FieldType.int)) ∈ m_ws := tb_5 52 rfl rfl
theorem q_1081 : (Jvm.Cond.methodLink "OneHandEachLaw" (124 : Nat) ({ cls := "OneHandEachModel", name := "undo", desc := "()I" } : Jvm.MethodName)) ∈ m_ws := tb_5 53 rfl rfl
theorem q_1082 : (Jvm.Cond.instanceMethod ({ cls := "OneHandEachModel", name := "undo", desc := "()I" } : Jvm.MethodName)) ∈ m_ws := tb_5 54 rfl rfl
theorem q_1083 : (Jvm.Cond.selects "OneHandEachModel" ({ cls := "OneHandEachModel", name := "undo", desc := "()I" } : Jvm.MethodName) ({ cls := "OneHandEachModel", name := "undo", desc := "()I" } : Jvm.MethodName)) ∈ m_ws := tb_5 55 rfl rfl
theorem q_1084 : (Jvm.Cond.code ({ cls := "OneHandEachModel", name := "undo", desc := "()I" } : Jvm.MethodName) prog_14_method_16_code (1 : Nat) (Option.some Jvm.ClassFile.FieldType.int)) ∈ m_ws := tb_5 56 rfl rfl
theorem q_1085 : (Jvm.Cond.methodLink "OneHandEachModel" (170 : Nat) ({ cls := "OneHandEachModel", name := "lays", desc := "(III)V" } : Jvm.MethodName)) ∈ m_ws := tb_5 57 rfl rfl
theorem q_1087 : (Jvm.Cond.instanceMethod ({ cls := "OneHandEachModel", name := "lays", desc := "(III)V" } : Jvm.MethodName)) ∈ m_ws := tb_5 59 rfl rfl
theorem q_1088 : (Jvm.Cond.code ({ cls := "OneHandEachModel", name := "lays", desc := "(III)V" } : Jvm.MethodName) prog_14_method_14_code (4 : Nat) (Option.none : Option Jvm.ClassFile.FieldType)) ∈ m_ws := tb_5 60 rfl rfl
theorem q_1089 : (Jvm.Cond.methodLink "OneHandEachLaw" (128 : Nat) ({ cls := "OneHandEachModel", name := "redo", desc := "()I" } : Jvm.MethodName)) ∈ m_ws := tb_5 61 rfl rfl
theorem q_1090 : (Jvm.Cond.instanceMethod ({ cls := "OneHandEachModel", name := "redo", desc := "()I" } : Jvm.MethodName)) ∈ m_ws := tb_5 62 rfl rfl
theorem q_1091 : (Jvm.Cond.selects "OneHandEachModel" ({ cls := "OneHandEachModel", name := "redo", desc := "()I" } : Jvm.MethodName) ({ cls := "OneHandEachModel", name := "redo", desc := "()I" } : Jvm.MethodName)) ∈ m_ws := tb_5 63 rfl rfl
theorem q_1092 : (Jvm.Cond.code ({ cls := "OneHandEachModel", name := "redo", desc := "()I" } : Jvm.MethodName) prog_14_method_17_code (1 : Nat) (Option.some Jvm.ClassFile.FieldType.int)) ∈ m_ws := tb_5 64 rfl rfl
theorem q_1093 : (Jvm.Cond.methodLink "OneHandEachLaw" (17 : Nat) ({ cls := "OneHandEachModel", name := "mend", desc := "(III)I" } : Jvm.MethodName)) ∈ m_ws := tb_5 65 rfl rfl
theorem q_1094 : (Jvm.Cond.instanceMethod ({ cls := "OneHandEachModel", name := "mend", desc := "(III)I" } : Jvm.MethodName)) ∈ m_ws := tb_5 66 rfl rfl
theorem q_1095 : (Jvm.Cond.selects "OneHandEachModel" ({ cls := "OneHandEachModel", name := "mend", desc := "(III)I" } : Jvm.MethodName) ({ cls := "OneHandEachModel", name := "mend", desc := "(III)I" } : Jvm.MethodName)) ∈ m_ws := tb_5 67 rfl rfl
theorem q_1096 : (Jvm.Cond.code ({ cls := "OneHandEachModel", name := "mend", desc := "(III)I" } : Jvm.MethodName) prog_14_method_18_code (4 : Nat) (Option.some Jvm.ClassFile.FieldType.int)) ∈ m_ws := tb_5 68 rfl rfl
theorem q_1097 : (Jvm.Cond.methodLink "OneHandEachModel" (174 : Nat) ({ cls := "OneHandEachModel", name := "changes", desc := "(III)I" } : Jvm.MethodName)) ∈ m_ws := tb_5 69 rfl rfl
theorem q_1099 : (Jvm.Cond.instanceMethod ({ cls := "OneHandEachModel", name := "changes", desc := "(III)I" } : Jvm.MethodName)) ∈ m_ws := tb_5 71 rfl rfl
theorem q_1100 : (Jvm.Cond.code ({ cls := "OneHandEachModel", name := "changes", desc := "(III)I" } : Jvm.MethodName) prog_14_method_15_code (6 : Nat) (Option.some Jvm.ClassFile.FieldType.int)) ∈ m_ws := tb_5 72 rfl rfl
theorem q_1101 : (Jvm.Cond.methodLink "OneHandEachModel" (161 : Nat) ({ cls := "OneHandEachModel", name := "valueAt", desc := "(II)I" } : Jvm.MethodName)) ∈ m_ws := tb_5 73 rfl rfl
theorem q_1103 : (Jvm.Cond.instanceMethod ({ cls := "OneHandEachModel", name := "valueAt", desc := "(II)I" } : Jvm.MethodName)) ∈ m_ws := tb_5 75 rfl rfl
theorem q_1104 : (Jvm.Cond.code ({ cls := "OneHandEachModel", name := "valueAt", desc := "(II)I" } : Jvm.MethodName) prog_14_method_13_code (3 : Nat) (Option.some Jvm.ClassFile.FieldType.int)) ∈ m_ws := tb_5 76 rfl rfl
theorem q_1105 : (Jvm.Cond.constant "OneHandEachModel" (177 : Nat) (-2000000000 : Int32)) ∈ m_ws := tb_5 77 rfl rfl
theorem q_1106 : (Jvm.Cond.methodLink "OneHandEachLaw" (22 : Nat) ({ cls := "OneHandEachModel", name := "of", desc := "(II)I" } : Jvm.MethodName)) ∈ m_ws := tb_5 78 rfl rfl
theorem q_1107 : (Jvm.Cond.instanceMethod ({ cls := "OneHandEachModel", name := "of", desc := "(II)I" } : Jvm.MethodName)) ∈ m_ws := tb_5 79 rfl rfl
theorem q_1108 : (Jvm.Cond.selects "OneHandEachModel" ({ cls := "OneHandEachModel", name := "of", desc := "(II)I" } : Jvm.MethodName) ({ cls := "OneHandEachModel", name := "of", desc := "(II)I" } : Jvm.MethodName)) ∈ m_ws := tb_5 80 rfl rfl
theorem q_1109 : (Jvm.Cond.code ({ cls := "OneHandEachModel", name := "of", desc := "(II)I" } : Jvm.MethodName) prog_14_method_19_code (3 : Nat) (Option.some Jvm.ClassFile.FieldType.int)) ∈ m_ws := tb_5 81 rfl rfl
theorem q_1110 : (Jvm.Cond.methodLink "OneHandEachLaw" (44 : Nat) ({ cls := "OneHandEachModel", name := "sight", desc := "(II)I" } : Jvm.MethodName)) ∈ m_ws := tb_5 82 rfl rfl
theorem q_1111 : (Jvm.Cond.instanceMethod ({ cls := "OneHandEachModel", name := "sight", desc := "(II)I" } : Jvm.MethodName)) ∈ m_ws := tb_5 83 rfl rfl
theorem q_1112 : (Jvm.Cond.selects "OneHandEachModel" ({ cls := "OneHandEachModel", name := "sight", desc := "(II)I" } : Jvm.MethodName) ({ cls := "OneHandEachModel", name := "sight", desc := "(II)I" } : Jvm.MethodName)) ∈ m_ws := tb_5 84 rfl rfl
theorem q_1113 : (Jvm.Cond.code ({ cls := "OneHandEachModel", name := "sight", desc := "(II)I" } : Jvm.MethodName) prog_14_method_22_code (3 : Nat) (Option.some Jvm.ClassFile.FieldType.int)) ∈ m_ws := tb_5 85 rfl rfl
theorem q_1114 : (Jvm.Cond.methodLink "OneHandEachModel" (184 : Nat) ({ cls := "OneHandEachModel", name := "isSight", desc := "(IIII)Z" } : Jvm.MethodName)) ∈ m_ws := tb_5 86 rfl rfl
theorem q_1115 : (Jvm.Cond.static ({ cls := "OneHandEachModel", name := "isSight", desc := "(IIII)Z" } : Jvm.MethodName)) ∈ m_ws := tb_5 87 rfl rfl
theorem q_1116 : (Jvm.Cond.code ({ cls := "OneHandEachModel", name := "isSight", desc := "(IIII)Z" } : Jvm.MethodName) prog_14_method_20_code (4 : Nat) (Option.some Jvm.ClassFile.FieldType.boolean)) ∈ m_ws := tb_5 88 rfl rfl
theorem q_1117 : (Jvm.Cond.methodLink "OneHandEachModel" (188 : Nat) ({ cls := "OneHandEachModel", name := "addSight", desc := "(IIII)I" } : Jvm.MethodName)) ∈ m_ws := tb_5 89 rfl rfl
theorem q_1119 : (Jvm.Cond.instanceMethod ({ cls := "OneHandEachModel", name := "addSight", desc := "(IIII)I" } : Jvm.MethodName)) ∈ m_ws := tb_5 91 rfl rfl
theorem q_1120 : (Jvm.Cond.code ({ cls := "OneHandEachModel", name := "addSight", desc := "(IIII)I" } : Jvm.MethodName) prog_14_method_21_code (5 : Nat) (Option.some Jvm.ClassFile.FieldType.int)) ∈ m_ws := tb_5 92 rfl rfl
theorem q_1121 : (Jvm.Cond.methodLink "OneHandEachLaw" (48 : Nat) ({ cls := "OneHandEachModel", name := "sights", desc := "(III)I" } : Jvm.MethodName)) ∈ m_ws := tb_5 93 rfl rfl
theorem q_1122 : (Jvm.Cond.instanceMethod ({ cls := "OneHandEachModel", name := "sights", desc := "(III)I" } : Jvm.MethodName)) ∈ m_ws := tb_5 94 rfl rfl
theorem q_1123 : (Jvm.Cond.selects "OneHandEachModel" ({ cls := "OneHandEachModel", name := "sights", desc := "(III)I" } : Jvm.MethodName) ({ cls := "OneHandEachModel", name := "sights", desc := "(III)I" } : Jvm.MethodName)) ∈ m_ws := tb_5 95 rfl rfl
theorem q_1124 : (Jvm.Cond.code ({ cls := "OneHandEachModel", name := "sights", desc := "(III)I" } : Jvm.MethodName) prog_14_method_23_code (8 : Nat) (Option.some Jvm.ClassFile.FieldType.int)) ∈ m_ws := tb_5 96 rfl rfl
theorem q_1125 : (Jvm.Cond.methodLink "OneHandEachModel" (192 : Nat) ({ cls := "OneHandEachModel", name := "isShelf", desc := "(I)Z" } : Jvm.MethodName)) ∈ m_ws := tb_5 97 rfl rfl
theorem q_1126 : (Jvm.Cond.static ({ cls := "OneHandEachModel", name := "isShelf", desc := "(I)Z" } : Jvm.MethodName)) ∈ m_ws := tb_5 98 rfl rfl
theorem q_1127 : (Jvm.Cond.code ({ cls := "OneHandEachModel", name := "isShelf", desc := "(I)Z" } : Jvm.MethodName) prog_14_method_89_code (1 : Nat) (Option.some Jvm.ClassFile.FieldType.boolean)) ∈ m_ws := tb_5 99 rfl rfl
theorem q_1128 : (Jvm.Cond.constantLong "OneHandEachModel" (195 : Nat) (3 : Int64)) ∈ m_ws := tb_5 100 rfl rfl
theorem q_1129 : (Jvm.Cond.methodLink "OneHandEachLaw" (52 : Nat) ({ cls := "OneHandEachModel", name := "forget", desc := "()I" } : Jvm.MethodName)) ∈ m_ws := tb_5 101 rfl rfl
theorem q_1130 : (Jvm.Cond.instanceMethod ({ cls := "OneHandEachModel", name := "forget", desc := "()I" } : Jvm.MethodName)) ∈ m_ws := tb_5 102 rfl rfl
theorem q_1131 : (Jvm.Cond.selects "OneHandEachModel" ({ cls := "OneHandEachModel", name := "forget", desc := "()I" } : Jvm.MethodName) ({ cls := "OneHandEachModel", name := "forget", desc := "()I" } : Jvm.MethodName)) ∈ m_ws := tb_5 103 rfl rfl
theorem q_1132 : (Jvm.Cond.code ({ cls := "OneHandEachModel", name := "forget", desc := "()I" } : Jvm.MethodName) prog_14_method_24_code (1 : Nat) (Option.some Jvm.ClassFile.FieldType.int)) ∈ m_ws := tb_5 104 rfl rfl
theorem q_1133 : (Jvm.Cond.methodLink "OneHandEachLaw" (80 : Nat) ({ cls := "OneHandEachModel", name := "gun", desc := "(II)I" } : Jvm.MethodName)) ∈ m_ws := tb_5 105 rfl rfl
theorem q_1134 : (Jvm.Cond.instanceMethod ({ cls := "OneHandEachModel", name := "gun", desc := "(II)I" } : Jvm.MethodName)) ∈ m_ws := tb_5 106 rfl rfl
theorem q_1135 : (Jvm.Cond.selects "OneHandEachModel" ({ cls := "OneHandEachModel", name := "gun", desc := "(II)I" } : Jvm.MethodName) ({ cls := "OneHandEachModel", name := "gun", desc := "(II)I" } : Jvm.MethodName)) ∈ m_ws := tb_5 107 rfl rfl
theorem q_1136 : (Jvm.Cond.code ({ cls := "OneHandEachModel", name := "gun", desc := "(II)I" } : Jvm.MethodName) prog_14_method_25_code (3 : Nat) (Option.some Jvm.ClassFile.FieldType.int)) ∈ m_ws := tb_5 108 rfl rfl
theorem q_1137 : (Jvm.Cond.methodLink "OneHandEachLaw" (31 : Nat) ({ cls := "OneHandEachModel", name := "feed", desc := "(I)I" } : Jvm.MethodName)) ∈ m_ws := tb_5 109 rfl rfl
theorem q_1138 : (Jvm.Cond.instanceMethod ({ cls := "OneHandEachModel", name := "feed", desc := "(I)I" } : Jvm.MethodName)) ∈ m_ws := tb_5 110 rfl rfl
theorem q_1139 : (Jvm.Cond.selects "OneHandEachModel" ({ cls := "OneHandEachModel", name := "feed", desc := "(I)I" } : Jvm.MethodName) ({ cls := "OneHandEachModel", name := "feed", desc := "(I)I" } : Jvm.MethodName)) ∈ m_ws := tb_5 111 rfl rfl
theorem q_1140 : (Jvm.Cond.code ({ cls := "OneHandEachModel", name := "feed", desc := "(I)I" } : Jvm.MethodName) prog_14_method_26_code (2 : Nat) (Option.some Jvm.ClassFile.FieldType.int)) ∈ m_ws := tb_5 112 rfl rfl
theorem q_1141 : (Jvm.Cond.methodLink "OneHandEachLaw" (36 : Nat) ({ cls := "OneHandEachModel", name := "law", desc := "()I" } : Jvm.MethodName)) ∈ m_ws := tb_5 113 rfl rfl
theorem q_1142 : (Jvm.Cond.instanceMethod ({ cls := "OneHandEachModel", name := "law", desc := "()I" } : Jvm.MethodName)) ∈ m_ws := tb_5 114 rfl rfl
theorem q_1143 : (Jvm.Cond.selects "OneHandEachModel" ({ cls := "OneHandEachModel", name := "law", desc := "()I" } : Jvm.MethodName) ({ cls := "OneHandEachModel", name := "law", desc := "()I" } : Jvm.MethodName)) ∈ m_ws := tb_5 115 rfl rfl
theorem q_1144 : (Jvm.Cond.code ({ cls := "OneHandEachModel", name := "law", desc := "()I" } : Jvm.MethodName) prog_14_method_44_code (2 : Nat) (Option.some Jvm.ClassFile.FieldType.int)) ∈ m_ws := tb_5 116 rfl rfl
theorem q_1145 : (Jvm.Cond.methodLink "OneHandEachModel" (261 : Nat) ({ cls := "OneHandEachModel", name := "readText", desc := "(I)I" } : Jvm.MethodName)) ∈ m_ws := tb_5 117 rfl rfl
theorem q_1147 : (Jvm.Cond.instanceMethod ({ cls := "OneHandEachModel", name := "readText", desc := "(I)I" } : Jvm.MethodName)) ∈ m_ws := tb_5 119 rfl rfl
theorem q_1148 : (Jvm.Cond.code ({ cls := "OneHandEachModel", name := "readText", desc := "(I)I" } : Jvm.MethodName) prog_14_method_40_code (3 : Nat) (Option.some Jvm.ClassFile.FieldType.int)) ∈ m_ws := tb_5 120 rfl rfl
theorem q_1149 : (Jvm.Cond.methodLink "OneHandEachModel" (252 : Nat) ({ cls := "OneHandEachModel", name := "line", desc := "()V" } : Jvm.MethodName)) ∈ m_ws := tb_5 121 rfl rfl
theorem q_1151 : (Jvm.Cond.instanceMethod ({ cls := "OneHandEachModel", name := "line", desc := "()V" } : Jvm.MethodName)) ∈ m_ws := tb_5 123 rfl rfl
theorem q_1152 : (Jvm.Cond.code ({ cls := "OneHandEachModel", name := "line", desc := "()V" } : Jvm.MethodName) prog_14_method_39_code (2 : Nat) (Option.none : Option Jvm.ClassFile.FieldType)) ∈ m_ws := tb_5 124 rfl rfl
theorem q_1153 : (Jvm.Cond.methodLink "OneHandEachModel" (234 : Nat) ({ cls := "OneHandEachModel", name := "either", desc := "()V" } : Jvm.MethodName)) ∈ m_ws := tb_5 125 rfl rfl
theorem q_1155 : (Jvm.Cond.instanceMethod ({ cls := "OneHandEachModel", name := "either", desc := "()V" } : Jvm.MethodName)) ∈ m_ws := tb_5 127 rfl rfl
theorem q_1156 : (Jvm.Cond.code ({ cls := "OneHandEachModel", name := "either", desc := "()V" } : Jvm.MethodName) prog_14_method_38_code (1 : Nat) (Option.none : Option Jvm.ClassFile.FieldType)) ∈ m_ws := tb_5 128 rfl rfl
theorem q_1157 : (Jvm.Cond.methodLink "OneHandEachModel" (249 : Nat) ({ cls := "OneHandEachModel", name := "both", desc := "()V" } : Jvm.MethodName)) ∈ m_ws := tb_5 129 rfl rfl
theorem q_1159 : (Jvm.Cond.instanceMethod ({ cls := "OneHandEachModel", name := "both", desc := "()V" } : Jvm.MethodName)) ∈ m_ws := tb_5 131 rfl rfl
theorem q_1160 : (Jvm.Cond.code ({ cls := "OneHandEachModel", name := "both", desc := "()V" } : Jvm.MethodName) prog_14_method_37_code (1 : Nat) (Option.none : Option Jvm.ClassFile.FieldType)) ∈ m_ws := tb_5 132 rfl rfl
theorem q_1161 : (Jvm.Cond.methodLink "OneHandEachModel" (246 : Nat) ({ cls := "OneHandEachModel", name := "compared", desc := "()V" } : Jvm.MethodName)) ∈ m_ws := tb_5 133 rfl rfl
theorem q_1163 : (Jvm.Cond.instanceMethod ({ cls := "OneHandEachModel", name := "compared", desc := "()V" } : Jvm.MethodName)) ∈ m_ws := tb_5 135 rfl rfl
theorem q_1164 : (Jvm.Cond.code ({ cls := "OneHandEachModel", name := "compared", desc := "()V" } : Jvm.MethodName) prog_14_method_36_code (2 : Nat) (Option.none : Option Jvm.ClassFile.FieldType)) ∈ m_ws := tb_5 136 rfl rfl
theorem q_1165 : (Jvm.Cond.methodLink "OneHandEachModel" (243 : Nat) ({ cls := "OneHandEachModel", name := "sum", desc := "()V" } : Jvm.MethodName)) ∈ m_ws := tb_5 137 rfl rfl
theorem q_1167 : (Jvm.Cond.instanceMethod ({ cls := "OneHandEachModel", name := "sum", desc := "()V" } : Jvm.MethodName)) ∈ m_ws := tb_5 139 rfl rfl
theorem q_1168 : (Jvm.Cond.code ({ cls := "OneHandEachModel", name := "sum", desc := "()V" } : Jvm.MethodName) prog_14_method_35_code (2 : Nat) (Option.none : Option Jvm.ClassFile.FieldType)) ∈ m_ws := tb_5 140 rfl rfl
theorem q_1169 : (Jvm.Cond.methodLink "OneHandEachModel" (240 : Nat) ({ cls := "OneHandEachModel", name := "product", desc := "()V" } : Jvm.MethodName)) ∈ m_ws := tb_5 141 rfl rfl
theorem q_1171 : (Jvm.Cond.instanceMethod ({ cls := "OneHandEachModel", name := "product", desc := "()V" } : Jvm.MethodName)) ∈ m_ws := tb_5 143 rfl rfl
theorem q_1172 : (Jvm.Cond.code ({ cls := "OneHandEachModel", name := "product", desc := "()V" } : Jvm.MethodName) prog_14_method_34_code (2 : Nat) (Option.none : Option Jvm.ClassFile.FieldType)) ∈ m_ws := tb_5 144 rfl rfl
theorem q_1173 : (Jvm.Cond.methodLink "OneHandEachModel" (231 : Nat) ({ cls := "OneHandEachModel", name := "operand", desc := "()V" } : Jvm.MethodName)) ∈ m_ws := tb_5 145 rfl rfl
theorem q_1175 : (Jvm.Cond.instanceMethod ({ cls := "OneHandEachModel", name := "operand", desc := "()V" } : Jvm.MethodName)) ∈ m_ws := tb_5 147 rfl rfl
theorem q_1176 : (Jvm.Cond.code ({ cls := "OneHandEachModel", name := "operand", desc := "()V" } : Jvm.MethodName) prog_14_method_33_code (2 : Nat) (Option.none : Option Jvm.ClassFile.FieldType)) ∈ m_ws := tb_5 148 rfl rfl
theorem q_1177 : (Jvm.Cond.methodLink "OneHandEachModel" (215 : Nat) ({ cls := "OneHandEachModel", name := "look", desc := "()I" } : Jvm.MethodName)) ∈ m_ws := tb_5 149 rfl rfl
theorem q_1179 : (Jvm.Cond.instanceMethod ({ cls := "OneHandEachModel", name := "look", desc := "()I" } : Jvm.MethodName)) ∈ m_ws := tb_5 151 rfl rfl
theorem q_1180 : (Jvm.Cond.code ({ cls := "OneHandEachModel", name := "look", desc := "()I" } : Jvm.MethodName) prog_14_method_27_code (1 : Nat) (Option.some Jvm.ClassFile.FieldType.int)) ∈ m_ws := tb_5 152 rfl rfl
theorem q_1181 : (Jvm.Cond.methodLink "OneHandEachModel" (223 : Nat) ({ cls := "OneHandEachModel", name := "nameOf", desc := "(I)I" } : Jvm.MethodName)) ∈ m_ws := tb_5 153 rfl rfl
theorem q_1182 : (Jvm.Cond.static ({ cls := "OneHandEachModel", name := "nameOf", desc := "(I)I" } : Jvm.MethodName)) ∈ m_ws := tb_5 154 rfl rfl
theorem q_1183 : (Jvm.Cond.code ({ cls := "OneHandEachModel", name := "nameOf", desc := "(I)I" } : Jvm.MethodName) prog_14_method_30_code (1 : Nat) (Option.some Jvm.ClassFile.FieldType.int)) ∈ m_ws := tb_5 155 rfl rfl
theorem q_1184 : (Jvm.Cond.methodLink "OneHandEachModel" (219 : Nat) ({ cls := "OneHandEachModel", name := "addStep", desc := "(II)V" } : Jvm.MethodName)) ∈ m_ws := tb_5 156 rfl rfl
theorem q_1186 : (Jvm.Cond.instanceMethod ({ cls := "OneHandEachModel", name := "addStep", desc := "(II)V" } : Jvm.MethodName)) ∈ m_ws := tb_5 158 rfl rfl
theorem q_1187 : (Jvm.Cond.code ({ cls := "OneHandEachModel", name := "addStep", desc := "(II)V" } : Jvm.MethodName) prog_14_method_29_code (3 : Nat) (Option.none : Option Jvm.ClassFile.FieldType)) ∈ m_ws := tb_5 159 rfl rfl
theorem q_1188 : (Jvm.Cond.methodLink "OneHandEachModel" (227 : Nat) ({ cls := "OneHandEachModel", name := "opens", desc := "()Z" } : Jvm.MethodName)) ∈ m_ws := tb_5 160 rfl rfl
theorem q_1190 : (Jvm.Cond.instanceMethod ({ cls := "OneHandEachModel", name := "opens", desc := "()Z" } : Jvm.MethodName)) ∈ m_ws := tb_5 162 rfl rfl
theorem q_1191 : (Jvm.Cond.code ({ cls := "OneHandEachModel", name := "opens", desc := "()Z" } : Jvm.MethodName) prog_14_method_31_code (1 : Nat) (Option.some Jvm.ClassFile.FieldType.boolean)) ∈ m_ws := tb_5 163 rfl rfl
theorem q_1192 : (Jvm.Cond.methodLink "OneHandEachModel" (212 : Nat) ({ cls := "OneHandEachModel", name := "faulty", desc := "()V" } : Jvm.MethodName)) ∈ m_ws := tb_5 164 rfl rfl
theorem q_1194 : (Jvm.Cond.instanceMethod ({ cls := "OneHandEachModel", name := "faulty", desc := "()V" } : Jvm.MethodName)) ∈ m_ws := tb_5 166 rfl rfl
theorem q_1195 : (Jvm.Cond.code ({ cls := "OneHandEachModel", name := "faulty", desc := "()V" } : Jvm.MethodName) prog_14_method_28_code (1 : Nat) (Option.none : Option Jvm.ClassFile.FieldType)) ∈ m_ws := tb_5 167 rfl rfl
theorem q_1196 : (Jvm.Cond.methodLink "OneHandEachModel" (237 : Nat) ({ cls := "OneHandEachModel", name := "figure", desc := "()V" } : Jvm.MethodName)) ∈ m_ws := tb_5 168 rfl rfl
theorem q_1198 : (Jvm.Cond.instanceMethod ({ cls := "OneHandEachModel", name := "figure", desc := "()V" } : Jvm.MethodName)) ∈ m_ws := tb_5 170 rfl rfl
theorem q_1199 : (Jvm.Cond.code ({ cls := "OneHandEachModel", name := "figure", desc := "()V" } : Jvm.MethodName) prog_14_method_32_code (3 : Nat) (Option.none : Option Jvm.ClassFile.FieldType)) ∈ m_ws := tb_5 171 rfl rfl
theorem q_1200 : (Jvm.Cond.methodLink "OneHandEachLaw" (40 : Nat) ({ cls := "OneHandEachModel", name := "weight", desc := "(I)I" } : Jvm.MethodName)) ∈ m_ws := tb_5 172 rfl rfl
theorem q_1201 : (Jvm.Cond.instanceMethod ({ cls := "OneHandEachModel", name := "weight", desc := "(I)I" } : Jvm.MethodName)) ∈ m_ws := tb_5 173 rfl rfl
theorem q_1202 : (Jvm.Cond.selects "OneHandEachModel" ({ cls := "OneHandEachModel", name := "weight", desc := "(I)I" } : Jvm.MethodName) ({ cls := "OneHandEachModel", name := "weight", desc := "(I)I" } : Jvm.MethodName)) ∈ m_ws := tb_5 174 rfl rfl
theorem q_1203 : (Jvm.Cond.code ({ cls := "OneHandEachModel", name := "weight", desc := "(I)I" } : Jvm.MethodName) prog_14_method_46_code (2 : Nat) (Option.some Jvm.ClassFile.FieldType.int)) ∈ m_ws := tb_5 175 rfl rfl
theorem q_1204 : (Jvm.Cond.methodLink "OneHandEachModel" (271 : Nat) ({ cls := "OneHandEachModel", name := "weightOf", desc := "(I)I" } : Jvm.MethodName)) ∈ m_ws := tb_5 176 rfl rfl
theorem q_1206 : (Jvm.Cond.instanceMethod ({ cls := "OneHandEachModel", name := "weightOf", desc := "(I)I" } : Jvm.MethodName)) ∈ m_ws := tb_5 178 rfl rfl
theorem q_1207 : (Jvm.Cond.code ({ cls := "OneHandEachModel", name := "weightOf", desc := "(I)I" } : Jvm.MethodName) prog_14_method_45_code (3 : Nat) (Option.some Jvm.ClassFile.FieldType.int)) ∈ m_ws := tb_5 179 rfl rfl
theorem q_1208 : (Jvm.Cond.methodLink "OneHandEachModel" (268 : Nat) ({ cls := "OneHandEachModel", name := "gives", desc := "(I)I" } : Jvm.MethodName)) ∈ m_ws := tb_5 180 rfl rfl
theorem q_1210 : (Jvm.Cond.instanceMethod ({ cls := "OneHandEachModel", name := "gives", desc := "(I)I" } : Jvm.MethodName)) ∈ m_ws := tb_5 182 rfl rfl
theorem q_1211 : (Jvm.Cond.code ({ cls := "OneHandEachModel", name := "gives", desc := "(I)I" } : Jvm.MethodName) prog_14_method_43_code (4 : Nat) (Option.some Jvm.ClassFile.FieldType.int)) ∈ m_ws := tb_5 183 rfl rfl
theorem q_1212 : (Jvm.Cond.methodLink "OneHandEachModel" (258 : Nat) ({ cls := "OneHandEachModel", name := "worked", desc := "(III)I" } : Jvm.MethodName)) ∈ m_ws := tb_5 184 rfl rfl
theorem q_1214 : (Jvm.Cond.instanceMethod ({ cls := "OneHandEachModel", name := "worked", desc := "(III)I" } : Jvm.MethodName)) ∈ m_ws := tb_5 186 rfl rfl
theorem q_1215 : (Jvm.Cond.code ({ cls := "OneHandEachModel", name := "worked", desc := "(III)I" } : Jvm.MethodName) prog_14_method_42_code (7 : Nat) (Option.some Jvm.ClassFile.FieldType.int)) ∈ m_ws := tb_5 187 rfl rfl
theorem q_1216 : (Jvm.Cond.methodLink "OneHandEachModel" (255 : Nat) ({ cls := "OneHandEachModel", name := "twoOf", desc := "(III)I" } : Jvm.MethodName)) ∈ m_ws := tb_5 188 rfl rfl
theorem q_1217 : (Jvm.Cond.static ({ cls := "OneHandEachModel", name := "twoOf", desc := "(III)I" } : Jvm.MethodName)) ∈ m_ws := tb_5 189 rfl rfl
theorem q_1218 : (Jvm.Cond.code ({ cls := "OneHandEachModel", name := "twoOf", desc := "(III)I" } : Jvm.MethodName) prog_14_method_41_code (3 : Nat) (Option.some Jvm.ClassFile.FieldType.int)) ∈ m_ws := tb_5 190 rfl rfl
theorem q_1219 : (Jvm.Cond.methodLink "OneHandEachLaw" (56 : Nat) ({ cls := "OneHandEachModel", name := "fits", desc := "(I)I" } : Jvm.MethodName)) ∈ m_ws := tb_5 191 rfl rfl
theorem q_1220 : (Jvm.Cond.instanceMethod ({ cls := "OneHandEachModel", name := "fits", desc := "(I)I" } : Jvm.MethodName)) ∈ m_ws := tb_5 192 rfl rfl
theorem q_1221 : (Jvm.Cond.selects "OneHandEachModel" ({ cls := "OneHandEachModel", name := "fits", desc := "(I)I" } : Jvm.MethodName) ({ cls := "OneHandEachModel", name := "fits", desc := "(I)I" } : Jvm.MethodName)) ∈ m_ws := tb_5 193 rfl rfl
theorem q_1222 : (Jvm.Cond.code ({ cls := "OneHandEachModel", name := "fits", desc := "(I)I" } : Jvm.MethodName) prog_14_method_49_code (4 : Nat) (Option.some Jvm.ClassFile.FieldType.int)) ∈ m_ws := tb_5 194 rfl rfl
theorem q_1223 : (Jvm.Cond.methodLink "OneHandEachModel" (284 : Nat) ({ cls := "OneHandEachModel", name := "findFits", desc := "(I)V" } : Jvm.MethodName)) ∈ m_ws := tb_5 195 rfl rfl
theorem q_1225 : (Jvm.Cond.instanceMethod ({ cls := "OneHandEachModel", name := "findFits", desc := "(I)V" } : Jvm.MethodName)) ∈ m_ws := tb_5 197 rfl rfl
theorem q_1226 : (Jvm.Cond.code ({ cls := "OneHandEachModel", name := "findFits", desc := "(I)V" } : Jvm.MethodName) prog_14_method_48_code (5 : Nat) (Option.none : Option Jvm.ClassFile.FieldType)) ∈ m_ws := tb_5 198 rfl rfl
theorem q_1227 : (Jvm.Cond.methodLink "OneHandEachModel" (281 : Nat) ({ cls := "OneHandEachModel", name := "isSeen", desc := "(II)Z" } : Jvm.MethodName)) ∈ m_ws := tb_5 199 rfl rfl
theorem q_1229 : (Jvm.Cond.instanceMethod ({ cls := "OneHandEachModel", name := "isSeen", desc := "(II)Z" } : Jvm.MethodName)) ∈ m_ws := tb_5 201 rfl rfl
theorem q_1230 : (Jvm.Cond.code ({ cls := "OneHandEachModel", name := "isSeen", desc := "(II)Z" } : Jvm.MethodName) prog_14_method_47_code (4 : Nat) (Option.some Jvm.ClassFile.FieldType.boolean)) ∈ m_ws := tb_5 202 rfl rfl
theorem q_1231 : (Jvm.Cond.methodLink "OneHandEachModel" (274 : Nat) ({ cls := "OneHandEachModel", name := "isNear", desc := "(II)Z" } : Jvm.MethodName)) ∈ m_ws := tb_5 203 rfl rfl
theorem q_1233 : (Jvm.Cond.instanceMethod ({ cls := "OneHandEachModel", name := "isNear", desc := "(II)Z" } : Jvm.MethodName)) ∈ m_ws := tb_5 205 rfl rfl
theorem q_1234 : (Jvm.Cond.code ({ cls := "OneHandEachModel", name := "isNear", desc := "(II)Z" } : Jvm.MethodName) prog_14_method_11_code (4 : Nat) (Option.some Jvm.ClassFile.FieldType.boolean)) ∈ m_ws := tb_5 206 rfl rfl
theorem q_1235 : (Jvm.Cond.methodLink "OneHandEachLaw" (60 : Nat) ({ cls := "OneHandEachModel", name := "chance", desc := "(II)I" } : Jvm.MethodName)) ∈ m_ws := tb_5 207 rfl rfl
theorem q_1236 : (Jvm.Cond.instanceMethod ({ cls := "OneHandEachModel", name := "chance", desc := "(II)I" } : Jvm.MethodName)) ∈ m_ws := tb_5 208 rfl rfl
theorem q_1237 : (Jvm.Cond.selects "OneHandEachModel" ({ cls := "OneHandEachModel", name := "chance", desc := "(II)I" } : Jvm.MethodName) ({ cls := "OneHandEachModel", name := "chance", desc := "(II)I" } : Jvm.MethodName)) ∈ m_ws := tb_5 209 rfl rfl
theorem q_1238 : (Jvm.Cond.code ({ cls := "OneHandEachModel", name := "chance", desc := "(II)I" } : Jvm.MethodName) prog_14_method_51_code (7 : Nat) (Option.some Jvm.ClassFile.FieldType.int)) ∈ m_ws := tb_5 210 rfl rfl
theorem q_1239 : (Jvm.Cond.methodLink "OneHandEachModel" (288 : Nat) ({ cls := "OneHandEachModel", name := "common", desc := "(II)I" } : Jvm.MethodName)) ∈ m_ws := tb_5 211 rfl rfl
theorem q_1240 : (Jvm.Cond.static ({ cls := "OneHandEachModel", name := "common", desc := "(II)I" } : Jvm.MethodName)) ∈ m_ws := tb_5 212 rfl rfl
theorem q_1241 : (Jvm.Cond.code ({ cls := "OneHandEachModel", name := "common", desc := "(II)I" } : Jvm.MethodName) prog_14_method_50_code (5 : Nat) (Option.some Jvm.ClassFile.FieldType.int)) ∈ m_ws := tb_5 213 rfl rfl
theorem q_1242 : (Jvm.Cond.methodLink "OneHandEachLaw" (64 : Nat) ({ cls := "OneHandEachModel", name := "likely", desc := "()I" } : Jvm.MethodName)) ∈ m_ws := tb_5 214 rfl rfl
theorem q_1243 : (Jvm.Cond.instanceMethod ({ cls := "OneHandEachModel", name := "likely", desc := "()I" } : Jvm.MethodName)) ∈ m_ws := tb_5 215 rfl rfl
theorem q_1244 : (Jvm.Cond.selects "OneHandEachModel" ({ cls := "OneHandEachModel", name := "likely", desc := "()I" } : Jvm.MethodName) ({ cls := "OneHandEachModel", name := "likely", desc := "()I" } : Jvm.MethodName)) ∈ m_ws := tb_5 216 rfl rfl
theorem q_1245 : (Jvm.Cond.code ({ cls := "OneHandEachModel", name := "likely", desc := "()I" } : Jvm.MethodName) prog_14_method_52_code (4 : Nat) (Option.some Jvm.ClassFile.FieldType.int)) ∈ m_ws := tb_5 217 rfl rfl
theorem q_1246 : (Jvm.Cond.methodLink "OneHandEachLaw" (68 : Nat) ({ cls := "OneHandEachModel", name := "tells", desc := "(I)I" } : Jvm.MethodName)) ∈ m_ws := tb_5 218 rfl rfl
theorem q_1247 : (Jvm.Cond.instanceMethod ({ cls := "OneHandEachModel", name := "tells", desc := "(I)I" } : Jvm.MethodName)) ∈ m_ws := tb_5 219 rfl rfl
theorem q_1248 : (Jvm.Cond.selects "OneHandEachModel" ({ cls := "OneHandEachModel", name := "tells", desc := "(I)I" } : Jvm.MethodName) ({ cls := "OneHandEachModel", name := "tells", desc := "(I)I" } : Jvm.MethodName)) ∈ m_ws := tb_5 220 rfl rfl
theorem q_1249 : (Jvm.Cond.code ({ cls := "OneHandEachModel", name := "tells", desc := "(I)I" } : Jvm.MethodName) prog_14_method_53_code (3 : Nat) (Option.some Jvm.ClassFile.FieldType.int)) ∈ m_ws := tb_5 221 rfl rfl
theorem q_1250 : (Jvm.Cond.methodLink "OneHandEachLaw" (72 : Nat) ({ cls := "OneHandEachModel", name := "next", desc := "(II)I" } : Jvm.MethodName)) ∈ m_ws := tb_5 222 rfl rfl
theorem q_1251 : (Jvm.Cond.instanceMethod ({ cls := "OneHandEachModel", name := "next", desc := "(II)I" } : Jvm.MethodName)) ∈ m_ws := tb_5 223 rfl rfl
theorem q_1252 : (Jvm.Cond.selects "OneHandEachModel" ({ cls := "OneHandEachModel", name := "next", desc := "(II)I" } : Jvm.MethodName) ({ cls := "OneHandEachModel", name := "next", desc := "(II)I" } : Jvm.MethodName)) ∈ m_ws := tb_5 224 rfl rfl
theorem q_1253 : (Jvm.Cond.code ({ cls := "OneHandEachModel", name := "next", desc := "(II)I" } : Jvm.MethodName) prog_14_method_55_code (5 : Nat) (Option.some Jvm.ClassFile.FieldType.int)) ∈ m_ws := tb_5 225 rfl rfl
theorem q_1254 : (Jvm.Cond.methodLink "OneHandEachModel" (291 : Nat) ({ cls := "OneHandEachModel", name := "mostAlike", desc := "(II)I" } : Jvm.MethodName)) ∈ m_ws := tb_5 226 rfl rfl
theorem q_1256 : (Jvm.Cond.instanceMethod ({ cls := "OneHandEachModel", name := "mostAlike", desc := "(II)I" } : Jvm.MethodName)) ∈ m_ws := tb_5 228 rfl rfl
theorem q_1257 : (Jvm.Cond.code ({ cls := "OneHandEachModel", name := "mostAlike", desc := "(II)I" } : Jvm.MethodName) prog_14_method_54_code (6 : Nat) (Option.some Jvm.ClassFile.FieldType.int)) ∈ m_ws := tb_5 229 rfl rfl
theorem q_1258 : (Jvm.Cond.methodLink "OneHandEachLaw" (76 : Nat) ({ cls := "OneHandEachModel", name := "lot", desc := "(III)I" } : Jvm.MethodName)) ∈ m_ws := tb_5 230 rfl rfl
theorem q_1259 : (Jvm.Cond.instanceMethod ({ cls := "OneHandEachModel", name := "lot", desc := "(III)I" } : Jvm.MethodName)) ∈ m_ws := tb_5 231 rfl rfl
theorem q_1260 : (Jvm.Cond.selects "OneHandEachModel" ({ cls := "OneHandEachModel", name := "lot", desc := "(III)I" } : Jvm.MethodName) ({ cls := "OneHandEachModel", name := "lot", desc := "(III)I" } : Jvm.MethodName)) ∈ m_ws := tb_5 232 rfl rfl
theorem q_1261 : (Jvm.Cond.code ({ cls := "OneHandEachModel", name := "lot", desc := "(III)I" } : Jvm.MethodName) prog_14_method_58_code (13 : Nat) (Option.some Jvm.ClassFile.FieldType.int)) ∈ m_ws := tb_5 233 rfl rfl
theorem q_1262 : (Jvm.Cond.methodLink "OneHandEachModel" (298 : Nat) ({ cls := "OneHandEachModel", name := "draw", desc := "(I)I" } : Jvm.MethodName)) ∈ m_ws := tb_5 234 rfl rfl
theorem q_1264 : (Jvm.Cond.instanceMethod ({ cls := "OneHandEachModel", name := "draw", desc := "(I)I" } : Jvm.MethodName)) ∈ m_ws := tb_5 236 rfl rfl
theorem q_1265 : (Jvm.Cond.code ({ cls := "OneHandEachModel", name := "draw", desc := "(I)I" } : Jvm.MethodName) prog_14_method_56_code (2 : Nat) (Option.some Jvm.ClassFile.FieldType.int)) ∈ m_ws := tb_5 237 rfl rfl
theorem q_1266 : (Jvm.Cond.constant "OneHandEachModel" (297 : Nat) (1103515245 : Int32)) ∈ m_ws := tb_5 238 rfl rfl
theorem q_1267 : (Jvm.Cond.methodLink "OneHandEachModel" (301 : Nat) ({ cls := "OneHandEachModel", name := "walksSo", desc := "(III)Z" } : Jvm.MethodName)) ∈ m_ws := tb_5 239 rfl rfl
theorem q_1269 : (Jvm.Cond.instanceMethod ({ cls := "OneHandEachModel", name := "walksSo", desc := "(III)Z" } : Jvm.MethodName)) ∈ m_ws := tb_6 1 rfl rfl
theorem q_1270 : (Jvm.Cond.code ({ cls := "OneHandEachModel", name := "walksSo", desc := "(III)Z" } : Jvm.MethodName) prog_14_method_57_code (5 : Nat) (Option.some Jvm.ClassFile.FieldType.boolean)) ∈ m_ws := tb_6 2 rfl rfl
theorem q_1271 : (Jvm.Cond.methodLink "OneHandEachLaw" (84 : Nat) ({ cls := "OneHandEachModel", name := "guess", desc := "(II)I" } : Jvm.MethodName)) ∈ m_ws := tb_6 3 rfl rfl
theorem q_1272 : (Jvm.Cond.instanceMethod ({ cls := "OneHandEachModel", name := "guess", desc := "(II)I" } : Jvm.MethodName)) ∈ m_ws := tb_6 4 rfl rfl
theorem q_1273 : (Jvm.Cond.selects "OneHandEachModel" ({ cls := "OneHandEachModel", name := "guess", desc := "(II)I" } : Jvm.MethodName) ({ cls := "OneHandEachModel", name := "guess", desc := "(II)I" } : Jvm.MethodName)) ∈ m_ws := tb_6 5 rfl rfl
theorem q_1274 : (Jvm.Cond.code ({ cls := "OneHandEachModel", name := "guess", desc := "(II)I" } : Jvm.MethodName) prog_14_method_60_code (12 : Nat) (Option.some Jvm.ClassFile.FieldType.int)) ∈ m_ws := tb_6 6 rfl rfl
theorem q_1275 : (Jvm.Cond.methodLink "OneHandEachModel" (304 : Nat) ({ cls := "OneHandEachModel", name := "wrongBy", desc := "(III)I" } : Jvm.MethodName)) ∈ m_ws := tb_6 7 rfl rfl
theorem q_1277 : (Jvm.Cond.instanceMethod ({ cls := "OneHandEachModel", name := "wrongBy", desc := "(III)I" } : Jvm.MethodName)) ∈ m_ws := tb_6 9 rfl rfl
theorem q_1278 : (Jvm.Cond.code ({ cls := "OneHandEachModel", name := "wrongBy", desc := "(III)I" } : Jvm.MethodName) prog_14_method_59_code (6 : Nat) (Option.some Jvm.ClassFile.FieldType.int)) ∈ m_ws := tb_6 10 rfl rfl
theorem q_1279 : (Jvm.Cond.methodLink "OneHandEachLaw" (88 : Nat) ({ cls := "OneHandEachModel", name := "liars", desc := "(I)I" } : Jvm.MethodName)) ∈ m_ws := tb_6 11 rfl rfl
theorem q_1280 : (Jvm.Cond.instanceMethod ({ cls := "OneHandEachModel", name := "liars", desc := "(I)I" } : Jvm.MethodName)) ∈ m_ws := tb_6 12 rfl rfl
theorem q_1281 : (Jvm.Cond.selects "OneHandEachModel" ({ cls := "OneHandEachModel", name := "liars", desc := "(I)I" } : Jvm.MethodName) ({ cls := "OneHandEachModel", name := "liars", desc := "(I)I" } : Jvm.MethodName)) ∈ m_ws := tb_6 13 rfl rfl
theorem q_1282 : (Jvm.Cond.code ({ cls := "OneHandEachModel", name := "liars", desc := "(I)I" } : Jvm.MethodName) prog_14_method_61_code (6 : Nat) (Option.some Jvm.ClassFile.FieldType.int)) ∈ m_ws := tb_6 14 rfl rfl
theorem q_1283 : (Jvm.Cond.methodLink "OneHandEachModel" (307 : Nat) ({ cls := "OneHandEachModel", name := "bitsOf", desc := "(I)I" } : Jvm.MethodName)) ∈ m_ws := tb_6 15 rfl rfl
theorem q_1284 : (Jvm.Cond.static ({ cls := "OneHandEachModel", name := "bitsOf", desc := "(I)I" } : Jvm.MethodName)) ∈ m_ws := tb_6 16 rfl rfl
theorem q_1285 : (Jvm.Cond.code ({ cls := "OneHandEachModel", name := "bitsOf", desc := "(I)I" } : Jvm.MethodName) prog_14_method_4_code (3 : Nat) (Option.some Jvm.ClassFile.FieldType.int)) ∈ m_ws := tb_6 17 rfl rfl
theorem q_1286 : (Jvm.Cond.methodLink "OneHandEachLaw" (92 : Nat) ({ cls := "OneHandEachModel", name := "agree", desc := "(III)I" } : Jvm.MethodName)) ∈ m_ws := tb_6 18 rfl rfl
theorem q_1287 : (Jvm.Cond.instanceMethod ({ cls := "OneHandEachModel", name := "agree", desc := "(III)I" } : Jvm.MethodName)) ∈ m_ws := tb_6 19 rfl rfl
theorem q_1288 : (Jvm.Cond.selects "OneHandEachModel" ({ cls := "OneHandEachModel", name := "agree", desc := "(III)I" } : Jvm.MethodName) ({ cls := "OneHandEachModel", name := "agree", desc := "(III)I" } : Jvm.MethodName)) ∈ m_ws := tb_6 20 rfl rfl
theorem q_1289 : (Jvm.Cond.code ({ cls := "OneHandEachModel", name := "agree", desc := "(III)I" } : Jvm.MethodName) prog_14_method_62_code (7 : Nat) (Option.some Jvm.ClassFile.FieldType.int)) ∈ m_ws := tb_6 21 rfl rfl
theorem q_1290 : (Jvm.Cond.methodLink "OneHandEachLaw" (96 : Nat) ({ cls := "OneHandEachModel", name := "meet", desc := "(III)I" } : Jvm.MethodName)) ∈ m_ws := tb_6 22 rfl rfl
theorem q_1291 : (Jvm.Cond.instanceMethod ({ cls := "OneHandEachModel", name := "meet", desc := "(III)I" } : Jvm.MethodName)) ∈ m_ws := tb_6 23 rfl rfl
theorem q_1292 : (Jvm.Cond.selects "OneHandEachModel" ({ cls := "OneHandEachModel", name := "meet", desc := "(III)I" } : Jvm.MethodName) ({ cls := "OneHandEachModel", name := "meet", desc := "(III)I" } : Jvm.MethodName)) ∈ m_ws := tb_6 24 rfl rfl
theorem q_1293 : (Jvm.Cond.code ({ cls := "OneHandEachModel", name := "meet", desc := "(III)I" } : Jvm.MethodName) prog_14_method_64_code (6 : Nat) (Option.some Jvm.ClassFile.FieldType.int)) ∈ m_ws := tb_6 25 rfl rfl
theorem q_1294 : (Jvm.Cond.methodLink "OneHandEachModel" (310 : Nat) ({ cls := "OneHandEachModel", name := "meets", desc := "(III)I" } : Jvm.MethodName)) ∈ m_ws := tb_6 26 rfl rfl
theorem q_1296 : (Jvm.Cond.instanceMethod ({ cls := "OneHandEachModel", name := "meets", desc := "(III)I" } : Jvm.MethodName)) ∈ m_ws := tb_6 28 rfl rfl
theorem q_1297 : (Jvm.Cond.code ({ cls := "OneHandEachModel", name := "meets", desc := "(III)I" } : Jvm.MethodName) prog_14_method_63_code (5 : Nat) (Option.some Jvm.ClassFile.FieldType.int)) ∈ m_ws := tb_6 29 rfl rfl
theorem q_1298 : (Jvm.Cond.methodLink "OneHandEachLaw" (100 : Nat) ({ cls := "OneHandEachModel", name := "round", desc := "(II)I" } : Jvm.MethodName)) ∈ m_ws := tb_6 30 rfl rfl
theorem q_1299 : (Jvm.Cond.instanceMethod ({ cls := "OneHandEachModel", name := "round", desc := "(II)I" } : Jvm.MethodName)) ∈ m_ws := tb_6 31 rfl rfl
theorem q_1300 : (Jvm.Cond.selects "OneHandEachModel" ({ cls := "OneHandEachModel", name := "round", desc := "(II)I" } : Jvm.MethodName) ({ cls := "OneHandEachModel", name := "round", desc := "(II)I" } : Jvm.MethodName)) ∈ m_ws := tb_6 32 rfl rfl
theorem q_1301 : (Jvm.Cond.code ({ cls := "OneHandEachModel", name := "round", desc := "(II)I" } : Jvm.MethodName) prog_14_method_65_code (6 : Nat) (Option.some Jvm.ClassFile.FieldType.int)) ∈ m_ws := tb_6 33 rfl rfl
theorem q_1302 : (Jvm.Cond.methodLink "OneHandEachLaw" (104 : Nat) ({ cls := "OneHandEachModel", name := "set", desc := "(II)I" } : Jvm.MethodName)) ∈ m_ws := tb_6 34 rfl rfl
theorem q_1303 : (Jvm.Cond.instanceMethod ({ cls := "OneHandEachModel", name := "set", desc := "(II)I" } : Jvm.MethodName)) ∈ m_ws := tb_6 35 rfl rfl
theorem q_1304 : (Jvm.Cond.selects "OneHandEachModel" ({ cls := "OneHandEachModel", name := "set", desc := "(II)I" } : Jvm.MethodName) ({ cls := "OneHandEachModel", name := "set", desc := "(II)I" } : Jvm.MethodName)) ∈ m_ws := tb_6 36 rfl rfl
theorem q_1305 : (Jvm.Cond.code ({ cls := "OneHandEachModel", name := "set", desc := "(II)I" } : Jvm.MethodName) prog_14_method_66_code (4 : Nat) (Option.some Jvm.ClassFile.FieldType.int)) ∈ m_ws := tb_6 37 rfl rfl
theorem q_1306 : (Jvm.Cond.methodLink "OneHandEachLaw" (108 : Nat) ({ cls := "OneHandEachModel", name := "led", desc := "(II)I" } : Jvm.MethodName)) ∈ m_ws := tb_6 38 rfl rfl
theorem q_1307 : (Jvm.Cond.instanceMethod ({ cls := "OneHandEachModel", name := "led", desc := "(II)I" } : Jvm.MethodName)) ∈ m_ws := tb_6 39 rfl rfl
theorem q_1308 : (Jvm.Cond.selects "OneHandEachModel" ({ cls := "OneHandEachModel", name := "led", desc := "(II)I" } : Jvm.MethodName) ({ cls := "OneHandEachModel", name := "led", desc := "(II)I" } : Jvm.MethodName)) ∈ m_ws := tb_6 40 rfl rfl
theorem q_1309 : (Jvm.Cond.code ({ cls := "OneHandEachModel", name := "led", desc := "(II)I" } : Jvm.MethodName) prog_14_method_67_code (3 : Nat) (Option.some Jvm.ClassFile.FieldType.int)) ∈ m_ws := tb_6 41 rfl rfl
theorem q_1310 : (Jvm.Cond.methodLink "OneHandEachLaw" (112 : Nat) ({ cls := "OneHandEachModel", name := "judge", desc := "(I)I" } : Jvm.MethodName)) ∈ m_ws := tb_6 42 rfl rfl
theorem q_1311 : (Jvm.Cond.instanceMethod ({ cls := "OneHandEachModel", name := "judge", desc := "(I)I" } : Jvm.MethodName)) ∈ m_ws := tb_6 43 rfl rfl
theorem q_1312 : (Jvm.Cond.selects "OneHandEachModel" ({ cls := "OneHandEachModel", name := "judge", desc := "(I)I" } : Jvm.MethodName) ({ cls := "OneHandEachModel", name := "judge", desc := "(I)I" } : Jvm.MethodName)) ∈ m_ws := tb_6 44 rfl rfl
theorem q_1313 : (Jvm.Cond.code ({ cls := "OneHandEachModel", name := "judge", desc := "(I)I" } : Jvm.MethodName) prog_14_method_68_code (6 : Nat) (Option.some Jvm.ClassFile.FieldType.int)) ∈ m_ws := tb_6 45 rfl rfl
theorem q_1314 : (Jvm.Cond.methodLink "OneHandEachLaw" (116 : Nat) ({ cls := "OneHandEachModel", name := "image", desc := "()I" } : Jvm.MethodName)) ∈ m_ws := tb_6 46 rfl rfl
theorem q_1315 : (Jvm.Cond.instanceMethod ({ cls := "OneHandEachModel", name := "image", desc := "()I" } : Jvm.MethodName)) ∈ m_ws := tb_6 47 rfl rfl
theorem q_1316 : (Jvm.Cond.selects "OneHandEachModel" ({ cls := "OneHandEachModel", name := "image", desc := "()I" } : Jvm.MethodName) ({ cls := "OneHandEachModel", name := "image", desc := "()I" } : Jvm.MethodName)) ∈ m_ws := tb_6 48 rfl rfl
theorem q_1317 : (Jvm.Cond.code ({ cls := "OneHandEachModel", name := "image", desc := "()I" } : Jvm.MethodName) prog_14_method_69_code (2 : Nat) (Option.some Jvm.ClassFile.FieldType.int)) ∈ m_ws := tb_6 49 rfl rfl
theorem q_1318 : (Jvm.Cond.methodLink "OneHandEachLaw" (120 : Nat) ({ cls := "OneHandEachModel", name := "back", desc := "()I" } : Jvm.MethodName)) ∈ m_ws := tb_6 50 rfl rfl
theorem q_1319 : (Jvm.Cond.instanceMethod ({ cls := "OneHandEachModel", name := "back", desc := "()I" } : Jvm.MethodName)) ∈ m_ws := tb_6 51 rfl rfl
theorem q_1320 : (Jvm.Cond.selects "OneHandEachModel" ({ cls := "OneHandEachModel", name := "back", desc := "()I" } : Jvm.MethodName) ({ cls := "OneHandEachModel", name := "back", desc := "()I" } : Jvm.MethodName)) ∈ m_ws := tb_6 52 rfl rfl
theorem q_1321 : (Jvm.Cond.code ({ cls := "OneHandEachModel", name := "back", desc := "()I" } : Jvm.MethodName) prog_14_method_70_code (2 : Nat) (Option.some Jvm.ClassFile.FieldType.int)) ∈ m_ws := tb_6 53 rfl rfl
theorem q_1322 : (Jvm.Cond.methodLink "OneHandEachLaw" (140 : Nat) ({ cls := "OneHandEachModel", name := "trace", desc := "(I)I" } : Jvm.MethodName)) ∈ m_ws := tb_6 54 rfl rfl
theorem q_1323 : (Jvm.Cond.instanceMethod ({ cls := "OneHandEachModel", name := "trace", desc := "(I)I" } : Jvm.MethodName)) ∈ m_ws := tb_6 55 rfl rfl
theorem q_1324 : (Jvm.Cond.selects "OneHandEachModel" ({ cls := "OneHandEachModel", name := "trace", desc := "(I)I" } : Jvm.MethodName) ({ cls := "OneHandEachModel", name := "trace", desc := "(I)I" } : Jvm.MethodName)) ∈ m_ws := tb_6 56 rfl rfl
theorem q_1325 : (Jvm.Cond.code ({ cls := "OneHandEachModel", name := "trace", desc := "(I)I" } : Jvm.MethodName) prog_14_method_73_code (2 : Nat) (Option.some Jvm.ClassFile.FieldType.int)) ∈ m_ws := tb_6 57 rfl rfl
theorem q_1326 : (Jvm.Cond.methodLink "OneHandEachLaw" (132 : Nat) ({ cls := "OneHandEachModel", name := "body", desc := "(I)I" } : Jvm.MethodName)) ∈ m_ws := tb_6 58 rfl rfl
theorem q_1327 : (Jvm.Cond.instanceMethod ({ cls := "OneHandEachModel", name := "body", desc := "(I)I" } : Jvm.MethodName)) ∈ m_ws := tb_6 59 rfl rfl
theorem q_1328 : (Jvm.Cond.selects "OneHandEachModel" ({ cls := "OneHandEachModel", name := "body", desc := "(I)I" } : Jvm.MethodName) ({ cls := "OneHandEachModel", name := "body", desc := "(I)I" } : Jvm.MethodName)) ∈ m_ws := tb_6 60 rfl rfl
theorem q_1329 : (Jvm.Cond.code ({ cls := "OneHandEachModel", name := "body", desc := "(I)I" } : Jvm.MethodName) prog_14_method_74_code (2 : Nat) (Option.some Jvm.ClassFile.FieldType.int)) ∈ m_ws := tb_6 61 rfl rfl
theorem q_1330 : (Jvm.Cond.methodLink "OneHandEachLaw" (136 : Nat) ({ cls := "OneHandEachModel", name := "act", desc := "(III)I" } : Jvm.MethodName)) ∈ m_ws := tb_6 62 rfl rfl
theorem q_1331 : (Jvm.Cond.instanceMethod ({ cls := "OneHandEachModel", name := "act", desc := "(III)I" } : Jvm.MethodName)) ∈ m_ws := tb_6 63 rfl rfl
theorem q_1332 : (Jvm.Cond.selects "OneHandEachModel" ({ cls := "OneHandEachModel", name := "act", desc := "(III)I" } : Jvm.MethodName) ({ cls := "OneHandEachModel", name := "act", desc := "(III)I" } : Jvm.MethodName)) ∈ m_ws := tb_6 64 rfl rfl
theorem q_1333 : (Jvm.Cond.code ({ cls := "OneHandEachModel", name := "act", desc := "(III)I" } : Jvm.MethodName) prog_14_method_87_code (4 : Nat) (Option.some Jvm.ClassFile.FieldType.int)) ∈ m_ws := tb_6 65 rfl rfl
theorem q_1334 : (Jvm.Cond.methodLink "OneHandEachModel" (364 : Nat) ({ cls := "OneHandEachModel", name := "isBody", desc := "(I)Z" } : Jvm.MethodName)) ∈ m_ws := tb_6 66 rfl rfl
theorem q_1336 : (Jvm.Cond.instanceMethod ({ cls := "OneHandEachModel", name := "isBody", desc := "(I)Z" } : Jvm.MethodName)) ∈ m_ws := tb_6 68 rfl rfl
theorem q_1337 : (Jvm.Cond.code ({ cls := "OneHandEachModel", name := "isBody", desc := "(I)Z" } : Jvm.MethodName) prog_14_method_71_code (2 : Nat) (Option.some Jvm.ClassFile.FieldType.boolean)) ∈ m_ws := tb_6 69 rfl rfl
theorem q_1338 : (Jvm.Cond.methodLink "OneHandEachModel" (340 : Nat) ({ cls := "OneHandEachModel", name := "showing", desc := "(II)I" } : Jvm.MethodName)) ∈ m_ws := tb_6 70 rfl rfl
theorem q_1340 : (Jvm.Cond.instanceMethod ({ cls := "OneHandEachModel", name := "showing", desc := "(II)I" } : Jvm.MethodName)) ∈ m_ws := tb_6 72 rfl rfl
theorem q_1341 : (Jvm.Cond.code ({ cls := "OneHandEachModel", name := "showing", desc := "(II)I" } : Jvm.MethodName) prog_14_method_78_code (3 : Nat) (Option.some Jvm.ClassFile.FieldType.int)) ∈ m_ws := tb_6 73 rfl rfl
theorem q_1342 : (Jvm.Cond.methodLink "OneHandEachModel" (334 : Nat) ({ cls := "OneHandEachModel", name := "isUnder", desc := "(II)Z" } : Jvm.MethodName)) ∈ m_ws := tb_6 74 rfl rfl
theorem q_1343 : (Jvm.Cond.static ({ cls := "OneHandEachModel", name := "isUnder", desc := "(II)Z" } : Jvm.MethodName)) ∈ m_ws := tb_6 75 rfl rfl
theorem q_1344 : (Jvm.Cond.code ({ cls := "OneHandEachModel", name := "isUnder", desc := "(II)Z" } : Jvm.MethodName) prog_14_method_75_code (2 : Nat) (Option.some Jvm.ClassFile.FieldType.boolean)) ∈ m_ws := tb_6 76 rfl rfl
theorem q_1345 : (Jvm.Cond.methodLink "OneHandEachModel" (328 : Nat) ({ cls := "OneHandEachModel", name := "ran", desc := "(I)V" } : Jvm.MethodName)) ∈ m_ws := tb_6 77 rfl rfl
theorem q_1347 : (Jvm.Cond.instanceMethod ({ cls := "OneHandEachModel", name := "ran", desc := "(I)V" } : Jvm.MethodName)) ∈ m_ws := tb_6 79 rfl rfl
theorem q_1348 : (Jvm.Cond.code ({ cls := "OneHandEachModel", name := "ran", desc := "(I)V" } : Jvm.MethodName) prog_14_method_72_code (2 : Nat) (Option.none : Option Jvm.ClassFile.FieldType)) ∈ m_ws := tb_6 80 rfl rfl
theorem q_1349 : (Jvm.Cond.methodLink "OneHandEachModel" (331 : Nat) ({ cls := "OneHandEachModel", name := "plainShows", desc := "(II)I" } : Jvm.MethodName)) ∈ m_ws := tb_6 81 rfl rfl
theorem q_1351 : (Jvm.Cond.instanceMethod ({ cls := "OneHandEachModel", name := "plainShows", desc := "(II)I" } : Jvm.MethodName)) ∈ m_ws := tb_6 83 rfl rfl
theorem q_1352 : (Jvm.Cond.code ({ cls := "OneHandEachModel", name := "plainShows", desc := "(II)I" } : Jvm.MethodName) prog_14_method_76_code (3 : Nat) (Option.some Jvm.ClassFile.FieldType.int)) ∈ m_ws := tb_6 84 rfl rfl
theorem q_1353 : (Jvm.Cond.methodLink "OneHandEachModel" (337 : Nat) ({ cls := "OneHandEachModel", name := "boyShows", desc := "(II)I" } : Jvm.MethodName)) ∈ m_ws := tb_6 85 rfl rfl
theorem q_1355 : (Jvm.Cond.instanceMethod ({ cls := "OneHandEachModel", name := "boyShows", desc := "(II)I" } : Jvm.MethodName)) ∈ m_ws := tb_6 87 rfl rfl
theorem q_1356 : (Jvm.Cond.code ({ cls := "OneHandEachModel", name := "boyShows", desc := "(II)I" } : Jvm.MethodName) prog_14_method_77_code (3 : Nat) (Option.some Jvm.ClassFile.FieldType.int)) ∈ m_ws := tb_6 88 rfl rfl
theorem q_1357 : (Jvm.Cond.methodLink "OneHandEachModel" (358 : Nat) ({ cls := "OneHandEachModel", name := "parting", desc := "(II)I" } : Jvm.MethodName)) ∈ m_ws := tb_6 89 rfl rfl
theorem q_1359 : (Jvm.Cond.instanceMethod ({ cls := "OneHandEachModel", name := "parting", desc := "(II)I" } : Jvm.MethodName)) ∈ m_ws := tb_6 91 rfl rfl
theorem q_1360 : (Jvm.Cond.code ({ cls := "OneHandEachModel", name := "parting", desc := "(II)I" } : Jvm.MethodName) prog_14_method_81_code (4 : Nat) (Option.some Jvm.ClassFile.FieldType.int)) ∈ m_ws := tb_6 92 rfl rfl
theorem q_1361 : (Jvm.Cond.methodLink "OneHandEachModel" (346 : Nat) ({ cls := "OneHandEachModel", name := "hillParts", desc := "(II)I" } : Jvm.MethodName)) ∈ m_ws := tb_6 93 rfl rfl
theorem q_1363 : (Jvm.Cond.instanceMethod ({ cls := "OneHandEachModel", name := "hillParts", desc := "(II)I" } : Jvm.MethodName)) ∈ m_ws := tb_6 95 rfl rfl
theorem q_1364 : (Jvm.Cond.code ({ cls := "OneHandEachModel", name := "hillParts", desc := "(II)I" } : Jvm.MethodName) prog_14_method_80_code (3 : Nat) (Option.some Jvm.ClassFile.FieldType.int)) ∈ m_ws := tb_6 96 rfl rfl
theorem q_1365 : (Jvm.Cond.methodLink "OneHandEachModel" (343 : Nat) ({ cls := "OneHandEachModel", name := "plainParts", desc := "(II)I" } : Jvm.MethodName)) ∈ m_ws := tb_6 97 rfl rfl
theorem q_1367 : (Jvm.Cond.instanceMethod ({ cls := "OneHandEachModel", name := "plainParts", desc := "(II)I" } : Jvm.MethodName)) ∈ m_ws := tb_6 99 rfl rfl
theorem q_1368 : (Jvm.Cond.code ({ cls := "OneHandEachModel", name := "plainParts", desc := "(II)I" } : Jvm.MethodName) prog_14_method_79_code (3 : Nat) (Option.some Jvm.ClassFile.FieldType.int)) ∈ m_ws := tb_6 100 rfl rfl
theorem q_1369 : (Jvm.Cond.methodLink "OneHandEachModel" (349 : Nat) ({ cls := "OneHandEachModel", name := "walking", desc := "(II)I" } : Jvm.MethodName)) ∈ m_ws := tb_6 101 rfl rfl
theorem q_1371 : (Jvm.Cond.instanceMethod ({ cls := "OneHandEachModel", name := "walking", desc := "(II)I" } : Jvm.MethodName)) ∈ m_ws := tb_6 103 rfl rfl
theorem q_1372 : (Jvm.Cond.code ({ cls := "OneHandEachModel", name := "walking", desc := "(II)I" } : Jvm.MethodName) prog_14_method_84_code (4 : Nat) (Option.some Jvm.ClassFile.FieldType.int)) ∈ m_ws := tb_6 104 rfl rfl
theorem q_1373 : (Jvm.Cond.methodLink "OneHandEachModel" (355 : Nat) ({ cls := "OneHandEachModel", name := "fogWalks", desc := "(II)I" } : Jvm.MethodName)) ∈ m_ws := tb_6 105 rfl rfl
theorem q_1375 : (Jvm.Cond.instanceMethod ({ cls := "OneHandEachModel", name := "fogWalks", desc := "(II)I" } : Jvm.MethodName)) ∈ m_ws := tb_6 107 rfl rfl
theorem q_1376 : (Jvm.Cond.code ({ cls := "OneHandEachModel", name := "fogWalks", desc := "(II)I" } : Jvm.MethodName) prog_14_method_83_code (3 : Nat) (Option.some Jvm.ClassFile.FieldType.int)) ∈ m_ws := tb_6 108 rfl rfl
theorem q_1377 : (Jvm.Cond.methodLink "OneHandEachModel" (352 : Nat) ({ cls := "OneHandEachModel", name := "plainWalks", desc := "(II)I" } : Jvm.MethodName)) ∈ m_ws := tb_6 109 rfl rfl
theorem q_1379 : (Jvm.Cond.instanceMethod ({ cls := "OneHandEachModel", name := "plainWalks", desc := "(II)I" } : Jvm.MethodName)) ∈ m_ws := tb_6 111 rfl rfl
theorem q_1380 : (Jvm.Cond.code ({ cls := "OneHandEachModel", name := "plainWalks", desc := "(II)I" } : Jvm.MethodName) prog_14_method_82_code (3 : Nat) (Option.some Jvm.ClassFile.FieldType.int)) ∈ m_ws := tb_6 112 rfl rfl
theorem q_1381 : (Jvm.Cond.methodLink "OneHandEachModel" (367 : Nat) ({ cls := "OneHandEachModel", name := "telling", desc := "(II)I" } : Jvm.MethodName)) ∈ m_ws := tb_6 113 rfl rfl
theorem q_1383 : (Jvm.Cond.instanceMethod ({ cls := "OneHandEachModel", name := "telling", desc := "(II)I" } : Jvm.MethodName)) ∈ m_ws := tb_6 115 rfl rfl
theorem q_1384 : (Jvm.Cond.code ({ cls := "OneHandEachModel", name := "telling", desc := "(II)I" } : Jvm.MethodName) prog_14_method_86_code (3 : Nat) (Option.some Jvm.ClassFile.FieldType.int)) ∈ m_ws := tb_6 116 rfl rfl
theorem q_1385 : (Jvm.Cond.methodLink "OneHandEachModel" (361 : Nat) ({ cls := "OneHandEachModel", name := "plainTells", desc := "(II)I" } : Jvm.MethodName)) ∈ m_ws := tb_6 117 rfl rfl
theorem q_1387 : (Jvm.Cond.instanceMethod ({ cls := "OneHandEachModel", name := "plainTells", desc := "(II)I" } : Jvm.MethodName)) ∈ m_ws := tb_6 119 rfl rfl
theorem q_1388 : (Jvm.Cond.code ({ cls := "OneHandEachModel", name := "plainTells", desc := "(II)I" } : Jvm.MethodName) prog_14_method_85_code (4 : Nat) (Option.some Jvm.ClassFile.FieldType.int)) ∈ m_ws := tb_6 120 rfl rfl
theorem q_1389 : (Jvm.Cond.methodLink "OneHandEachLaw" (173 : Nat) ({ cls := "OneHandEachModel", name := "count", desc := "(I)I" } : Jvm.MethodName)) ∈ m_ws := tb_6 121 rfl rfl
theorem q_1390 : (Jvm.Cond.instanceMethod ({ cls := "OneHandEachModel", name := "count", desc := "(I)I" } : Jvm.MethodName)) ∈ m_ws := tb_6 122 rfl rfl
theorem q_1391 : (Jvm.Cond.selects "OneHandEachModel" ({ cls := "OneHandEachModel", name := "count", desc := "(I)I" } : Jvm.MethodName) ({ cls := "OneHandEachModel", name := "count", desc := "(I)I" } : Jvm.MethodName)) ∈ m_ws := tb_6 123 rfl rfl
theorem q_1392 : (Jvm.Cond.code ({ cls := "OneHandEachModel", name := "count", desc := "(I)I" } : Jvm.MethodName) prog_14_method_88_code (2 : Nat) (Option.some Jvm.ClassFile.FieldType.int)) ∈ m_ws := tb_6 124 rfl rfl
theorem q_1393 : (Jvm.Cond.methodLink "OneHandEachLaw" (144 : Nat) ({ cls := "OneHandEachModel", name := "keep", desc := "(II)I" } : Jvm.MethodName)) ∈ m_ws := tb_6 125 rfl rfl
theorem q_1394 : (Jvm.Cond.instanceMethod ({ cls := "OneHandEachModel", name := "keep", desc := "(II)I" } : Jvm.MethodName)) ∈ m_ws := tb_6 126 rfl rfl
theorem q_1395 : (Jvm.Cond.selects "OneHandEachModel" ({ cls := "OneHandEachModel", name := "keep", desc := "(II)I" } : Jvm.MethodName) ({ cls := "OneHandEachModel", name := "keep", desc := "(II)I" } : Jvm.MethodName)) ∈ m_ws := tb_6 127 rfl rfl
theorem q_1396 : (Jvm.Cond.code ({ cls := "OneHandEachModel", name := "keep", desc := "(II)I" } : Jvm.MethodName) prog_14_method_90_code (3 : Nat) (Option.some Jvm.ClassFile.FieldType.int)) ∈ m_ws := tb_6 128 rfl rfl
theorem q_1397 : (Jvm.Cond.methodLink "OneHandEachLaw" (148 : Nat) ({ cls := "OneHandEachModel", name := "row", desc := "(III)I" } : Jvm.MethodName)) ∈ m_ws := tb_6 129 rfl rfl
theorem q_1398 : (Jvm.Cond.instanceMethod ({ cls := "OneHandEachModel", name := "row", desc := "(III)I" } : Jvm.MethodName)) ∈ m_ws := tb_6 130 rfl rfl
theorem q_1399 : (Jvm.Cond.selects "OneHandEachModel" ({ cls := "OneHandEachModel", name := "row", desc := "(III)I" } : Jvm.MethodName) ({ cls := "OneHandEachModel", name := "row", desc := "(III)I" } : Jvm.MethodName)) ∈ m_ws := tb_6 131 rfl rfl
theorem q_1400 : (Jvm.Cond.code ({ cls := "OneHandEachModel", name := "row", desc := "(III)I" } : Jvm.MethodName) prog_14_method_91_code (5 : Nat) (Option.some Jvm.ClassFile.FieldType.int)) ∈ m_ws := tb_6 132 rfl rfl
theorem q_1401 : (Jvm.Cond.methodLink "OneHandEachLaw" (155 : Nat) ({ cls := "OneHandEachModel", name := "put", desc := "(IIJ)I" } : Jvm.MethodName)) ∈ m_ws := tb_6 133 rfl rfl
theorem q_1402 : (Jvm.Cond.instanceMethod ({ cls := "OneHandEachModel", name := "put", desc := "(IIJ)I" } : Jvm.MethodName)) ∈ m_ws := tb_6 134 rfl rfl
theorem q_1403 : (Jvm.Cond.selects "OneHandEachModel" ({ cls := "OneHandEachModel", name := "put", desc := "(IIJ)I" } : Jvm.MethodName) ({ cls := "OneHandEachModel", name := "put", desc := "(IIJ)I" } : Jvm.MethodName)) ∈ m_ws := tb_6 135 rfl rfl
theorem q_1404 : (Jvm.Cond.code ({ cls := "OneHandEachModel", name := "put", desc := "(IIJ)I" } : Jvm.MethodName) prog_14_method_93_code (7 : Nat) (Option.some Jvm.ClassFile.FieldType.int)) ∈ m_ws := tb_6 136 rfl rfl
theorem q_1405 : (Jvm.Cond.methodLink "OneHandEachModel" (370 : Nat) ({ cls := "OneHandEachModel", name := "whyNoPlace", desc := "(II)I" } : Jvm.MethodName)) ∈ m_ws := tb_6 137 rfl rfl
theorem q_1407 : (Jvm.Cond.instanceMethod ({ cls := "OneHandEachModel", name := "whyNoPlace", desc := "(II)I" } : Jvm.MethodName)) ∈ m_ws := tb_6 139 rfl rfl
theorem q_1408 : (Jvm.Cond.code ({ cls := "OneHandEachModel", name := "whyNoPlace", desc := "(II)I" } : Jvm.MethodName) prog_14_method_92_code (3 : Nat) (Option.some Jvm.ClassFile.FieldType.int)) ∈ m_ws := tb_6 140 rfl rfl
theorem q_1409 : (Jvm.Cond.methodLink "OneHandEachLaw" (160 : Nat) ({ cls := "OneHandEachModel", name := "element", desc := "(II)J" } : Jvm.MethodName)) ∈ m_ws := tb_6 141 rfl rfl
theorem q_1410 : (Jvm.Cond.instanceMethod ({ cls := "OneHandEachModel", name := "element", desc := "(II)J" } : Jvm.MethodName)) ∈ m_ws := tb_6 142 rfl rfl
theorem q_1411 : (Jvm.Cond.selects "OneHandEachModel" ({ cls := "OneHandEachModel", name := "element", desc := "(II)J" } : Jvm.MethodName) ({ cls := "OneHandEachModel", name := "element", desc := "(II)J" } : Jvm.MethodName)) ∈ m_ws := tb_6 143 rfl rfl
theorem q_1412 : (Jvm.Cond.code ({ cls := "OneHandEachModel", name := "element", desc := "(II)J" } : Jvm.MethodName) prog_14_method_94_code (3 : Nat) (Option.some Jvm.ClassFile.FieldType.long)) ∈ m_ws := tb_6 144 rfl rfl
theorem q_1413 : (Jvm.Cond.constantLong "OneHandEachModel" (375 : Nat) (-9223372036854775808 : Int64)) ∈ m_ws := tb_6 145 rfl rfl
theorem q_1414 : (Jvm.Cond.methodLink "OneHandEachLaw" (165 : Nat) ({ cls := "OneHandEachModel", name := "shift", desc := "(IIIII)I" } : Jvm.MethodName)) ∈ m_ws := tb_6 146 rfl rfl
theorem q_1415 : (Jvm.Cond.instanceMethod ({ cls := "OneHandEachModel", name := "shift", desc := "(IIIII)I" } : Jvm.MethodName)) ∈ m_ws := tb_6 147 rfl rfl
theorem q_1416 : (Jvm.Cond.selects "OneHandEachModel" ({ cls := "OneHandEachModel", name := "shift", desc := "(IIIII)I" } : Jvm.MethodName) ({ cls := "OneHandEachModel", name := "shift", desc := "(IIIII)I" } : Jvm.MethodName)) ∈ m_ws := tb_6 148 rfl rfl
theorem q_1417 : (Jvm.Cond.code ({ cls := "OneHandEachModel", name := "shift", desc := "(IIIII)I" } : Jvm.MethodName) prog_14_method_95_code (7 : Nat) (Option.some Jvm.ClassFile.FieldType.int)) ∈ m_ws := tb_6 149 rfl rfl
theorem q_1418 : (Jvm.Cond.methodLink "OneHandEachLaw" (169 : Nat) ({ cls := "OneHandEachModel", name := "taken", desc := "(II)I" } : Jvm.MethodName)) ∈ m_ws := tb_6 150 rfl rfl
theorem q_1419 : (Jvm.Cond.instanceMethod ({ cls := "OneHandEachModel", name := "taken", desc := "(II)I" } : Jvm.MethodName)) ∈ m_ws := tb_6 151 rfl rfl
theorem q_1420 : (Jvm.Cond.selects "OneHandEachModel" ({ cls := "OneHandEachModel", name := "taken", desc := "(II)I" } : Jvm.MethodName) ({ cls := "OneHandEachModel", name := "taken", desc := "(II)I" } : Jvm.MethodName)) ∈ m_ws := tb_6 152 rfl rfl
theorem q_1421 : (Jvm.Cond.code ({ cls := "OneHandEachModel", name := "taken", desc := "(II)I" } : Jvm.MethodName) prog_14_method_96_code (3 : Nat) (Option.some Jvm.ClassFile.FieldType.int)) ∈ m_ws := tb_6 153 rfl rfl
theorem q_1422 : (Jvm.Cond.constantLong "OneHandEachLaw" (149 : Nat) (4294967295 : Int64)) ∈ m_ws := tb_6 154 rfl rfl
theorem q_0 : Cond.selects "OneHandEach$Changes" ⟨"OneHandEach$Changes", "dropEldest", "()V"⟩ ⟨"OneHandEach$Changes", "dropEldest", "()V"⟩ ∈ m_ws := m_at 0 rfl rfl
theorem q_1 : Cond.selects "OneHandEach$Reader" ⟨"OneHandEach$Reader", "line", "()V"⟩ ⟨"OneHandEach$Reader", "line", "()V"⟩ ∈ m_ws := m_at 1 rfl rfl
theorem q_2 : Cond.selects "OneHandEach$Reader" ⟨"OneHandEach$Reader", "joined", "(II)V"⟩ ⟨"OneHandEach$Reader", "joined", "(II)V"⟩ ∈ m_ws := m_at 2 rfl rfl
theorem q_3 : Cond.selects "OneHandEach$Reader" ⟨"OneHandEach$Reader", "operand", "(I)V"⟩ ⟨"OneHandEach$Reader", "operand", "(I)V"⟩ ∈ m_ws := m_at 3 rfl rfl
theorem q_4 : Cond.selects "OneHandEach$Reader" ⟨"OneHandEach$Reader", "here", "()I"⟩ ⟨"OneHandEach$Reader", "here", "()I"⟩ ∈ m_ws := m_at 4 rfl rfl
theorem q_5 : Cond.selects "OneHandEach$Reader" ⟨"OneHandEach$Reader", "number", "()V"⟩ ⟨"OneHandEach$Reader", "number", "()V"⟩ ∈ m_ws := m_at 5 rfl rfl
theorem q_6 : Cond.selects "OneHandEach$Reader" ⟨"OneHandEach$Reader", "close", "()V"⟩ ⟨"OneHandEach$Reader", "close", "()V"⟩ ∈ m_ws := m_at 6 rfl rfl
theorem q_7 : Cond.selects "OneHandEach$Reader" ⟨"OneHandEach$Reader", "takes", "(I)Z"⟩ ⟨"OneHandEach$Reader", "takes", "(I)Z"⟩ ∈ m_ws := m_at 7 rfl rfl
theorem q_8 : Cond.selects "OneHandEach" ⟨"OneHandEach", "weightOf", "(I)I"⟩ ⟨"OneHandEach", "weightOf", "(I)I"⟩ ∈ m_ws := m_at 8 rfl rfl
theorem q_9 : Cond.selects "OneHandEach$Law" ⟨"OneHandEach$Law", "valueOf", "(III)I"⟩ ⟨"OneHandEach$Law", "valueOf", "(III)I"⟩ ∈ m_ws := m_at 9 rfl rfl
theorem q_10 : Cond.selects "OneHandEach$Law" ⟨"OneHandEach$Law", "push", "(II)I"⟩ ⟨"OneHandEach$Law", "push", "(II)I"⟩ ∈ m_ws := m_at 10 rfl rfl
theorem q_11 : Cond.selects "OneHandEach$Law" ⟨"OneHandEach$Law", "workOut", "(II)I"⟩ ⟨"OneHandEach$Law", "workOut", "(II)I"⟩ ∈ m_ws := m_at 11 rfl rfl
theorem q_12 : Cond.selects "OneHandEach$Entries" ⟨"OneHandEach$Entries", "lay", "(II)V"⟩ ⟨"OneHandEach$Entries", "lay", "(II)V"⟩ ∈ m_ws := m_at 12 rfl rfl
theorem q_13 : Cond.selects "OneHandEach" ⟨"OneHandEach", "sightsFrom", "(LOneHandEach$Shelf;II)I"⟩ ⟨"OneHandEach", "sightsFrom", "(LOneHandEach$Shelf;II)I"⟩ ∈ m_ws := m_at 13 rfl rfl
theorem q_14 : Cond.selects "OneHandEach$Fitting" ⟨"OneHandEach$Fitting", "startAnew", "()V"⟩ ⟨"OneHandEach$Fitting", "startAnew", "()V"⟩ ∈ m_ws := m_at 14 rfl rfl
theorem q_15 : Cond.selects "OneHandEach$Fitting" ⟨"OneHandEach$Fitting", "strike", "(LOneHandEach$Town;IIII)V"⟩ ⟨"OneHandEach$Fitting", "strike", "(LOneHandEach$Town;IIII)V"⟩ ∈ m_ws := m_at 15 rfl rfl
theorem q_16 : Cond.selects "OneHandEach" ⟨"OneHandEach", "weightOfFits", "(II)I"⟩ ⟨"OneHandEach", "weightOfFits", "(II)I"⟩ ∈ m_ws := m_at 16 rfl rfl
theorem q_17 : Cond.selects "OneHandEach$Guesses" ⟨"OneHandEach$Guesses", "note", "(II)V"⟩ ⟨"OneHandEach$Guesses", "note", "(II)V"⟩ ∈ m_ws := m_at 17 rfl rfl
theorem q_18 : Cond.selects "OneHandEach" ⟨"OneHandEach", "refusalOfRow", "(I)I"⟩ ⟨"OneHandEach", "refusalOfRow", "(I)I"⟩ ∈ m_ws := m_at 18 rfl rfl
theorem q_19 : Cond.selects "OneHandEach" ⟨"OneHandEach", "isSo", "(LOneHandEach$Shelf;I)Z"⟩ ⟨"OneHandEach", "isSo", "(LOneHandEach$Shelf;I)Z"⟩ ∈ m_ws := m_at 19 rfl rfl
theorem q_20 : Cond.selects "OneHandEach$Bodies" ⟨"OneHandEach$Bodies", "own", "(IIII)I"⟩ ⟨"OneHandEach$Bodies", "own", "(IIII)I"⟩ ∈ m_ws := m_at 20 rfl rfl
theorem q_21 : Cond.selects "OneHandEach$Bodies" ⟨"OneHandEach$Bodies", "from", "(IIIII)I"⟩ ⟨"OneHandEach$Bodies", "from", "(IIIII)I"⟩ ∈ m_ws := m_at 21 rfl rfl
theorem q_22 : Cond.selects "OneHandEach$Bodies" ⟨"OneHandEach$Bodies", "run", "(IIIII)I"⟩ ⟨"OneHandEach$Bodies", "run", "(IIIII)I"⟩ ∈ m_ws := m_at 22 rfl rfl
theorem q_23 : Cond.selects "OneHandEach" ⟨"OneHandEach", "refusalOfPlace", "(II)I"⟩ ⟨"OneHandEach", "refusalOfPlace", "(II)I"⟩ ∈ m_ws := m_at 23 rfl rfl
theorem q_24 : Cond.selects "OneHandEachModel" ⟨"OneHandEachModel", "show", "(II)I"⟩ ⟨"OneHandEachModel", "show", "(II)I"⟩ ∈ m_ws := m_at 24 rfl rfl
theorem q_25 : Cond.selects "OneHandEachModel" ⟨"OneHandEachModel", "partAt", "(II)I"⟩ ⟨"OneHandEachModel", "partAt", "(II)I"⟩ ∈ m_ws := m_at 25 rfl rfl
theorem q_26 : Cond.selects "OneHandEachModel" ⟨"OneHandEachModel", "lays", "(III)V"⟩ ⟨"OneHandEachModel", "lays", "(III)V"⟩ ∈ m_ws := m_at 26 rfl rfl
theorem q_27 : Cond.selects "OneHandEachModel" ⟨"OneHandEachModel", "changes", "(III)I"⟩ ⟨"OneHandEachModel", "changes", "(III)I"⟩ ∈ m_ws := m_at 27 rfl rfl
theorem q_28 : Cond.selects "OneHandEachModel" ⟨"OneHandEachModel", "valueAt", "(II)I"⟩ ⟨"OneHandEachModel", "valueAt", "(II)I"⟩ ∈ m_ws := m_at 28 rfl rfl
theorem q_29 : Cond.selects "OneHandEachModel" ⟨"OneHandEachModel", "addSight", "(IIII)I"⟩ ⟨"OneHandEachModel", "addSight", "(IIII)I"⟩ ∈ m_ws := m_at 29 rfl rfl
theorem q_30 : Cond.selects "OneHandEachModel" ⟨"OneHandEachModel", "readText", "(I)I"⟩ ⟨"OneHandEachModel", "readText", "(I)I"⟩ ∈ m_ws := m_at 30 rfl rfl
theorem q_31 : Cond.selects "OneHandEachModel" ⟨"OneHandEachModel", "line", "()V"⟩ ⟨"OneHandEachModel", "line", "()V"⟩ ∈ m_ws := m_at 31 rfl rfl
theorem q_32 : Cond.selects "OneHandEachModel" ⟨"OneHandEachModel", "either", "()V"⟩ ⟨"OneHandEachModel", "either", "()V"⟩ ∈ m_ws := m_at 32 rfl rfl
theorem q_33 : Cond.selects "OneHandEachModel" ⟨"OneHandEachModel", "both", "()V"⟩ ⟨"OneHandEachModel", "both", "()V"⟩ ∈ m_ws := m_at 33 rfl rfl
theorem q_34 : Cond.selects "OneHandEachModel" ⟨"OneHandEachModel", "compared", "()V"⟩ ⟨"OneHandEachModel", "compared", "()V"⟩ ∈ m_ws := m_at 34 rfl rfl
theorem q_35 : Cond.selects "OneHandEachModel" ⟨"OneHandEachModel", "sum", "()V"⟩ ⟨"OneHandEachModel", "sum", "()V"⟩ ∈ m_ws := m_at 35 rfl rfl
theorem q_36 : Cond.selects "OneHandEachModel" ⟨"OneHandEachModel", "product", "()V"⟩ ⟨"OneHandEachModel", "product", "()V"⟩ ∈ m_ws := m_at 36 rfl rfl
theorem q_37 : Cond.selects "OneHandEachModel" ⟨"OneHandEachModel", "operand", "()V"⟩ ⟨"OneHandEachModel", "operand", "()V"⟩ ∈ m_ws := m_at 37 rfl rfl
theorem q_38 : Cond.selects "OneHandEachModel" ⟨"OneHandEachModel", "look", "()I"⟩ ⟨"OneHandEachModel", "look", "()I"⟩ ∈ m_ws := m_at 38 rfl rfl
theorem q_39 : Cond.selects "OneHandEachModel" ⟨"OneHandEachModel", "addStep", "(II)V"⟩ ⟨"OneHandEachModel", "addStep", "(II)V"⟩ ∈ m_ws := m_at 39 rfl rfl
theorem q_40 : Cond.selects "OneHandEachModel" ⟨"OneHandEachModel", "opens", "()Z"⟩ ⟨"OneHandEachModel", "opens", "()Z"⟩ ∈ m_ws := m_at 40 rfl rfl
theorem q_41 : Cond.selects "OneHandEachModel" ⟨"OneHandEachModel", "faulty", "()V"⟩ ⟨"OneHandEachModel", "faulty", "()V"⟩ ∈ m_ws := m_at 41 rfl rfl
theorem q_42 : Cond.selects "OneHandEachModel" ⟨"OneHandEachModel", "figure", "()V"⟩ ⟨"OneHandEachModel", "figure", "()V"⟩ ∈ m_ws := m_at 42 rfl rfl
theorem q_43 : Cond.selects "OneHandEachModel" ⟨"OneHandEachModel", "weightOf", "(I)I"⟩ ⟨"OneHandEachModel", "weightOf", "(I)I"⟩ ∈ m_ws := m_at 43 rfl rfl
theorem q_44 : Cond.selects "OneHandEachModel" ⟨"OneHandEachModel", "gives", "(I)I"⟩ ⟨"OneHandEachModel", "gives", "(I)I"⟩ ∈ m_ws := m_at 44 rfl rfl
theorem q_45 : Cond.selects "OneHandEachModel" ⟨"OneHandEachModel", "worked", "(III)I"⟩ ⟨"OneHandEachModel", "worked", "(III)I"⟩ ∈ m_ws := m_at 45 rfl rfl
theorem q_46 : Cond.selects "OneHandEachModel" ⟨"OneHandEachModel", "findFits", "(I)V"⟩ ⟨"OneHandEachModel", "findFits", "(I)V"⟩ ∈ m_ws := m_at 46 rfl rfl
theorem q_47 : Cond.selects "OneHandEachModel" ⟨"OneHandEachModel", "isSeen", "(II)Z"⟩ ⟨"OneHandEachModel", "isSeen", "(II)Z"⟩ ∈ m_ws := m_at 47 rfl rfl
theorem q_48 : Cond.selects "OneHandEachModel" ⟨"OneHandEachModel", "isNear", "(II)Z"⟩ ⟨"OneHandEachModel", "isNear", "(II)Z"⟩ ∈ m_ws := m_at 48 rfl rfl
theorem q_49 : Cond.selects "OneHandEachModel" ⟨"OneHandEachModel", "mostAlike", "(II)I"⟩ ⟨"OneHandEachModel", "mostAlike", "(II)I"⟩ ∈ m_ws := m_at 49 rfl rfl
theorem q_50 : Cond.selects "OneHandEachModel" ⟨"OneHandEachModel", "draw", "(I)I"⟩ ⟨"OneHandEachModel", "draw", "(I)I"⟩ ∈ m_ws := m_at 50 rfl rfl
theorem q_51 : Cond.selects "OneHandEachModel" ⟨"OneHandEachModel", "walksSo", "(III)Z"⟩ ⟨"OneHandEachModel", "walksSo", "(III)Z"⟩ ∈ m_ws := m_at 51 rfl rfl
theorem q_52 : Cond.selects "OneHandEachModel" ⟨"OneHandEachModel", "wrongBy", "(III)I"⟩ ⟨"OneHandEachModel", "wrongBy", "(III)I"⟩ ∈ m_ws := m_at 52 rfl rfl
theorem q_53 : Cond.selects "OneHandEachModel" ⟨"OneHandEachModel", "meets", "(III)I"⟩ ⟨"OneHandEachModel", "meets", "(III)I"⟩ ∈ m_ws := m_at 53 rfl rfl
theorem q_54 : Cond.selects "OneHandEachModel" ⟨"OneHandEachModel", "isBody", "(I)Z"⟩ ⟨"OneHandEachModel", "isBody", "(I)Z"⟩ ∈ m_ws := m_at 54 rfl rfl
theorem q_55 : Cond.selects "OneHandEachModel" ⟨"OneHandEachModel", "showing", "(II)I"⟩ ⟨"OneHandEachModel", "showing", "(II)I"⟩ ∈ m_ws := m_at 55 rfl rfl
theorem q_56 : Cond.selects "OneHandEachModel" ⟨"OneHandEachModel", "ran", "(I)V"⟩ ⟨"OneHandEachModel", "ran", "(I)V"⟩ ∈ m_ws := m_at 56 rfl rfl
theorem q_57 : Cond.selects "OneHandEachModel" ⟨"OneHandEachModel", "plainShows", "(II)I"⟩ ⟨"OneHandEachModel", "plainShows", "(II)I"⟩ ∈ m_ws := m_at 57 rfl rfl
theorem q_58 : Cond.selects "OneHandEachModel" ⟨"OneHandEachModel", "boyShows", "(II)I"⟩ ⟨"OneHandEachModel", "boyShows", "(II)I"⟩ ∈ m_ws := m_at 58 rfl rfl
theorem q_59 : Cond.selects "OneHandEachModel" ⟨"OneHandEachModel", "parting", "(II)I"⟩ ⟨"OneHandEachModel", "parting", "(II)I"⟩ ∈ m_ws := m_at 59 rfl rfl
theorem q_60 : Cond.selects "OneHandEachModel" ⟨"OneHandEachModel", "hillParts", "(II)I"⟩ ⟨"OneHandEachModel", "hillParts", "(II)I"⟩ ∈ m_ws := m_at 60 rfl rfl
theorem q_61 : Cond.selects "OneHandEachModel" ⟨"OneHandEachModel", "plainParts", "(II)I"⟩ ⟨"OneHandEachModel", "plainParts", "(II)I"⟩ ∈ m_ws := m_at 61 rfl rfl
theorem q_62 : Cond.selects "OneHandEachModel" ⟨"OneHandEachModel", "walking", "(II)I"⟩ ⟨"OneHandEachModel", "walking", "(II)I"⟩ ∈ m_ws := m_at 62 rfl rfl
theorem q_63 : Cond.selects "OneHandEachModel" ⟨"OneHandEachModel", "fogWalks", "(II)I"⟩ ⟨"OneHandEachModel", "fogWalks", "(II)I"⟩ ∈ m_ws := m_at 63 rfl rfl
theorem q_64 : Cond.selects "OneHandEachModel" ⟨"OneHandEachModel", "plainWalks", "(II)I"⟩ ⟨"OneHandEachModel", "plainWalks", "(II)I"⟩ ∈ m_ws := m_at 64 rfl rfl
theorem q_65 : Cond.selects "OneHandEachModel" ⟨"OneHandEachModel", "telling", "(II)I"⟩ ⟨"OneHandEachModel", "telling", "(II)I"⟩ ∈ m_ws := m_at 65 rfl rfl
theorem q_66 : Cond.selects "OneHandEachModel" ⟨"OneHandEachModel", "plainTells", "(II)I"⟩ ⟨"OneHandEachModel", "plainTells", "(II)I"⟩ ∈ m_ws := m_at 66 rfl rfl
theorem q_67 : Cond.selects "OneHandEachModel" ⟨"OneHandEachModel", "whyNoPlace", "(II)I"⟩ ⟨"OneHandEachModel", "whyNoPlace", "(II)I"⟩ ∈ m_ws := m_at 67 rfl rfl
theorem q_171 : (Jvm.Cond.fieldLinkNest "OneHandEach$Law" (31 : Nat) "OneHandEach$Reader" "length" "I" "OneHandEach") ∈ m_nw := m_nwat 0 (by decide +kernel)
theorem q_374 : (Jvm.Cond.methodLinkNest "OneHandEach$Town" (21 : Nat) ({ cls := "OneHandEach", name := "isClock", desc := "(I)Z" } : Jvm.MethodName) "OneHandEach") ∈ m_nw := m_nwat 1 (by decide +kernel)
theorem q_398 : (Jvm.Cond.methodLinkNest "OneHandEach$Entries" (33 : Nat) ({ cls := "OneHandEach", name := "isOneOf", desc := "(II)Z" } : Jvm.MethodName) "OneHandEach") ∈ m_nw := m_nwat 2 (by decide +kernel)
theorem q_602 : (Jvm.Cond.methodLinkNest "OneHandEach$Fitting" (51 : Nat) ({ cls := "OneHandEach", name := "isSight", desc := "(IIII)Z" } : Jvm.MethodName) "OneHandEach") ∈ m_nw := m_nwat 3 (by decide +kernel)
theorem q_647 : (Jvm.Cond.methodLinkNest "OneHandEach$Fitting" (59 : Nat) ({ cls := "OneHandEach", name := "isPart", desc := "(I)Z" } : Jvm.MethodName) "OneHandEach") ∈ m_nw := m_nwat 4 (by decide +kernel)
theorem q_799 : (Jvm.Cond.methodLinkNest "OneHandEach$Bodies" (22 : Nat) ({ cls := "OneHandEach", name := "isOneOf", desc := "(II)Z" } : Jvm.MethodName) "OneHandEach") ∈ m_nw := m_nwat 5 (by decide +kernel)
