/-! helpers of the printed walks -/
def irm (x y : Int32) : Int32 := x - x / y * y
def ush (x y : Int32) : Int32 := (x.toUInt32 >>> (y.toUInt32 &&& Int32.toUInt32 31)).toInt32
def ishl (x y : Int32) : Int32 := x <<< (y &&& 31)
def lshl (x : Int64) (y : Int32) : Int64 := x <<< (y.toInt64 &&& 63)
def imax (x y : Int32) : Int32 := if x < y then y else x
def imin (x y : Int32) : Int32 := if y < x then y else x
def iab (x : Int32) : Int32 := if 0 ≤ x then x else 0 - x
def mkeep : List Bool → List (Option Value) → List (Option Value)
  | true :: b, a :: t => a :: mkeep b t
  | false :: b, _ :: t => none :: mkeep b t
  | _, _ => []
theorem mkeep_get : ∀ (bs : List Bool) (ls : List (Option Value)) (k : Nat) (v : Value), lg (mkeep bs ls) k = some v → lg ls k = some v := by
  intro bs
  induction bs with
  | nil => intro ls k v h; cases ls <;> cases k <;> cases h
  | cons b bs ih =>
    intro ls k v h
    cases ls with
    | nil => cases b <;> cases k <;> cases h
    | cons a t =>
      cases b with
      | true =>
        cases k with
        | zero => exact h
        | succ k => exact ih t k v h
      | false =>
        cases k with
        | zero => cases h
        | succ k => exact ih t k v h
theorem m_at (i : Nat) {w : Cond} (h : lw_tbl[i]? = some w) (hg : goodWord w = true) : w ∈ m_ws := m_in (List.mem_of_getElem? h) hg
theorem m_nwat (i : Nat) {w : Cond} (h : m_nw[i]? = some w) : w ∈ m_nw := List.mem_of_getElem? h
theorem m_len : m_shl.length = 90 := by decide
theorem ol {o a n : Nat} (hs : m_sh o = (a, n)) (ha : (a == 999) = false) : o < 90 := by
  have h := m_lt hs (by simpa using ha)
  rw [m_len] at h
  exact h
theorem ol2 {o a n : Nat} (hs : m_sh o = (a, n)) (ha : (a == 999) = false) : o < 2000 := by
  have h := ol hs ha
  omega
section HELP
variable {G : mG} {E : mEn} {Q : Option Value → mH → Prop} {cn pc : Nat} {ls : List (Option Value)} {st : List Value} {h : mH}
theorem m_keep (bs : List Bool) {ls1 : List (Option Value)} (hm : mkeep bs ls = ls1) (K : Sat G E Q cn pc ls1 st h) : Sat G E Q cn pc ls st h := by
  subst hm
  intro p e R s m args below meth c H la locs Qm C9 hcn hW hS hl9 hr
  refine K p e R s m args below meth c H la locs Qm C9 hcn hW hS (lv_mono hl9 (fun q hq => ?_)) hr
  obtain ⟨k, v, h1, rfl⟩ := lA_of _ _ _ hq
  exact lA_get ls 0 k v (mkeep_get bs ls k v h1)
theorem m_nmi {x : Int32} (K : ∀ y : Int32, y = x → Sat G E Q cn pc ls (.int y :: st) h) : Sat G E Q cn pc ls (.int x :: st) h := K x rfl
theorem m_nml {x : Int64} (K : ∀ y : Int64, y = x → Sat G E Q cn pc ls (.long y :: st) h) : Sat G E Q cn pc ls (.long x :: st) h := K x rfl
theorem m_nmr {x : Nat} (K : ∀ y : Nat, y = x → Sat G E Q cn pc ls (.ref y :: st) h) : Sat G E Q cn pc ls (.ref x :: st) h := K x rfl
theorem m_nmh {x : mH} (K : ∀ y : mH, y = x → Sat G E Q cn pc ls st y) : Sat G E Q cn pc ls st x := K x rfl
theorem r_irm {x y : Int32} (q : Nat) (hd : decode (mCode E) pc = .ok (.irem, 1)) (hq : pc + 1 = q) (hne : ¬ y = 0) (K : Sat G E Q cn q ls (.int (irm x y) :: st) h) : Sat G E Q cn pc ls (.int y :: .int x :: st) h := r_irem q hd hq hne K
theorem r_ush {x y : Int32} (q : Nat) (hd : decode (mCode E) pc = .ok (.iushr, 1)) (hq : pc + 1 = q) (K : Sat G E Q cn q ls (.int (ush x y) :: st) h) : Sat G E Q cn pc ls (.int y :: .int x :: st) h := r_iushr q hd hq K
theorem r_shl {x y : Int32} (q : Nat) (hd : decode (mCode E) pc = .ok (.ishl, 1)) (hq : pc + 1 = q) (K : Sat G E Q cn q ls (.int (ishl x y) :: st) h) : Sat G E Q cn pc ls (.int y :: .int x :: st) h := r_ishl q hd hq K
theorem r_lsh {x : Int64} {y : Int32} (q : Nat) (hd : decode (mCode E) pc = .ok (.lshl, 1)) (hq : pc + 1 = q) (K : Sat G E Q cn q ls (.long (lshl x y) :: st) h) : Sat G E Q cn pc ls (.int y :: .long x :: st) h := r_lshl q hd hq K
-- switches: by a key, by none of them
theorem r_lkK {dflt off : Int} {ps : Array (Int × Int)} {len : Nat} {x : Int32} (k : Int32) (t : Nat) (hx : x = k) (hd : decode (mCode E) pc = .ok (.lookupswitch dflt ps, len)) (hp : (ps.toList.zip (ps.toList.drop 1)).all (fun (a, next) => a.1 < next.1) = true) (ho : Op.lookupswitch.offset ps.toList dflt k.toInt = off) (ht : (pc : Int) + off = (t : Int)) (K : Sat G E Q cn t ls st h) : Sat G E Q cn pc ls (.int x :: st) h := by
  subst hx
  exact r_lookup t hd hp ho ht K
theorem r_lkD {dflt : Int} {ps : Array (Int × Int)} {len : Nat} {x : Int32} (ks : List Int32) (t : Nat) (hx : ∀ k ∈ ks, ¬ x = k) (hd : decode (mCode E) pc = .ok (.lookupswitch dflt ps, len)) (hp : (ps.toList.zip (ps.toList.drop 1)).all (fun (a, next) => a.1 < next.1) = true) (hk : ps.toList.map (fun q => q.1) = ks.map (fun k => k.toInt)) (ht : (pc : Int) + dflt = (t : Int)) (K : Sat G E Q cn t ls st h) : Sat G E Q cn pc ls (.int x :: st) h := by
  refine r_lookup t hd hp (Op.lookupswitch.offset_none ?_) ht K
  rw [List.find?_eq_none]
  intro q hq
  have h1 : q.1 ∈ ks.map (fun k => k.toInt) := by rw [← hk]; exact List.mem_map_of_mem hq
  obtain ⟨k, hk1, hk2⟩ := List.mem_map.mp h1
  simp only [beq_iff_eq]
  intro h2
  exact hx k hk1 (Int32.toInt_inj.mp (by rw [← h2, ← hk2]))
theorem r_tabK {dflt lo hi off : Int} {offs : Array Int} {len : Nat} {x : Int32} (k : Int32) (t : Nat) (hx : x = k) (hd : decode (mCode E) pc = .ok (.tableswitch dflt lo hi offs, len)) (h1 : ¬ k.toInt < lo) (h2 : ¬ hi < k.toInt) (ho : offs[(k.toInt - lo).toNat]? = some off) (ht : (pc : Int) + off = (t : Int)) (K : Sat G E Q cn t ls st h) : Sat G E Q cn pc ls (.int x :: st) h := by
  subst hx
  exact r_tableIn t hd h1 h2 ho ht K
theorem r_tabD {dflt lo hi : Int} {offs : Array Int} {len : Nat} {x : Int32} (ks : List Int32) (t : Nat) (hx : ∀ k ∈ ks, ¬ x = k) (hd : decode (mCode E) pc = .ok (.tableswitch dflt lo hi offs, len)) (hk : (List.range (hi - lo + 1).toNat).all (fun j => offs[j]? == some dflt || (ks.any (fun k => k.toInt == lo + (j : Int)))) = true) (ht : (pc : Int) + dflt = (t : Int)) (K : Sat G E Q cn t ls st h) : Sat G E Q cn pc ls (.int x :: st) h := by
  by_cases h1 : x.toInt < lo
  · exact r_tableOut t hd (Or.inl h1) ht K
  · by_cases h2 : hi < x.toInt
    · exact r_tableOut t hd (Or.inr h2) ht K
    · have h3 := List.all_eq_true.mp hk (x.toInt - lo).toNat (List.mem_range.mpr (by omega))
      rcases Bool.or_eq_true_iff.mp h3 with h4 | h4
      · exact r_tableIn t hd h1 h2 (by simpa using h4) ht K
      · obtain ⟨k, hk1, hk2⟩ := List.any_eq_true.mp h4
        have hk2 : k.toInt = lo + ((x.toInt - lo).toNat : Int) := by simpa using hk2
        exact absurd (Int32.toInt_inj.mp (by rw [hk2]; omega)) (hx k hk1)
end HELP
theorem nar_b {x : Int32} (h : x = 0 ∨ x = 1) : narrow .boolean (.int x) = .int x := by rcases h with rfl | rfl <;> decide
theorem vp_lt {i : Int32} {n : Nat} (h : vp_in i n) : i.toNatClampNeg < n := Nat.not_le.mp fun q => h (Or.inr q)
theorem sh_shelf : ∀ k, k < 6 → m_sh (rf 40 k) = (9, 5) := by decide
theorem sr_shelf : ∀ k, k < 6 → m_sr 40 k = rf 40 k + 1 := by decide
theorem sh_0 : m_sh 0 = (11, 10) := by decide
theorem sh_1 : m_sh 1 = (10, 3) := by decide
theorem sh_2 : m_sh 2 = (100, 7) := by decide
theorem sh_3 : m_sh 3 = (100, 2) := by decide
theorem sh_4 : m_sh 4 = (100, 2) := by decide
theorem sh_5 : m_sh 5 = (2, 4) := by decide
theorem sh_6 : m_sh 6 = (100, 32) := by decide
theorem sh_7 : m_sh 7 = (2, 4) := by decide
theorem sh_8 : m_sh 8 = (100, 30) := by decide
theorem sh_9 : m_sh 9 = (6, 4) := by decide
theorem sh_10 : m_sh 10 = (100, 121) := by decide
theorem sh_11 : m_sh 11 = (8, 5) := by decide
theorem sh_12 : m_sh 12 = (100, 120) := by decide
theorem sh_13 : m_sh 13 = (7, 3) := by decide
theorem sh_14 : m_sh 14 = (100, 121) := by decide
theorem sh_15 : m_sh 15 = (100, 121) := by decide
theorem sh_16 : m_sh 16 = (7, 3) := by decide
theorem sh_17 : m_sh 17 = (100, 121) := by decide
theorem sh_18 : m_sh 18 = (100, 121) := by decide
theorem sh_19 : m_sh 19 = (3, 3) := by decide
theorem sh_20 : m_sh 20 = (101, 720) := by decide
theorem sh_21 : m_sh 21 = (100, 820) := by decide
theorem sh_22 : m_sh 22 = (100, 60) := by decide
theorem sh_23 : m_sh 23 = (4, 1) := by decide
theorem sh_24 : m_sh 24 = (100, 7) := by decide
theorem sh_25 : m_sh 25 = (1, 5) := by decide
theorem sh_26 : m_sh 26 = (100, 40) := by decide
theorem sh_27 : m_sh 27 = (100, 40) := by decide
theorem sh_28 : m_sh 28 = (100, 40) := by decide
theorem sh_29 : m_sh 29 = (5, 6) := by decide
theorem sh_30 : m_sh 30 = (2, 4) := by decide
theorem sh_31 : m_sh 31 = (100, 32) := by decide
theorem sh_32 : m_sh 32 = (2, 4) := by decide
theorem sh_33 : m_sh 33 = (100, 30) := by decide
theorem sh_34 : m_sh 34 = (100, 2) := by decide
theorem sh_35 : m_sh 35 = (100, 2) := by decide
theorem sh_36 : m_sh 36 = (100, 2) := by decide
theorem sh_37 : m_sh 37 = (0, 4) := by decide
theorem sh_38 : m_sh 38 = (100, 50) := by decide
theorem sh_39 : m_sh 39 = (100, 24) := by decide
theorem sh_40 : m_sh 40 = (105, 6) := by decide
theorem sh_41 : m_sh 41 = (9, 5) := by decide
theorem sh_42 : m_sh 42 = (104, 60) := by decide
theorem sh_43 : m_sh 43 = (9, 5) := by decide
theorem sh_44 : m_sh 44 = (104, 60) := by decide
theorem sh_45 : m_sh 45 = (9, 5) := by decide
theorem sh_46 : m_sh 46 = (104, 60) := by decide
theorem sh_47 : m_sh 47 = (9, 5) := by decide
theorem sh_48 : m_sh 48 = (104, 60) := by decide
theorem sh_49 : m_sh 49 = (9, 5) := by decide
theorem sh_50 : m_sh 50 = (104, 60) := by decide
theorem sh_51 : m_sh 51 = (9, 5) := by decide
theorem sh_52 : m_sh 52 = (104, 60) := by decide
theorem sh_53 : m_sh 53 = (12, 57) := by decide
theorem sh_54 : m_sh 54 = (100, 2) := by decide
theorem sh_55 : m_sh 55 = (100, 2) := by decide
theorem sh_56 : m_sh 56 = (100, 2) := by decide
theorem sh_57 : m_sh 57 = (100, 2) := by decide
theorem sh_58 : m_sh 58 = (100, 40) := by decide
theorem sh_59 : m_sh 59 = (100, 40) := by decide
theorem sh_60 : m_sh 60 = (100, 40) := by decide
theorem sh_61 : m_sh 61 = (100, 40) := by decide
theorem sh_62 : m_sh 62 = (100, 8) := by decide
theorem sh_63 : m_sh 63 = (100, 8) := by decide
theorem sh_64 : m_sh 64 = (100, 8) := by decide
theorem sh_65 : m_sh 65 = (100, 8) := by decide
theorem sh_66 : m_sh 66 = (100, 10) := by decide
theorem sh_67 : m_sh 67 = (100, 10) := by decide
theorem sh_68 : m_sh 68 = (100, 10) := by decide
theorem sh_69 : m_sh 69 = (102, 120) := by decide
theorem sh_70 : m_sh 70 = (102, 260) := by decide
theorem sh_71 : m_sh 71 = (100, 260) := by decide
theorem sh_72 : m_sh 72 = (100, 2) := by decide
theorem sh_73 : m_sh 73 = (103, 122) := by decide
theorem sh_74 : m_sh 74 = (103, 122) := by decide
theorem sh_75 : m_sh 75 = (100, 5) := by decide
theorem sh_76 : m_sh 76 = (100, 130) := by decide
theorem sh_77 : m_sh 77 = (101, 720) := by decide
theorem sh_78 : m_sh 78 = (100, 60) := by decide
theorem sh_79 : m_sh 79 = (100, 2) := by decide
theorem sh_80 : m_sh 80 = (100, 2) := by decide
theorem sh_81 : m_sh 81 = (100, 2) := by decide
theorem sh_82 : m_sh 82 = (100, 32) := by decide
theorem sh_83 : m_sh 83 = (100, 30) := by decide
theorem sh_84 : m_sh 84 = (100, 50) := by decide
theorem sh_85 : m_sh 85 = (100, 24) := by decide
theorem sh_86 : m_sh 86 = (100, 6) := by decide
theorem sh_87 : m_sh 87 = (100, 6) := by decide
theorem sh_88 : m_sh 88 = (104, 360) := by decide
theorem sh_89 : m_sh 89 = (104, 60) := by decide
theorem rs_2_2 {o : Nat} (hs : m_sh o = (2, 4)) : m_sh (rf o 2) = (100, lenOf (rf o 2)) ∧ m_sr o 2 = rf o 2 + 1 := by
  have h1 : ∀ o, o < 90 → m_sh o = (2, 4) → m_sh (rf o 2) = (100, lenOf (rf o 2)) ∧ m_sr o 2 = rf o 2 + 1 := by decide +kernel
  exact h1 o (ol hs (by decide)) hs
theorem rs_7_0 {o : Nat} (hs : m_sh o = (7, 3)) : m_sh (rf o 0) = (100, lenOf (rf o 0)) ∧ m_sr o 0 = rf o 0 + 1 := by
  have h1 : ∀ o, o < 90 → m_sh o = (7, 3) → m_sh (rf o 0) = (100, lenOf (rf o 0)) ∧ m_sr o 0 = rf o 0 + 1 := by decide +kernel
  exact h1 o (ol hs (by decide)) hs
theorem rs_7_1 {o : Nat} (hs : m_sh o = (7, 3)) : m_sh (rf o 1) = (100, lenOf (rf o 1)) ∧ m_sr o 1 = rf o 1 + 1 := by
  have h1 : ∀ o, o < 90 → m_sh o = (7, 3) → m_sh (rf o 1) = (100, lenOf (rf o 1)) ∧ m_sr o 1 = rf o 1 + 1 := by decide +kernel
  exact h1 o (ol hs (by decide)) hs
theorem rs_9_0 {o : Nat} (hs : m_sh o = (9, 5)) : m_sh (rf o 0) = (104, lenOf (rf o 0)) ∧ m_sr o 0 = rf o 0 + 1 := by
  have h1 : ∀ o, o < 90 → m_sh o = (9, 5) → m_sh (rf o 0) = (104, lenOf (rf o 0)) ∧ m_sr o 0 = rf o 0 + 1 := by decide +kernel
  exact h1 o (ol hs (by decide)) hs
theorem cl_0 : mCl 0 4 RX0 TX0 tyX0 := ⟨rfl, ix_0, tyX0_ok, nmX0, by decide⟩
theorem cl_1 : mCl 1 5 RX1 TX1 tyX1 := ⟨rfl, ix_1, tyX1_ok, nmX1, by decide⟩
theorem cl_2 : mCl 2 4 RX2 TX2 tyX2 := ⟨rfl, ix_2, tyX2_ok, nmX2, by decide⟩
theorem cl_3 : mCl 3 3 RX3 TX3 tyX3 := ⟨rfl, ix_3, tyX3_ok, nmX3, by decide⟩
theorem cl_4 : mCl 4 1 RX4 TX4 tyX4 := ⟨rfl, ix_4, tyX4_ok, nmX4, by decide⟩
theorem cl_5 : mCl 5 6 RX5 TX5 tyX5 := ⟨rfl, ix_5, tyX5_ok, nmX5, by decide⟩
theorem cl_6 : mCl 6 4 RX6 TX6 tyX6 := ⟨rfl, ix_6, tyX6_ok, nmX6, by decide⟩
theorem cl_7 : mCl 7 3 RX7 TX7 tyX7 := ⟨rfl, ix_7, tyX7_ok, nmX7, by decide⟩
theorem cl_8 : mCl 8 5 RX8 TX8 tyX8 := ⟨rfl, ix_8, tyX8_ok, nmX8, by decide⟩
theorem cl_9 : mCl 9 5 RX9 TX9 tyX9 := ⟨rfl, ix_9, tyX9_ok, nmX9, by decide⟩
theorem cl_10 : mCl 10 3 RX10 TX10 tyX10 := ⟨rfl, ix_10, tyX10_ok, nmX10, by decide⟩
theorem cl_11 : mCl 11 10 RX11 TX11 tyX11 := ⟨rfl, ix_11, tyX11_ok, nmX11, by decide⟩
theorem cl_12 : mCl 12 57 RX12 TX12 tyX12 := ⟨rfl, ix_12, tyX12_ok, nmX12, by decide⟩
theorem q_68 : (Jvm.Cond.initialized "OneHandEachLaw") ∈ m_ws := m_at 68 (by decide +kernel) rfl
theorem q_69 : (Jvm.Cond.initialized "OneHandEach") ∈ m_ws := m_at 69 (by decide +kernel) rfl
theorem q_70 : (Jvm.Cond.initialized "OneHandEach$Town") ∈ m_ws := m_at 70 (by decide +kernel) rfl
theorem q_71 : (Jvm.Cond.initialized "OneHandEach$Entries") ∈ m_ws := m_at 71 (by decide +kernel) rfl
theorem q_72 : (Jvm.Cond.initialized "OneHandEach$Law") ∈ m_ws := m_at 72 (by decide +kernel) rfl
theorem q_73 : (Jvm.Cond.initialized "OneHandEach$Reader") ∈ m_ws := m_at 73 (by decide +kernel) rfl
theorem q_74 : (Jvm.Cond.initialized "OneHandEach$Program") ∈ m_ws := m_at 74 (by decide +kernel) rfl
theorem q_75 : (Jvm.Cond.initialized "OneHandEach$Fitting") ∈ m_ws := m_at 75 (by decide +kernel) rfl
theorem q_76 : (Jvm.Cond.initialized "OneHandEach$Guesses") ∈ m_ws := m_at 76 (by decide +kernel) rfl
theorem q_77 : (Jvm.Cond.initialized "OneHandEach$Changes") ∈ m_ws := m_at 77 (by decide +kernel) rfl
theorem q_78 : (Jvm.Cond.initialized "OneHandEach$Image") ∈ m_ws := m_at 78 (by decide +kernel) rfl
theorem q_79 : (Jvm.Cond.initialized "OneHandEach$Bodies") ∈ m_ws := m_at 79 (by decide +kernel) rfl
theorem q_80 : (Jvm.Cond.initialized "OneHandEach$Shelf") ∈ m_ws := m_at 80 (by decide +kernel) rfl
theorem q_81 : (Jvm.Cond.initialized "OneHandEachModel") ∈ m_ws := m_at 81 (by decide +kernel) rfl
theorem q_82 : (Jvm.Cond.initialized "java/lang/Math") ∈ m_ws := m_at 82 (by decide +kernel) rfl
theorem q_83 : (Jvm.Cond.initialized "java/lang/Integer") ∈ m_ws := m_at 83 (by decide +kernel) rfl
theorem q_84 : (Jvm.Cond.initialized "java/lang/System") ∈ m_ws := m_at 84 (by decide +kernel) rfl
theorem q_85 : (Jvm.Cond.classLink "OneHandEachLaw" (7 : Nat) "OneHandEach") ∈ m_ws := m_at 85 (by decide +kernel) rfl
theorem q_86 : (Jvm.Cond.instantiable "OneHandEach" (10 : Nat)) ∈ m_ws := m_at 86 (by decide +kernel) rfl
theorem q_87 : (Jvm.Cond.methodLink "OneHandEachLaw" (9 : Nat) ({ cls := "OneHandEach", name := "<init>", desc := "()V" } : Jvm.MethodName)) ∈ m_ws := m_at 87 (by decide +kernel) rfl
theorem q_88 : (Jvm.Cond.instanceMethod ({ cls := "OneHandEach", name := "<init>", desc := "()V" } : Jvm.MethodName)) ∈ m_ws := m_at 88 (by decide +kernel) rfl
theorem q_89 : (Jvm.Cond.code ({ cls := "OneHandEach", name := "<init>", desc := "()V" } : Jvm.MethodName) prog_1_method_1_code (2 : Nat) (Option.none : Option Jvm.ClassFile.FieldType)) ∈ m_ws := m_at 89 (by decide +kernel) rfl
theorem q_90 : (Jvm.Cond.methodLink "OneHandEach" (1 : Nat) ({ cls := "java/lang/Object", name := "<init>", desc := "()V" } : Jvm.MethodName)) ∈ m_ws := m_at 90 (by decide +kernel) rfl
theorem q_91 : (Jvm.Cond.instanceMethod ({ cls := "java/lang/Object", name := "<init>", desc := "()V" } : Jvm.MethodName)) ∈ m_ws := m_at 91 (by decide +kernel) rfl
theorem q_92 : (Jvm.Cond.code ({ cls := "java/lang/Object", name := "<init>", desc := "()V" } : Jvm.MethodName) object_method_1_code (1 : Nat) (Option.none : Option Jvm.ClassFile.FieldType)) ∈ m_ws := m_at 92 (by decide +kernel) rfl
theorem q_93 : (Jvm.Cond.classLink "OneHandEach" (7 : Nat) "OneHandEach$Town") ∈ m_ws := m_at 93 (by decide +kernel) rfl
theorem q_94 : (Jvm.Cond.instantiable "OneHandEach$Town" (3 : Nat)) ∈ m_ws := m_at 94 (by decide +kernel) rfl
theorem q_95 : (Jvm.Cond.methodLink "OneHandEach" (9 : Nat) ({ cls := "OneHandEach$Town", name := "<init>", desc := "()V" } : Jvm.MethodName)) ∈ m_ws := m_at 95 (by decide +kernel) rfl
theorem q_96 : (Jvm.Cond.instanceMethod ({ cls := "OneHandEach$Town", name := "<init>", desc := "()V" } : Jvm.MethodName)) ∈ m_ws := m_at 96 (by decide +kernel) rfl
theorem q_97 : (Jvm.Cond.code ({ cls := "OneHandEach$Town", name := "<init>", desc := "()V" } : Jvm.MethodName) prog_12_method_1_code (1 : Nat) (Option.none : Option Jvm.ClassFile.FieldType)) ∈ m_ws := m_at 97 (by decide +kernel) rfl
theorem q_98 : (Jvm.Cond.methodLink "OneHandEach$Town" (3 : Nat) ({ cls := "java/lang/Object", name := "<init>", desc := "()V" } : Jvm.MethodName)) ∈ m_ws := m_at 98 (by decide +kernel) rfl
theorem q_99 : (Jvm.Cond.fieldLink "OneHandEach$Town" (9 : Nat) "OneHandEach$Town" "amounts" "[I") ∈ m_ws := m_at 99 (by decide +kernel) rfl
theorem q_100 : (Jvm.Cond.fieldLink "OneHandEach" (86 : Nat) "OneHandEach$Town" "amounts" "[I") ∈ m_ws := m_at 100 (by decide +kernel) rfl
theorem q_101 : (Jvm.Cond.fieldLink "OneHandEach$Fitting" (44 : Nat) "OneHandEach$Town" "amounts" "[I") ∈ m_ws := m_at 101 (by decide +kernel) rfl
theorem q_102 : (Jvm.Cond.fieldLink "OneHandEach$Changes" (31 : Nat) "OneHandEach$Town" "amounts" "[I") ∈ m_ws := m_at 102 (by decide +kernel) rfl
theorem q_103 : (Jvm.Cond.fieldLink "OneHandEach$Town" (15 : Nat) "OneHandEach$Town" "timesSet" "[I") ∈ m_ws := m_at 103 (by decide +kernel) rfl
theorem q_104 : (Jvm.Cond.fieldLink "OneHandEach" (218 : Nat) "OneHandEach$Town" "timesSet" "[I") ∈ m_ws := m_at 104 (by decide +kernel) rfl
theorem q_105 : (Jvm.Cond.fieldLink "OneHandEach$Town" (18 : Nat) "OneHandEach$Town" "latestSet" "[I") ∈ m_ws := m_at 105 (by decide +kernel) rfl
theorem q_106 : (Jvm.Cond.fieldLink "OneHandEach" (221 : Nat) "OneHandEach$Town" "latestSet" "[I") ∈ m_ws := m_at 106 (by decide +kernel) rfl
theorem q_114 : (Jvm.Cond.arrayClass Jvm.ClassFile.FieldType.int) ∈ m_ws := m_at 114 (by decide +kernel) rfl
theorem q_115 : (Jvm.Cond.classLink "OneHandEach" (16 : Nat) "OneHandEach$Entries") ∈ m_ws := m_at 115 (by decide +kernel) rfl
theorem q_116 : (Jvm.Cond.instantiable "OneHandEach$Entries" (4 : Nat)) ∈ m_ws := m_at 116 (by decide +kernel) rfl
theorem q_117 : (Jvm.Cond.methodLink "OneHandEach" (18 : Nat) ({ cls := "OneHandEach$Entries", name := "<init>", desc := "(II)V" } : Jvm.MethodName)) ∈ m_ws := m_at 117 (by decide +kernel) rfl
theorem q_118 : (Jvm.Cond.instanceMethod ({ cls := "OneHandEach$Entries", name := "<init>", desc := "(II)V" } : Jvm.MethodName)) ∈ m_ws := m_at 118 (by decide +kernel) rfl
theorem q_119 : (Jvm.Cond.code ({ cls := "OneHandEach$Entries", name := "<init>", desc := "(II)V" } : Jvm.MethodName) prog_4_method_1_code (3 : Nat) (Option.none : Option Jvm.ClassFile.FieldType)) ∈ m_ws := m_at 119 (by decide +kernel) rfl
theorem q_120 : (Jvm.Cond.methodLink "OneHandEach$Entries" (3 : Nat) ({ cls := "java/lang/Object", name := "<init>", desc := "()V" } : Jvm.MethodName)) ∈ m_ws := m_at 120 (by decide +kernel) rfl
theorem q_121 : (Jvm.Cond.fieldLink "OneHandEach$Entries" (9 : Nat) "OneHandEach$Entries" "most" "I") ∈ m_ws := m_at 121 (by decide +kernel) rfl
theorem q_122 : (Jvm.Cond.fieldLink "OneHandEach$Entries" (15 : Nat) "OneHandEach$Entries" "width" "I") ∈ m_ws := m_at 122 (by decide +kernel) rfl
theorem q_123 : (Jvm.Cond.fieldLink "OneHandEach$Entries" (18 : Nat) "OneHandEach$Entries" "numbers" "[I") ∈ m_ws := m_at 123 (by decide +kernel) rfl
theorem q_124 : (Jvm.Cond.fieldLink "OneHandEach$Entries" (22 : Nat) "OneHandEach$Entries" "count" "I") ∈ m_ws := m_at 124 (by decide +kernel) rfl
theorem q_125 : (Jvm.Cond.fieldLink "OneHandEach$Fitting" (25 : Nat) "OneHandEach$Entries" "count" "I") ∈ m_ws := m_at 125 (by decide +kernel) rfl
theorem q_126 : (Jvm.Cond.fieldLink "OneHandEach$Guesses" (38 : Nat) "OneHandEach$Entries" "count" "I") ∈ m_ws := m_at 126 (by decide +kernel) rfl
theorem q_127 : (Jvm.Cond.fieldLink "OneHandEach" (152 : Nat) "OneHandEach$Entries" "count" "I") ∈ m_ws := m_at 127 (by decide +kernel) rfl
theorem q_137 : (Jvm.Cond.classLink "OneHandEach" (28 : Nat) "OneHandEach$Law") ∈ m_ws := m_at 137 (by decide +kernel) rfl
theorem q_138 : (Jvm.Cond.instantiable "OneHandEach$Law" (4 : Nat)) ∈ m_ws := m_at 138 (by decide +kernel) rfl
theorem q_139 : (Jvm.Cond.methodLink "OneHandEach" (30 : Nat) ({ cls := "OneHandEach$Law", name := "<init>", desc := "()V" } : Jvm.MethodName)) ∈ m_ws := m_at 139 (by decide +kernel) rfl
theorem q_140 : (Jvm.Cond.instanceMethod ({ cls := "OneHandEach$Law", name := "<init>", desc := "()V" } : Jvm.MethodName)) ∈ m_ws := m_at 140 (by decide +kernel) rfl
theorem q_141 : (Jvm.Cond.code ({ cls := "OneHandEach$Law", name := "<init>", desc := "()V" } : Jvm.MethodName) prog_8_method_1_code (1 : Nat) (Option.none : Option Jvm.ClassFile.FieldType)) ∈ m_ws := m_at 141 (by decide +kernel) rfl
theorem q_142 : (Jvm.Cond.methodLink "OneHandEach$Law" (1 : Nat) ({ cls := "java/lang/Object", name := "<init>", desc := "()V" } : Jvm.MethodName)) ∈ m_ws := m_at 142 (by decide +kernel) rfl
theorem q_143 : (Jvm.Cond.classLink "OneHandEach$Law" (15 : Nat) "OneHandEach$Reader") ∈ m_ws := m_at 143 (by decide +kernel) rfl
theorem q_144 : (Jvm.Cond.instantiable "OneHandEach$Reader" (5 : Nat)) ∈ m_ws := m_at 144 (by decide +kernel) rfl
theorem q_145 : (Jvm.Cond.methodLink "OneHandEach$Law" (17 : Nat) ({ cls := "OneHandEach$Reader", name := "<init>", desc := "()V" } : Jvm.MethodName)) ∈ m_ws := m_at 145 (by decide +kernel) rfl
theorem q_146 : (Jvm.Cond.instanceMethod ({ cls := "OneHandEach$Reader", name := "<init>", desc := "()V" } : Jvm.MethodName)) ∈ m_ws := m_at 146 (by decide +kernel) rfl
theorem q_147 : (Jvm.Cond.code ({ cls := "OneHandEach$Reader", name := "<init>", desc := "()V" } : Jvm.MethodName) prog_10_method_1_code (1 : Nat) (Option.none : Option Jvm.ClassFile.FieldType)) ∈ m_ws := m_at 147 (by decide +kernel) rfl
theorem q_148 : (Jvm.Cond.methodLink "OneHandEach$Reader" (3 : Nat) ({ cls := "java/lang/Object", name := "<init>", desc := "()V" } : Jvm.MethodName)) ∈ m_ws := m_at 148 (by decide +kernel) rfl
theorem q_149 : (Jvm.Cond.classLink "OneHandEach$Reader" (15 : Nat) "OneHandEach$Program") ∈ m_ws := m_at 149 (by decide +kernel) rfl
theorem q_150 : (Jvm.Cond.instantiable "OneHandEach$Program" (3 : Nat)) ∈ m_ws := m_at 150 (by decide +kernel) rfl
theorem q_151 : (Jvm.Cond.methodLink "OneHandEach$Reader" (17 : Nat) ({ cls := "OneHandEach$Program", name := "<init>", desc := "()V" } : Jvm.MethodName)) ∈ m_ws := m_at 151 (by decide +kernel) rfl
theorem q_152 : (Jvm.Cond.instanceMethod ({ cls := "OneHandEach$Program", name := "<init>", desc := "()V" } : Jvm.MethodName)) ∈ m_ws := m_at 152 (by decide +kernel) rfl
theorem q_153 : (Jvm.Cond.code ({ cls := "OneHandEach$Program", name := "<init>", desc := "()V" } : Jvm.MethodName) prog_9_method_1_code (1 : Nat) (Option.none : Option Jvm.ClassFile.FieldType)) ∈ m_ws := m_at 153 (by decide +kernel) rfl
theorem q_154 : (Jvm.Cond.methodLink "OneHandEach$Program" (1 : Nat) ({ cls := "java/lang/Object", name := "<init>", desc := "()V" } : Jvm.MethodName)) ∈ m_ws := m_at 154 (by decide +kernel) rfl
theorem q_155 : (Jvm.Cond.fieldLink "OneHandEach$Program" (9 : Nat) "OneHandEach$Program" "steps" "[I") ∈ m_ws := m_at 155 (by decide +kernel) rfl
theorem q_156 : (Jvm.Cond.fieldLink "OneHandEach$Law" (60 : Nat) "OneHandEach$Program" "steps" "[I") ∈ m_ws := m_at 156 (by decide +kernel) rfl
theorem q_157 : (Jvm.Cond.fieldLink "OneHandEach$Program" (13 : Nat) "OneHandEach$Program" "values" "[I") ∈ m_ws := m_at 157 (by decide +kernel) rfl
theorem q_158 : (Jvm.Cond.fieldLink "OneHandEach$Law" (74 : Nat) "OneHandEach$Program" "values" "[I") ∈ m_ws := m_at 158 (by decide +kernel) rfl
theorem q_159 : (Jvm.Cond.fieldLink "OneHandEach$Program" (16 : Nat) "OneHandEach$Program" "length" "I") ∈ m_ws := m_at 159 (by decide +kernel) rfl
theorem q_160 : (Jvm.Cond.fieldLink "OneHandEach$Reader" (32 : Nat) "OneHandEach$Program" "length" "I") ∈ m_ws := m_at 160 (by decide +kernel) rfl
theorem q_161 : (Jvm.Cond.fieldLink "OneHandEach$Law" (59 : Nat) "OneHandEach$Program" "length" "I") ∈ m_ws := m_at 161 (by decide +kernel) rfl
theorem q_169 : (Jvm.Cond.fieldLink "OneHandEach$Reader" (11 : Nat) "OneHandEach$Reader" "tape" "[I") ∈ m_ws := m_at 169 (by decide +kernel) rfl
theorem q_170 : (Jvm.Cond.fieldLink "OneHandEach$Reader" (22 : Nat) "OneHandEach$Reader" "length" "I") ∈ m_ws := m_at 170 (by decide +kernel) rfl
theorem q_172 : (Jvm.Cond.fieldLink "OneHandEach$Reader" (26 : Nat) "OneHandEach$Reader" "at" "I") ∈ m_ws := m_at 172 (by decide +kernel) rfl
theorem q_173 : (Jvm.Cond.fieldLink "OneHandEach$Reader" (29 : Nat) "OneHandEach$Reader" "fault" "I") ∈ m_ws := m_at 173 (by decide +kernel) rfl
theorem q_174 : (Jvm.Cond.fieldLink "OneHandEach$Reader" (18 : Nat) "OneHandEach$Reader" "into" "LOneHandEach$Program;") ∈ m_ws := m_at 174 (by decide +kernel) rfl
theorem q_175 : (Jvm.Cond.fieldLink "OneHandEach$Law" (39 : Nat) "OneHandEach$Reader" "into" "LOneHandEach$Program;") ∈ m_ws := m_at 175 (by decide +kernel) rfl
theorem q_187 : (Jvm.Cond.classLink "OneHandEach$Law" (7 : Nat) "OneHandEach$Program") ∈ m_ws := m_at 187 (by decide +kernel) rfl
theorem q_188 : (Jvm.Cond.methodLink "OneHandEach$Law" (22 : Nat) ({ cls := "OneHandEach$Program", name := "<init>", desc := "()V" } : Jvm.MethodName)) ∈ m_ws := m_at 188 (by decide +kernel) rfl
theorem q_189 : (Jvm.Cond.fieldLink "OneHandEach$Law" (9 : Nat) "OneHandEach$Law" "stack" "[I") ∈ m_ws := m_at 189 (by decide +kernel) rfl
theorem q_190 : (Jvm.Cond.fieldLink "OneHandEach$Law" (18 : Nat) "OneHandEach$Law" "reader" "LOneHandEach$Reader;") ∈ m_ws := m_at 190 (by decide +kernel) rfl
theorem q_191 : (Jvm.Cond.fieldLink "OneHandEach$Law" (23 : Nat) "OneHandEach$Law" "valid" "LOneHandEach$Program;") ∈ m_ws := m_at 191 (by decide +kernel) rfl
theorem q_192 : (Jvm.Cond.fieldLink "OneHandEach$Law" (42 : Nat) "OneHandEach$Law" "there" "Z") ∈ m_ws := m_at 192 (by decide +kernel) rfl
theorem q_202 : (Jvm.Cond.classLink "OneHandEach" (35 : Nat) "OneHandEach$Fitting") ∈ m_ws := m_at 202 (by decide +kernel) rfl
theorem q_203 : (Jvm.Cond.instantiable "OneHandEach$Fitting" (3 : Nat)) ∈ m_ws := m_at 203 (by decide +kernel) rfl
theorem q_204 : (Jvm.Cond.methodLink "OneHandEach" (37 : Nat) ({ cls := "OneHandEach$Fitting", name := "<init>", desc := "()V" } : Jvm.MethodName)) ∈ m_ws := m_at 204 (by decide +kernel) rfl
theorem q_205 : (Jvm.Cond.instanceMethod ({ cls := "OneHandEach$Fitting", name := "<init>", desc := "()V" } : Jvm.MethodName)) ∈ m_ws := m_at 205 (by decide +kernel) rfl
theorem q_206 : (Jvm.Cond.code ({ cls := "OneHandEach$Fitting", name := "<init>", desc := "()V" } : Jvm.MethodName) prog_5_method_1_code (1 : Nat) (Option.none : Option Jvm.ClassFile.FieldType)) ∈ m_ws := m_at 206 (by decide +kernel) rfl
theorem q_207 : (Jvm.Cond.methodLink "OneHandEach$Fitting" (3 : Nat) ({ cls := "java/lang/Object", name := "<init>", desc := "()V" } : Jvm.MethodName)) ∈ m_ws := m_at 207 (by decide +kernel) rfl
theorem q_208 : (Jvm.Cond.fieldLink "OneHandEach$Fitting" (9 : Nat) "OneHandEach$Fitting" "fit" "[Z") ∈ m_ws := m_at 208 (by decide +kernel) rfl
theorem q_209 : (Jvm.Cond.fieldLink "OneHandEach" (171 : Nat) "OneHandEach$Fitting" "fit" "[Z") ∈ m_ws := m_at 209 (by decide +kernel) rfl
theorem q_210 : (Jvm.Cond.fieldLink "OneHandEach$Fitting" (15 : Nat) "OneHandEach$Fitting" "nearAhead" "[I") ∈ m_ws := m_at 210 (by decide +kernel) rfl
theorem q_211 : (Jvm.Cond.fieldLink "OneHandEach$Fitting" (19 : Nat) "OneHandEach$Fitting" "tally" "[I") ∈ m_ws := m_at 211 (by decide +kernel) rfl
theorem q_219 : (Jvm.Cond.arrayClass Jvm.ClassFile.FieldType.boolean) ∈ m_ws := m_at 219 (by decide +kernel) rfl
theorem q_220 : (Jvm.Cond.classLink "OneHandEach" (42 : Nat) "OneHandEach$Guesses") ∈ m_ws := m_at 220 (by decide +kernel) rfl
theorem q_221 : (Jvm.Cond.instantiable "OneHandEach$Guesses" (1 : Nat)) ∈ m_ws := m_at 221 (by decide +kernel) rfl
theorem q_222 : (Jvm.Cond.methodLink "OneHandEach" (44 : Nat) ({ cls := "OneHandEach$Guesses", name := "<init>", desc := "()V" } : Jvm.MethodName)) ∈ m_ws := m_at 222 (by decide +kernel) rfl
theorem q_223 : (Jvm.Cond.instanceMethod ({ cls := "OneHandEach$Guesses", name := "<init>", desc := "()V" } : Jvm.MethodName)) ∈ m_ws := m_at 223 (by decide +kernel) rfl
theorem q_224 : (Jvm.Cond.code ({ cls := "OneHandEach$Guesses", name := "<init>", desc := "()V" } : Jvm.MethodName) prog_6_method_1_code (1 : Nat) (Option.none : Option Jvm.ClassFile.FieldType)) ∈ m_ws := m_at 224 (by decide +kernel) rfl
theorem q_225 : (Jvm.Cond.methodLink "OneHandEach$Guesses" (3 : Nat) ({ cls := "java/lang/Object", name := "<init>", desc := "()V" } : Jvm.MethodName)) ∈ m_ws := m_at 225 (by decide +kernel) rfl
theorem q_226 : (Jvm.Cond.fieldLink "OneHandEach$Guesses" (9 : Nat) "OneHandEach$Guesses" "told" "[I") ∈ m_ws := m_at 226 (by decide +kernel) rfl
theorem q_227 : (Jvm.Cond.fieldLink "OneHandEach" (199 : Nat) "OneHandEach$Guesses" "told" "[I") ∈ m_ws := m_at 227 (by decide +kernel) rfl
theorem q_231 : (Jvm.Cond.classLink "OneHandEach" (49 : Nat) "OneHandEach$Changes") ∈ m_ws := m_at 231 (by decide +kernel) rfl
theorem q_232 : (Jvm.Cond.instantiable "OneHandEach$Changes" (5 : Nat)) ∈ m_ws := m_at 232 (by decide +kernel) rfl
theorem q_233 : (Jvm.Cond.methodLink "OneHandEach" (51 : Nat) ({ cls := "OneHandEach$Changes", name := "<init>", desc := "()V" } : Jvm.MethodName)) ∈ m_ws := m_at 233 (by decide +kernel) rfl
theorem q_234 : (Jvm.Cond.instanceMethod ({ cls := "OneHandEach$Changes", name := "<init>", desc := "()V" } : Jvm.MethodName)) ∈ m_ws := m_at 234 (by decide +kernel) rfl
theorem q_235 : (Jvm.Cond.code ({ cls := "OneHandEach$Changes", name := "<init>", desc := "()V" } : Jvm.MethodName) prog_3_method_1_code (1 : Nat) (Option.none : Option Jvm.ClassFile.FieldType)) ∈ m_ws := m_at 235 (by decide +kernel) rfl
theorem q_236 : (Jvm.Cond.methodLink "OneHandEach$Changes" (3 : Nat) ({ cls := "java/lang/Object", name := "<init>", desc := "()V" } : Jvm.MethodName)) ∈ m_ws := m_at 236 (by decide +kernel) rfl
theorem q_237 : (Jvm.Cond.fieldLink "OneHandEach$Changes" (11 : Nat) "OneHandEach$Changes" "places" "[I") ∈ m_ws := m_at 237 (by decide +kernel) rfl
theorem q_238 : (Jvm.Cond.fieldLink "OneHandEach$Changes" (15 : Nat) "OneHandEach$Changes" "was" "[I") ∈ m_ws := m_at 238 (by decide +kernel) rfl
theorem q_239 : (Jvm.Cond.fieldLink "OneHandEach$Changes" (18 : Nat) "OneHandEach$Changes" "became" "[I") ∈ m_ws := m_at 239 (by decide +kernel) rfl
theorem q_240 : (Jvm.Cond.fieldLink "OneHandEach$Changes" (21 : Nat) "OneHandEach$Changes" "done" "I") ∈ m_ws := m_at 240 (by decide +kernel) rfl
theorem q_241 : (Jvm.Cond.fieldLink "OneHandEach" (310 : Nat) "OneHandEach$Changes" "done" "I") ∈ m_ws := m_at 241 (by decide +kernel) rfl
theorem q_242 : (Jvm.Cond.fieldLink "OneHandEach$Changes" (28 : Nat) "OneHandEach$Changes" "known" "I") ∈ m_ws := m_at 242 (by decide +kernel) rfl
theorem q_254 : (Jvm.Cond.classLink "OneHandEach" (56 : Nat) "OneHandEach$Image") ∈ m_ws := m_at 254 (by decide +kernel) rfl
theorem q_255 : (Jvm.Cond.instantiable "OneHandEach$Image" (6 : Nat)) ∈ m_ws := m_at 255 (by decide +kernel) rfl
theorem q_256 : (Jvm.Cond.methodLink "OneHandEach" (58 : Nat) ({ cls := "OneHandEach$Image", name := "<init>", desc := "()V" } : Jvm.MethodName)) ∈ m_ws := m_at 256 (by decide +kernel) rfl
theorem q_257 : (Jvm.Cond.instanceMethod ({ cls := "OneHandEach$Image", name := "<init>", desc := "()V" } : Jvm.MethodName)) ∈ m_ws := m_at 257 (by decide +kernel) rfl
theorem q_258 : (Jvm.Cond.code ({ cls := "OneHandEach$Image", name := "<init>", desc := "()V" } : Jvm.MethodName) prog_7_method_1_code (1 : Nat) (Option.none : Option Jvm.ClassFile.FieldType)) ∈ m_ws := m_at 258 (by decide +kernel) rfl
theorem q_259 : (Jvm.Cond.methodLink "OneHandEach$Image" (1 : Nat) ({ cls := "java/lang/Object", name := "<init>", desc := "()V" } : Jvm.MethodName)) ∈ m_ws := m_at 259 (by decide +kernel) rfl
theorem q_260 : (Jvm.Cond.classLink "OneHandEach$Image" (7 : Nat) "OneHandEach$Entries") ∈ m_ws := m_at 260 (by decide +kernel) rfl
theorem q_261 : (Jvm.Cond.methodLink "OneHandEach$Image" (9 : Nat) ({ cls := "OneHandEach$Entries", name := "<init>", desc := "(II)V" } : Jvm.MethodName)) ∈ m_ws := m_at 261 (by decide +kernel) rfl
theorem q_262 : (Jvm.Cond.fieldLink "OneHandEach$Image" (12 : Nat) "OneHandEach$Image" "sights" "LOneHandEach$Entries;") ∈ m_ws := m_at 262 (by decide +kernel) rfl
theorem q_263 : (Jvm.Cond.fieldLink "OneHandEach" (238 : Nat) "OneHandEach$Image" "sights" "LOneHandEach$Entries;") ∈ m_ws := m_at 263 (by decide +kernel) rfl
theorem q_264 : (Jvm.Cond.fieldLink "OneHandEach$Image" (18 : Nat) "OneHandEach$Image" "guns" "LOneHandEach$Entries;") ∈ m_ws := m_at 264 (by decide +kernel) rfl
theorem q_265 : (Jvm.Cond.fieldLink "OneHandEach" (243 : Nat) "OneHandEach$Image" "guns" "LOneHandEach$Entries;") ∈ m_ws := m_at 265 (by decide +kernel) rfl
theorem q_266 : (Jvm.Cond.fieldLink "OneHandEach$Image" (21 : Nat) "OneHandEach$Image" "off" "[I") ∈ m_ws := m_at 266 (by decide +kernel) rfl
theorem q_267 : (Jvm.Cond.fieldLink "OneHandEach" (244 : Nat) "OneHandEach$Image" "off" "[I") ∈ m_ws := m_at 267 (by decide +kernel) rfl
theorem q_268 : (Jvm.Cond.fieldLink "OneHandEach$Image" (25 : Nat) "OneHandEach$Image" "timesSet" "[I") ∈ m_ws := m_at 268 (by decide +kernel) rfl
theorem q_269 : (Jvm.Cond.fieldLink "OneHandEach" (249 : Nat) "OneHandEach$Image" "timesSet" "[I") ∈ m_ws := m_at 269 (by decide +kernel) rfl
theorem q_270 : (Jvm.Cond.fieldLink "OneHandEach$Image" (28 : Nat) "OneHandEach$Image" "latestSet" "[I") ∈ m_ws := m_at 270 (by decide +kernel) rfl
theorem q_271 : (Jvm.Cond.fieldLink "OneHandEach" (250 : Nat) "OneHandEach$Image" "latestSet" "[I") ∈ m_ws := m_at 271 (by decide +kernel) rfl
theorem q_272 : (Jvm.Cond.fieldLink "OneHandEach" (234 : Nat) "OneHandEach$Image" "there" "Z") ∈ m_ws := m_at 272 (by decide +kernel) rfl
theorem q_286 : (Jvm.Cond.classLink "OneHandEach" (63 : Nat) "OneHandEach$Bodies") ∈ m_ws := m_at 286 (by decide +kernel) rfl
theorem q_287 : (Jvm.Cond.instantiable "OneHandEach$Bodies" (4 : Nat)) ∈ m_ws := m_at 287 (by decide +kernel) rfl
theorem q_288 : (Jvm.Cond.methodLink "OneHandEach" (65 : Nat) ({ cls := "OneHandEach$Bodies", name := "<init>", desc := "()V" } : Jvm.MethodName)) ∈ m_ws := m_at 288 (by decide +kernel) rfl
theorem q_289 : (Jvm.Cond.instanceMethod ({ cls := "OneHandEach$Bodies", name := "<init>", desc := "()V" } : Jvm.MethodName)) ∈ m_ws := m_at 289 (by decide +kernel) rfl
theorem q_290 : (Jvm.Cond.code ({ cls := "OneHandEach$Bodies", name := "<init>", desc := "()V" } : Jvm.MethodName) prog_2_method_1_code (1 : Nat) (Option.none : Option Jvm.ClassFile.FieldType)) ∈ m_ws := m_at 290 (by decide +kernel) rfl
theorem q_291 : (Jvm.Cond.methodLink "OneHandEach$Bodies" (3 : Nat) ({ cls := "java/lang/Object", name := "<init>", desc := "()V" } : Jvm.MethodName)) ∈ m_ws := m_at 291 (by decide +kernel) rfl
theorem q_292 : (Jvm.Cond.fieldLink "OneHandEach$Bodies" (11 : Nat) "OneHandEach$Bodies" "kinds" "[I") ∈ m_ws := m_at 292 (by decide +kernel) rfl
theorem q_293 : (Jvm.Cond.fieldLink "OneHandEach$Bodies" (15 : Nat) "OneHandEach$Bodies" "traced" "[I") ∈ m_ws := m_at 293 (by decide +kernel) rfl
theorem q_294 : (Jvm.Cond.fieldLink "OneHandEach" (269 : Nat) "OneHandEach$Bodies" "traced" "[I") ∈ m_ws := m_at 294 (by decide +kernel) rfl
theorem q_295 : (Jvm.Cond.fieldLink "OneHandEach$Bodies" (18 : Nat) "OneHandEach$Bodies" "count" "I") ∈ m_ws := m_at 295 (by decide +kernel) rfl
theorem q_296 : (Jvm.Cond.fieldLink "OneHandEach" (272 : Nat) "OneHandEach$Bodies" "count" "I") ∈ m_ws := m_at 296 (by decide +kernel) rfl
theorem q_297 : (Jvm.Cond.fieldLink "OneHandEach$Bodies" (29 : Nat) "OneHandEach$Bodies" "ran" "I") ∈ m_ws := m_at 297 (by decide +kernel) rfl
theorem q_298 : (Jvm.Cond.fieldLink "OneHandEach" (266 : Nat) "OneHandEach$Bodies" "ran" "I") ∈ m_ws := m_at 298 (by decide +kernel) rfl
theorem q_308 : (Jvm.Cond.classLink "OneHandEach" (70 : Nat) "OneHandEach$Shelf") ∈ m_ws := m_at 308 (by decide +kernel) rfl
theorem q_310 : (Jvm.Cond.instantiable "OneHandEach$Shelf" (5 : Nat)) ∈ m_ws := m_at 310 (by decide +kernel) rfl
theorem q_311 : (Jvm.Cond.methodLink "OneHandEach" (76 : Nat) ({ cls := "OneHandEach$Shelf", name := "<init>", desc := "()V" } : Jvm.MethodName)) ∈ m_ws := m_at 311 (by decide +kernel) rfl
theorem q_312 : (Jvm.Cond.instanceMethod ({ cls := "OneHandEach$Shelf", name := "<init>", desc := "()V" } : Jvm.MethodName)) ∈ m_ws := m_at 312 (by decide +kernel) rfl
theorem q_313 : (Jvm.Cond.code ({ cls := "OneHandEach$Shelf", name := "<init>", desc := "()V" } : Jvm.MethodName) prog_11_method_1_code (1 : Nat) (Option.none : Option Jvm.ClassFile.FieldType)) ∈ m_ws := m_at 313 (by decide +kernel) rfl
theorem q_314 : (Jvm.Cond.methodLink "OneHandEach$Shelf" (1 : Nat) ({ cls := "java/lang/Object", name := "<init>", desc := "()V" } : Jvm.MethodName)) ∈ m_ws := m_at 314 (by decide +kernel) rfl
theorem q_315 : (Jvm.Cond.fieldLink "OneHandEach$Shelf" (9 : Nat) "OneHandEach$Shelf" "elements" "[J") ∈ m_ws := m_at 315 (by decide +kernel) rfl
theorem q_316 : (Jvm.Cond.fieldLink "OneHandEach" (282 : Nat) "OneHandEach$Shelf" "elements" "[J") ∈ m_ws := m_at 316 (by decide +kernel) rfl
theorem q_317 : (Jvm.Cond.fieldLink "OneHandEach$Shelf" (13 : Nat) "OneHandEach$Shelf" "held" "I") ∈ m_ws := m_at 317 (by decide +kernel) rfl
theorem q_318 : (Jvm.Cond.fieldLink "OneHandEach" (141 : Nat) "OneHandEach$Shelf" "held" "I") ∈ m_ws := m_at 318 (by decide +kernel) rfl
theorem q_319 : (Jvm.Cond.fieldLink "OneHandEach" (273 : Nat) "OneHandEach$Shelf" "body" "I") ∈ m_ws := m_at 319 (by decide +kernel) rfl
theorem q_320 : (Jvm.Cond.fieldLink "OneHandEach$Shelf" (17 : Nat) "OneHandEach$Shelf" "sort" "I") ∈ m_ws := m_at 320 (by decide +kernel) rfl
theorem q_321 : (Jvm.Cond.fieldLink "OneHandEach" (292 : Nat) "OneHandEach$Shelf" "sort" "I") ∈ m_ws := m_at 321 (by decide +kernel) rfl
theorem q_322 : (Jvm.Cond.fieldLink "OneHandEach$Shelf" (20 : Nat) "OneHandEach$Shelf" "length" "I") ∈ m_ws := m_at 322 (by decide +kernel) rfl
theorem q_323 : (Jvm.Cond.fieldLink "OneHandEach" (227 : Nat) "OneHandEach$Shelf" "length" "I") ∈ m_ws := m_at 323 (by decide +kernel) rfl
theorem q_335 : (Jvm.Cond.arrayClass Jvm.ClassFile.FieldType.long) ∈ m_ws := m_at 335 (by decide +kernel) rfl
theorem q_336 : (Jvm.Cond.fieldLink "OneHandEach" (10 : Nat) "OneHandEach" "town" "LOneHandEach$Town;") ∈ m_ws := m_at 336 (by decide +kernel) rfl
theorem q_337 : (Jvm.Cond.fieldLink "OneHandEach" (21 : Nat) "OneHandEach" "sights" "LOneHandEach$Entries;") ∈ m_ws := m_at 337 (by decide +kernel) rfl
theorem q_338 : (Jvm.Cond.fieldLink "OneHandEach" (25 : Nat) "OneHandEach" "guns" "LOneHandEach$Entries;") ∈ m_ws := m_at 338 (by decide +kernel) rfl
theorem q_339 : (Jvm.Cond.fieldLink "OneHandEach" (31 : Nat) "OneHandEach" "law" "LOneHandEach$Law;") ∈ m_ws := m_at 339 (by decide +kernel) rfl
theorem q_340 : (Jvm.Cond.fieldLink "OneHandEach" (38 : Nat) "OneHandEach" "fitting" "LOneHandEach$Fitting;") ∈ m_ws := m_at 340 (by decide +kernel) rfl
theorem q_341 : (Jvm.Cond.fieldLink "OneHandEach" (45 : Nat) "OneHandEach" "guesses" "LOneHandEach$Guesses;") ∈ m_ws := m_at 341 (by decide +kernel) rfl
theorem q_342 : (Jvm.Cond.fieldLink "OneHandEach" (52 : Nat) "OneHandEach" "changes" "LOneHandEach$Changes;") ∈ m_ws := m_at 342 (by decide +kernel) rfl
theorem q_343 : (Jvm.Cond.fieldLink "OneHandEach" (59 : Nat) "OneHandEach" "kept" "LOneHandEach$Image;") ∈ m_ws := m_at 343 (by decide +kernel) rfl
theorem q_344 : (Jvm.Cond.fieldLink "OneHandEach" (66 : Nat) "OneHandEach" "bodies" "LOneHandEach$Bodies;") ∈ m_ws := m_at 344 (by decide +kernel) rfl
theorem q_345 : (Jvm.Cond.fieldLink "OneHandEach" (72 : Nat) "OneHandEach" "shelves" "[LOneHandEach$Shelf;") ∈ m_ws := m_at 345 (by decide +kernel) rfl
theorem q_367 : (Jvm.Cond.methodLink "OneHandEachLaw" (13 : Nat) ({ cls := "OneHandEach", name := "mend", desc := "(III)I" } : Jvm.MethodName)) ∈ m_ws := m_at 367 (by decide +kernel) rfl
theorem q_368 : (Jvm.Cond.instanceMethod ({ cls := "OneHandEach", name := "mend", desc := "(III)I" } : Jvm.MethodName)) ∈ m_ws := m_at 368 (by decide +kernel) rfl
theorem q_369 : (Jvm.Cond.selects "OneHandEach" ({ cls := "OneHandEach", name := "mend", desc := "(III)I" } : Jvm.MethodName) ({ cls := "OneHandEach", name := "mend", desc := "(III)I" } : Jvm.MethodName)) ∈ m_ws := m_at 369 (by decide +kernel) rfl
theorem q_370 : (Jvm.Cond.code ({ cls := "OneHandEach", name := "mend", desc := "(III)I" } : Jvm.MethodName) prog_1_method_2_code (6 : Nat) (Option.some Jvm.ClassFile.FieldType.int)) ∈ m_ws := m_at 370 (by decide +kernel) rfl
theorem q_371 : (Jvm.Cond.methodLink "OneHandEach" (77 : Nat) ({ cls := "OneHandEach$Town", name := "placeOf", desc := "(II)I" } : Jvm.MethodName)) ∈ m_ws := m_at 371 (by decide +kernel) rfl
theorem q_372 : (Jvm.Cond.static ({ cls := "OneHandEach$Town", name := "placeOf", desc := "(II)I" } : Jvm.MethodName)) ∈ m_ws := m_at 372 (by decide +kernel) rfl
theorem q_373 : (Jvm.Cond.code ({ cls := "OneHandEach$Town", name := "placeOf", desc := "(II)I" } : Jvm.MethodName) prog_12_method_2_code (2 : Nat) (Option.some Jvm.ClassFile.FieldType.int)) ∈ m_ws := m_at 373 (by decide +kernel) rfl
theorem q_375 : (Jvm.Cond.static ({ cls := "OneHandEach", name := "isClock", desc := "(I)Z" } : Jvm.MethodName)) ∈ m_ws := m_at 375 (by decide +kernel) rfl
theorem q_376 : (Jvm.Cond.code ({ cls := "OneHandEach", name := "isClock", desc := "(I)Z" } : Jvm.MethodName) prog_1_method_41_code (1 : Nat) (Option.some Jvm.ClassFile.FieldType.boolean)) ∈ m_ws := m_at 376 (by decide +kernel) rfl
theorem q_377 : (Jvm.Cond.methodLink "OneHandEach" (81 : Nat) ({ cls := "OneHandEach$Town", name := "allows", desc := "(II)Z" } : Jvm.MethodName)) ∈ m_ws := m_at 377 (by decide +kernel) rfl
theorem q_378 : (Jvm.Cond.instanceMethod ({ cls := "OneHandEach$Town", name := "allows", desc := "(II)Z" } : Jvm.MethodName)) ∈ m_ws := m_at 378 (by decide +kernel) rfl
theorem q_379 : (Jvm.Cond.selects "OneHandEach$Town" ({ cls := "OneHandEach$Town", name := "allows", desc := "(II)Z" } : Jvm.MethodName) ({ cls := "OneHandEach$Town", name := "allows", desc := "(II)Z" } : Jvm.MethodName)) ∈ m_ws := m_at 379 (by decide +kernel) rfl
theorem q_380 : (Jvm.Cond.code ({ cls := "OneHandEach$Town", name := "allows", desc := "(II)Z" } : Jvm.MethodName) prog_12_method_3_code (3 : Nat) (Option.some Jvm.ClassFile.FieldType.boolean)) ∈ m_ws := m_at 380 (by decide +kernel) rfl
theorem q_381 : (Jvm.Cond.constant "OneHandEach" (85 : Nat) (-2000000000 : Int32)) ∈ m_ws := m_at 381 (by decide +kernel) rfl
theorem q_382 : (Jvm.Cond.methodLink "OneHandEach" (90 : Nat) ({ cls := "OneHandEach$Changes", name := "add", desc := "(III)V" } : Jvm.MethodName)) ∈ m_ws := m_at 382 (by decide +kernel) rfl
theorem q_383 : (Jvm.Cond.instanceMethod ({ cls := "OneHandEach$Changes", name := "add", desc := "(III)V" } : Jvm.MethodName)) ∈ m_ws := m_at 383 (by decide +kernel) rfl
theorem q_384 : (Jvm.Cond.selects "OneHandEach$Changes" ({ cls := "OneHandEach$Changes", name := "add", desc := "(III)V" } : Jvm.MethodName) ({ cls := "OneHandEach$Changes", name := "add", desc := "(III)V" } : Jvm.MethodName)) ∈ m_ws := m_at 384 (by decide +kernel) rfl
theorem q_385 : (Jvm.Cond.code ({ cls := "OneHandEach$Changes", name := "add", desc := "(III)V" } : Jvm.MethodName) prog_3_method_2_code (4 : Nat) (Option.none : Option Jvm.ClassFile.FieldType)) ∈ m_ws := m_at 385 (by decide +kernel) rfl
theorem q_386 : (Jvm.Cond.methodLink "OneHandEach$Changes" (25 : Nat) ({ cls := "OneHandEach$Changes", name := "dropEldest", desc := "()V" } : Jvm.MethodName)) ∈ m_ws := m_at 386 (by decide +kernel) rfl
theorem q_388 : (Jvm.Cond.instanceMethod ({ cls := "OneHandEach$Changes", name := "dropEldest", desc := "()V" } : Jvm.MethodName)) ∈ m_ws := m_at 388 (by decide +kernel) rfl
theorem q_389 : (Jvm.Cond.code ({ cls := "OneHandEach$Changes", name := "dropEldest", desc := "()V" } : Jvm.MethodName) prog_3_method_3_code (2 : Nat) (Option.none : Option Jvm.ClassFile.FieldType)) ∈ m_ws := m_at 389 (by decide +kernel) rfl
theorem q_390 : (Jvm.Cond.methodLink "OneHandEachLaw" (18 : Nat) ({ cls := "OneHandEach", name := "of", desc := "(II)I" } : Jvm.MethodName)) ∈ m_ws := m_at 390 (by decide +kernel) rfl
theorem q_391 : (Jvm.Cond.instanceMethod ({ cls := "OneHandEach", name := "of", desc := "(II)I" } : Jvm.MethodName)) ∈ m_ws := m_at 391 (by decide +kernel) rfl
theorem q_392 : (Jvm.Cond.selects "OneHandEach" ({ cls := "OneHandEach", name := "of", desc := "(II)I" } : Jvm.MethodName) ({ cls := "OneHandEach", name := "of", desc := "(II)I" } : Jvm.MethodName)) ∈ m_ws := m_at 392 (by decide +kernel) rfl
theorem q_393 : (Jvm.Cond.code ({ cls := "OneHandEach", name := "of", desc := "(II)I" } : Jvm.MethodName) prog_1_method_3_code (4 : Nat) (Option.some Jvm.ClassFile.FieldType.int)) ∈ m_ws := m_at 393 (by decide +kernel) rfl
theorem q_394 : (Jvm.Cond.methodLink "OneHandEach" (94 : Nat) ({ cls := "OneHandEach$Entries", name := "told", desc := "(II)I" } : Jvm.MethodName)) ∈ m_ws := m_at 394 (by decide +kernel) rfl
theorem q_395 : (Jvm.Cond.instanceMethod ({ cls := "OneHandEach$Entries", name := "told", desc := "(II)I" } : Jvm.MethodName)) ∈ m_ws := m_at 395 (by decide +kernel) rfl
theorem q_396 : (Jvm.Cond.selects "OneHandEach$Entries" ({ cls := "OneHandEach$Entries", name := "told", desc := "(II)I" } : Jvm.MethodName) ({ cls := "OneHandEach$Entries", name := "told", desc := "(II)I" } : Jvm.MethodName)) ∈ m_ws := m_at 396 (by decide +kernel) rfl
theorem q_397 : (Jvm.Cond.code ({ cls := "OneHandEach$Entries", name := "told", desc := "(II)I" } : Jvm.MethodName) prog_4_method_5_code (3 : Nat) (Option.some Jvm.ClassFile.FieldType.int)) ∈ m_ws := m_at 397 (by decide +kernel) rfl
theorem q_399 : (Jvm.Cond.static ({ cls := "OneHandEach", name := "isOneOf", desc := "(II)Z" } : Jvm.MethodName)) ∈ m_ws := m_at 399 (by decide +kernel) rfl
theorem q_400 : (Jvm.Cond.code ({ cls := "OneHandEach", name := "isOneOf", desc := "(II)Z" } : Jvm.MethodName) prog_1_method_40_code (2 : Nat) (Option.some Jvm.ClassFile.FieldType.boolean)) ∈ m_ws := m_at 400 (by decide +kernel) rfl
theorem q_401 : (Jvm.Cond.constant "OneHandEach$Entries" (37 : Nat) (-2000000000 : Int32)) ∈ m_ws := m_at 401 (by decide +kernel) rfl
theorem q_402 : (Jvm.Cond.methodLink "OneHandEachLaw" (23 : Nat) ({ cls := "OneHandEach", name := "shown", desc := "(III)I" } : Jvm.MethodName)) ∈ m_ws := m_at 402 (by decide +kernel) rfl
theorem q_403 : (Jvm.Cond.instanceMethod ({ cls := "OneHandEach", name := "shown", desc := "(III)I" } : Jvm.MethodName)) ∈ m_ws := m_at 403 (by decide +kernel) rfl
theorem q_404 : (Jvm.Cond.selects "OneHandEach" ({ cls := "OneHandEach", name := "shown", desc := "(III)I" } : Jvm.MethodName) ({ cls := "OneHandEach", name := "shown", desc := "(III)I" } : Jvm.MethodName)) ∈ m_ws := m_at 404 (by decide +kernel) rfl
theorem q_405 : (Jvm.Cond.code ({ cls := "OneHandEach", name := "shown", desc := "(III)I" } : Jvm.MethodName) prog_1_method_4_code (4 : Nat) (Option.some Jvm.ClassFile.FieldType.int)) ∈ m_ws := m_at 405 (by decide +kernel) rfl
theorem q_406 : (Jvm.Cond.methodLink "OneHandEach" (97 : Nat) ({ cls := "OneHandEach", name := "isClock", desc := "(I)Z" } : Jvm.MethodName)) ∈ m_ws := m_at 406 (by decide +kernel) rfl
theorem q_407 : (Jvm.Cond.methodLink "OneHandEach" (101 : Nat) ({ cls := "OneHandEach", name := "isMinute", desc := "(I)Z" } : Jvm.MethodName)) ∈ m_ws := m_at 407 (by decide +kernel) rfl
theorem q_408 : (Jvm.Cond.static ({ cls := "OneHandEach", name := "isMinute", desc := "(I)Z" } : Jvm.MethodName)) ∈ m_ws := m_at 408 (by decide +kernel) rfl
theorem q_409 : (Jvm.Cond.code ({ cls := "OneHandEach", name := "isMinute", desc := "(I)Z" } : Jvm.MethodName) prog_1_method_42_code (1 : Nat) (Option.some Jvm.ClassFile.FieldType.boolean)) ∈ m_ws := m_at 409 (by decide +kernel) rfl
theorem q_410 : (Jvm.Cond.constant "OneHandEach" (313 : Nat) (99999 : Int32)) ∈ m_ws := m_at 410 (by decide +kernel) rfl
theorem q_411 : (Jvm.Cond.methodLink "OneHandEach" (104 : Nat) ({ cls := "OneHandEach", name := "isOneOf", desc := "(II)Z" } : Jvm.MethodName)) ∈ m_ws := m_at 411 (by decide +kernel) rfl
theorem q_412 : (Jvm.Cond.methodLink "OneHandEach" (107 : Nat) ({ cls := "OneHandEach$Town", name := "timeAt", desc := "(II)I" } : Jvm.MethodName)) ∈ m_ws := m_at 412 (by decide +kernel) rfl
theorem q_413 : (Jvm.Cond.instanceMethod ({ cls := "OneHandEach$Town", name := "timeAt", desc := "(II)I" } : Jvm.MethodName)) ∈ m_ws := m_at 413 (by decide +kernel) rfl
theorem q_414 : (Jvm.Cond.selects "OneHandEach$Town" ({ cls := "OneHandEach$Town", name := "timeAt", desc := "(II)I" } : Jvm.MethodName) ({ cls := "OneHandEach$Town", name := "timeAt", desc := "(II)I" } : Jvm.MethodName)) ∈ m_ws := m_at 414 (by decide +kernel) rfl
theorem q_415 : (Jvm.Cond.code ({ cls := "OneHandEach$Town", name := "timeAt", desc := "(II)I" } : Jvm.MethodName) prog_12_method_9_code (3 : Nat) (Option.some Jvm.ClassFile.FieldType.int)) ∈ m_ws := m_at 415 (by decide +kernel) rfl
theorem q_416 : (Jvm.Cond.methodLink "OneHandEach$Town" (31 : Nat) ({ cls := "OneHandEach$Town", name := "off", desc := "(I)I" } : Jvm.MethodName)) ∈ m_ws := m_at 416 (by decide +kernel) rfl
theorem q_417 : (Jvm.Cond.instanceMethod ({ cls := "OneHandEach$Town", name := "off", desc := "(I)I" } : Jvm.MethodName)) ∈ m_ws := m_at 417 (by decide +kernel) rfl
theorem q_418 : (Jvm.Cond.selects "OneHandEach$Town" ({ cls := "OneHandEach$Town", name := "off", desc := "(I)I" } : Jvm.MethodName) ({ cls := "OneHandEach$Town", name := "off", desc := "(I)I" } : Jvm.MethodName)) ∈ m_ws := m_at 418 (by decide +kernel) rfl
theorem q_419 : (Jvm.Cond.code ({ cls := "OneHandEach$Town", name := "off", desc := "(I)I" } : Jvm.MethodName) prog_12_method_4_code (2 : Nat) (Option.some Jvm.ClassFile.FieldType.int)) ∈ m_ws := m_at 419 (by decide +kernel) rfl
theorem q_420 : (Jvm.Cond.methodLink "OneHandEach$Town" (35 : Nat) ({ cls := "OneHandEach$Town", name := "gain", desc := "(I)I" } : Jvm.MethodName)) ∈ m_ws := m_at 420 (by decide +kernel) rfl
theorem q_421 : (Jvm.Cond.instanceMethod ({ cls := "OneHandEach$Town", name := "gain", desc := "(I)I" } : Jvm.MethodName)) ∈ m_ws := m_at 421 (by decide +kernel) rfl
theorem q_422 : (Jvm.Cond.selects "OneHandEach$Town" ({ cls := "OneHandEach$Town", name := "gain", desc := "(I)I" } : Jvm.MethodName) ({ cls := "OneHandEach$Town", name := "gain", desc := "(I)I" } : Jvm.MethodName)) ∈ m_ws := m_at 422 (by decide +kernel) rfl
theorem q_423 : (Jvm.Cond.code ({ cls := "OneHandEach$Town", name := "gain", desc := "(I)I" } : Jvm.MethodName) prog_12_method_5_code (2 : Nat) (Option.some Jvm.ClassFile.FieldType.int)) ∈ m_ws := m_at 423 (by decide +kernel) rfl
theorem q_424 : (Jvm.Cond.methodLink "OneHandEach$Town" (38 : Nat) ({ cls := "OneHandEach$Town", name := "timeBy", desc := "(III)I" } : Jvm.MethodName)) ∈ m_ws := m_at 424 (by decide +kernel) rfl
theorem q_425 : (Jvm.Cond.static ({ cls := "OneHandEach$Town", name := "timeBy", desc := "(III)I" } : Jvm.MethodName)) ∈ m_ws := m_at 425 (by decide +kernel) rfl
theorem q_426 : (Jvm.Cond.code ({ cls := "OneHandEach$Town", name := "timeBy", desc := "(III)I" } : Jvm.MethodName) prog_12_method_7_code (3 : Nat) (Option.some Jvm.ClassFile.FieldType.int)) ∈ m_ws := m_at 426 (by decide +kernel) rfl
theorem q_427 : (Jvm.Cond.methodLink "OneHandEach$Town" (25 : Nat) ({ cls := "java/lang/Math", name := "floorMod", desc := "(II)I" } : Jvm.MethodName)) ∈ m_ws := m_at 427 (by decide +kernel) rfl
theorem q_428 : (Jvm.Cond.static ({ cls := "java/lang/Math", name := "floorMod", desc := "(II)I" } : Jvm.MethodName)) ∈ m_ws := m_at 428 (by decide +kernel) rfl
theorem q_429 : (Jvm.Cond.code ({ cls := "java/lang/Math", name := "floorMod", desc := "(II)I" } : Jvm.MethodName) prog_16_method_50_code (3 : Nat) (Option.some Jvm.ClassFile.FieldType.int)) ∈ m_ws := m_at 429 (by decide +kernel) rfl
theorem q_430 : (Jvm.Cond.methodLink "OneHandEach" (110 : Nat) ({ cls := "OneHandEach$Town", name := "partAt", desc := "(II)I" } : Jvm.MethodName)) ∈ m_ws := m_at 430 (by decide +kernel) rfl
theorem q_431 : (Jvm.Cond.instanceMethod ({ cls := "OneHandEach$Town", name := "partAt", desc := "(II)I" } : Jvm.MethodName)) ∈ m_ws := m_at 431 (by decide +kernel) rfl
theorem q_432 : (Jvm.Cond.selects "OneHandEach$Town" ({ cls := "OneHandEach$Town", name := "partAt", desc := "(II)I" } : Jvm.MethodName) ({ cls := "OneHandEach$Town", name := "partAt", desc := "(II)I" } : Jvm.MethodName)) ∈ m_ws := m_at 432 (by decide +kernel) rfl
theorem q_433 : (Jvm.Cond.code ({ cls := "OneHandEach$Town", name := "partAt", desc := "(II)I" } : Jvm.MethodName) prog_12_method_10_code (3 : Nat) (Option.some Jvm.ClassFile.FieldType.int)) ∈ m_ws := m_at 433 (by decide +kernel) rfl
theorem q_434 : (Jvm.Cond.methodLink "OneHandEach$Town" (42 : Nat) ({ cls := "OneHandEach$Town", name := "timeAt", desc := "(II)I" } : Jvm.MethodName)) ∈ m_ws := m_at 434 (by decide +kernel) rfl
theorem q_435 : (Jvm.Cond.methodLink "OneHandEach$Town" (45 : Nat) ({ cls := "OneHandEach$Town", name := "partOf", desc := "(II)I" } : Jvm.MethodName)) ∈ m_ws := m_at 435 (by decide +kernel) rfl
theorem q_436 : (Jvm.Cond.static ({ cls := "OneHandEach$Town", name := "partOf", desc := "(II)I" } : Jvm.MethodName)) ∈ m_ws := m_at 436 (by decide +kernel) rfl
theorem q_437 : (Jvm.Cond.code ({ cls := "OneHandEach$Town", name := "partOf", desc := "(II)I" } : Jvm.MethodName) prog_12_method_8_code (2 : Nat) (Option.some Jvm.ClassFile.FieldType.int)) ∈ m_ws := m_at 437 (by decide +kernel) rfl
theorem q_438 : (Jvm.Cond.methodLink "OneHandEachLaw" (27 : Nat) ({ cls := "OneHandEach", name := "feed", desc := "(I)I" } : Jvm.MethodName)) ∈ m_ws := m_at 438 (by decide +kernel) rfl
theorem q_439 : (Jvm.Cond.instanceMethod ({ cls := "OneHandEach", name := "feed", desc := "(I)I" } : Jvm.MethodName)) ∈ m_ws := m_at 439 (by decide +kernel) rfl
theorem q_440 : (Jvm.Cond.selects "OneHandEach" ({ cls := "OneHandEach", name := "feed", desc := "(I)I" } : Jvm.MethodName) ({ cls := "OneHandEach", name := "feed", desc := "(I)I" } : Jvm.MethodName)) ∈ m_ws := m_at 440 (by decide +kernel) rfl
theorem q_441 : (Jvm.Cond.code ({ cls := "OneHandEach", name := "feed", desc := "(I)I" } : Jvm.MethodName) prog_1_method_5_code (2 : Nat) (Option.some Jvm.ClassFile.FieldType.int)) ∈ m_ws := m_at 441 (by decide +kernel) rfl
theorem q_442 : (Jvm.Cond.methodLink "OneHandEach" (113 : Nat) ({ cls := "OneHandEach$Law", name := "takeByte", desc := "(I)I" } : Jvm.MethodName)) ∈ m_ws := m_at 442 (by decide +kernel) rfl
theorem q_443 : (Jvm.Cond.instanceMethod ({ cls := "OneHandEach$Law", name := "takeByte", desc := "(I)I" } : Jvm.MethodName)) ∈ m_ws := m_at 443 (by decide +kernel) rfl
theorem q_444 : (Jvm.Cond.selects "OneHandEach$Law" ({ cls := "OneHandEach$Law", name := "takeByte", desc := "(I)I" } : Jvm.MethodName) ({ cls := "OneHandEach$Law", name := "takeByte", desc := "(I)I" } : Jvm.MethodName)) ∈ m_ws := m_at 444 (by decide +kernel) rfl
theorem q_445 : (Jvm.Cond.code ({ cls := "OneHandEach$Law", name := "takeByte", desc := "(I)I" } : Jvm.MethodName) prog_8_method_2_code (2 : Nat) (Option.some Jvm.ClassFile.FieldType.int)) ∈ m_ws := m_at 445 (by decide +kernel) rfl
theorem q_446 : (Jvm.Cond.methodLink "OneHandEach$Law" (27 : Nat) ({ cls := "OneHandEach$Reader", name := "takeByte", desc := "(I)I" } : Jvm.MethodName)) ∈ m_ws := m_at 446 (by decide +kernel) rfl
theorem q_447 : (Jvm.Cond.instanceMethod ({ cls := "OneHandEach$Reader", name := "takeByte", desc := "(I)I" } : Jvm.MethodName)) ∈ m_ws := m_at 447 (by decide +kernel) rfl
theorem q_448 : (Jvm.Cond.selects "OneHandEach$Reader" ({ cls := "OneHandEach$Reader", name := "takeByte", desc := "(I)I" } : Jvm.MethodName) ({ cls := "OneHandEach$Reader", name := "takeByte", desc := "(I)I" } : Jvm.MethodName)) ∈ m_ws := m_at 448 (by decide +kernel) rfl
theorem q_449 : (Jvm.Cond.code ({ cls := "OneHandEach$Reader", name := "takeByte", desc := "(I)I" } : Jvm.MethodName) prog_10_method_2_code (2 : Nat) (Option.some Jvm.ClassFile.FieldType.int)) ∈ m_ws := m_at 449 (by decide +kernel) rfl
theorem q_450 : (Jvm.Cond.methodLink "OneHandEachLaw" (32 : Nat) ({ cls := "OneHandEach", name := "law", desc := "()I" } : Jvm.MethodName)) ∈ m_ws := m_at 450 (by decide +kernel) rfl
theorem q_451 : (Jvm.Cond.instanceMethod ({ cls := "OneHandEach", name := "law", desc := "()I" } : Jvm.MethodName)) ∈ m_ws := m_at 451 (by decide +kernel) rfl
theorem q_452 : (Jvm.Cond.selects "OneHandEach" ({ cls := "OneHandEach", name := "law", desc := "()I" } : Jvm.MethodName) ({ cls := "OneHandEach", name := "law", desc := "()I" } : Jvm.MethodName)) ∈ m_ws := m_at 452 (by decide +kernel) rfl
theorem q_453 : (Jvm.Cond.code ({ cls := "OneHandEach", name := "law", desc := "()I" } : Jvm.MethodName) prog_1_method_6_code (2 : Nat) (Option.some Jvm.ClassFile.FieldType.int)) ∈ m_ws := m_at 453 (by decide +kernel) rfl
theorem q_454 : (Jvm.Cond.methodLink "OneHandEach" (117 : Nat) ({ cls := "OneHandEach$Law", name := "readTape", desc := "()I" } : Jvm.MethodName)) ∈ m_ws := m_at 454 (by decide +kernel) rfl
theorem q_455 : (Jvm.Cond.instanceMethod ({ cls := "OneHandEach$Law", name := "readTape", desc := "()I" } : Jvm.MethodName)) ∈ m_ws := m_at 455 (by decide +kernel) rfl
theorem q_456 : (Jvm.Cond.selects "OneHandEach$Law" ({ cls := "OneHandEach$Law", name := "readTape", desc := "()I" } : Jvm.MethodName) ({ cls := "OneHandEach$Law", name := "readTape", desc := "()I" } : Jvm.MethodName)) ∈ m_ws := m_at 456 (by decide +kernel) rfl
theorem q_457 : (Jvm.Cond.code ({ cls := "OneHandEach$Law", name := "readTape", desc := "()I" } : Jvm.MethodName) prog_8_method_4_code (3 : Nat) (Option.some Jvm.ClassFile.FieldType.int)) ∈ m_ws := m_at 457 (by decide +kernel) rfl
theorem q_458 : (Jvm.Cond.methodLink "OneHandEach$Law" (35 : Nat) ({ cls := "OneHandEach$Reader", name := "read", desc := "()I" } : Jvm.MethodName)) ∈ m_ws := m_at 458 (by decide +kernel) rfl
theorem q_459 : (Jvm.Cond.instanceMethod ({ cls := "OneHandEach$Reader", name := "read", desc := "()I" } : Jvm.MethodName)) ∈ m_ws := m_at 459 (by decide +kernel) rfl
theorem q_460 : (Jvm.Cond.selects "OneHandEach$Reader" ({ cls := "OneHandEach$Reader", name := "read", desc := "()I" } : Jvm.MethodName) ({ cls := "OneHandEach$Reader", name := "read", desc := "()I" } : Jvm.MethodName)) ∈ m_ws := m_at 460 (by decide +kernel) rfl
theorem q_461 : (Jvm.Cond.code ({ cls := "OneHandEach$Reader", name := "read", desc := "()I" } : Jvm.MethodName) prog_10_method_3_code (2 : Nat) (Option.some Jvm.ClassFile.FieldType.int)) ∈ m_ws := m_at 461 (by decide +kernel) rfl
theorem q_462 : (Jvm.Cond.methodLink "OneHandEach$Reader" (33 : Nat) ({ cls := "OneHandEach$Reader", name := "line", desc := "()V" } : Jvm.MethodName)) ∈ m_ws := m_at 462 (by decide +kernel) rfl
theorem q_464 : (Jvm.Cond.instanceMethod ({ cls := "OneHandEach$Reader", name := "line", desc := "()V" } : Jvm.MethodName)) ∈ m_ws := m_at 464 (by decide +kernel) rfl
theorem q_465 : (Jvm.Cond.code ({ cls := "OneHandEach$Reader", name := "line", desc := "()V" } : Jvm.MethodName) prog_10_method_6_code (1 : Nat) (Option.none : Option Jvm.ClassFile.FieldType)) ∈ m_ws := m_at 465 (by decide +kernel) rfl
theorem q_466 : (Jvm.Cond.methodLink "OneHandEach$Reader" (44 : Nat) ({ cls := "OneHandEach$Reader", name := "joined", desc := "(II)V" } : Jvm.MethodName)) ∈ m_ws := m_at 466 (by decide +kernel) rfl
theorem q_468 : (Jvm.Cond.instanceMethod ({ cls := "OneHandEach$Reader", name := "joined", desc := "(II)V" } : Jvm.MethodName)) ∈ m_ws := m_at 468 (by decide +kernel) rfl
theorem q_469 : (Jvm.Cond.code ({ cls := "OneHandEach$Reader", name := "joined", desc := "(II)V" } : Jvm.MethodName) prog_10_method_7_code (5 : Nat) (Option.none : Option Jvm.ClassFile.FieldType)) ∈ m_ws := m_at 469 (by decide +kernel) rfl
theorem q_470 : (Jvm.Cond.methodLink "OneHandEach$Reader" (51 : Nat) ({ cls := "OneHandEach$Reader", name := "operand", desc := "(I)V" } : Jvm.MethodName)) ∈ m_ws := m_at 470 (by decide +kernel) rfl
theorem q_472 : (Jvm.Cond.instanceMethod ({ cls := "OneHandEach$Reader", name := "operand", desc := "(I)V" } : Jvm.MethodName)) ∈ m_ws := m_at 472 (by decide +kernel) rfl
theorem q_473 : (Jvm.Cond.code ({ cls := "OneHandEach$Reader", name := "operand", desc := "(I)V" } : Jvm.MethodName) prog_10_method_9_code (3 : Nat) (Option.none : Option Jvm.ClassFile.FieldType)) ∈ m_ws := m_at 473 (by decide +kernel) rfl
theorem q_474 : (Jvm.Cond.methodLink "OneHandEach$Reader" (40 : Nat) ({ cls := "OneHandEach$Reader", name := "here", desc := "()I" } : Jvm.MethodName)) ∈ m_ws := m_at 474 (by decide +kernel) rfl
theorem q_476 : (Jvm.Cond.instanceMethod ({ cls := "OneHandEach$Reader", name := "here", desc := "()I" } : Jvm.MethodName)) ∈ m_ws := m_at 476 (by decide +kernel) rfl
theorem q_477 : (Jvm.Cond.code ({ cls := "OneHandEach$Reader", name := "here", desc := "()I" } : Jvm.MethodName) prog_10_method_4_code (1 : Nat) (Option.some Jvm.ClassFile.FieldType.int)) ∈ m_ws := m_at 477 (by decide +kernel) rfl
theorem q_478 : (Jvm.Cond.methodLink "OneHandEach$Reader" (59 : Nat) ({ cls := "OneHandEach$Reader", name := "number", desc := "()V" } : Jvm.MethodName)) ∈ m_ws := m_at 478 (by decide +kernel) rfl
theorem q_480 : (Jvm.Cond.instanceMethod ({ cls := "OneHandEach$Reader", name := "number", desc := "()V" } : Jvm.MethodName)) ∈ m_ws := m_at 480 (by decide +kernel) rfl
theorem q_481 : (Jvm.Cond.code ({ cls := "OneHandEach$Reader", name := "number", desc := "()V" } : Jvm.MethodName) prog_10_method_11_code (3 : Nat) (Option.none : Option Jvm.ClassFile.FieldType)) ∈ m_ws := m_at 481 (by decide +kernel) rfl
theorem q_482 : (Jvm.Cond.methodLink "OneHandEach$Reader" (48 : Nat) ({ cls := "OneHandEach$Program", name := "add", desc := "(II)V" } : Jvm.MethodName)) ∈ m_ws := m_at 482 (by decide +kernel) rfl
theorem q_483 : (Jvm.Cond.instanceMethod ({ cls := "OneHandEach$Program", name := "add", desc := "(II)V" } : Jvm.MethodName)) ∈ m_ws := m_at 483 (by decide +kernel) rfl
theorem q_484 : (Jvm.Cond.selects "OneHandEach$Program" ({ cls := "OneHandEach$Program", name := "add", desc := "(II)V" } : Jvm.MethodName) ({ cls := "OneHandEach$Program", name := "add", desc := "(II)V" } : Jvm.MethodName)) ∈ m_ws := m_at 484 (by decide +kernel) rfl
theorem q_485 : (Jvm.Cond.code ({ cls := "OneHandEach$Program", name := "add", desc := "(II)V" } : Jvm.MethodName) prog_9_method_2_code (3 : Nat) (Option.none : Option Jvm.ClassFile.FieldType)) ∈ m_ws := m_at 485 (by decide +kernel) rfl
theorem q_486 : (Jvm.Cond.methodLink "OneHandEach$Reader" (62 : Nat) ({ cls := "OneHandEach$Reader", name := "close", desc := "()V" } : Jvm.MethodName)) ∈ m_ws := m_at 486 (by decide +kernel) rfl
theorem q_488 : (Jvm.Cond.instanceMethod ({ cls := "OneHandEach$Reader", name := "close", desc := "()V" } : Jvm.MethodName)) ∈ m_ws := m_at 488 (by decide +kernel) rfl
theorem q_489 : (Jvm.Cond.code ({ cls := "OneHandEach$Reader", name := "close", desc := "()V" } : Jvm.MethodName) prog_10_method_10_code (1 : Nat) (Option.none : Option Jvm.ClassFile.FieldType)) ∈ m_ws := m_at 489 (by decide +kernel) rfl
theorem q_490 : (Jvm.Cond.methodLink "OneHandEach$Reader" (36 : Nat) ({ cls := "OneHandEach$Reader", name := "takes", desc := "(I)Z" } : Jvm.MethodName)) ∈ m_ws := m_at 490 (by decide +kernel) rfl
theorem q_492 : (Jvm.Cond.instanceMethod ({ cls := "OneHandEach$Reader", name := "takes", desc := "(I)Z" } : Jvm.MethodName)) ∈ m_ws := m_at 492 (by decide +kernel) rfl
theorem q_493 : (Jvm.Cond.code ({ cls := "OneHandEach$Reader", name := "takes", desc := "(I)Z" } : Jvm.MethodName) prog_10_method_5_code (2 : Nat) (Option.some Jvm.ClassFile.FieldType.boolean)) ∈ m_ws := m_at 493 (by decide +kernel) rfl
theorem q_494 : (Jvm.Cond.methodLink "OneHandEach$Reader" (55 : Nat) ({ cls := "OneHandEach$Reader", name := "rankOf", desc := "(I)I" } : Jvm.MethodName)) ∈ m_ws := m_at 494 (by decide +kernel) rfl
theorem q_495 : (Jvm.Cond.static ({ cls := "OneHandEach$Reader", name := "rankOf", desc := "(I)I" } : Jvm.MethodName)) ∈ m_ws := m_at 495 (by decide +kernel) rfl
theorem q_496 : (Jvm.Cond.code ({ cls := "OneHandEach$Reader", name := "rankOf", desc := "(I)I" } : Jvm.MethodName) prog_10_method_8_code (1 : Nat) (Option.some Jvm.ClassFile.FieldType.int)) ∈ m_ws := m_at 496 (by decide +kernel) rfl
theorem q_497 : (Jvm.Cond.methodLink "OneHandEachLaw" (37 : Nat) ({ cls := "OneHandEach", name := "weight", desc := "(I)I" } : Jvm.MethodName)) ∈ m_ws := m_at 497 (by decide +kernel) rfl
theorem q_498 : (Jvm.Cond.instanceMethod ({ cls := "OneHandEach", name := "weight", desc := "(I)I" } : Jvm.MethodName)) ∈ m_ws := m_at 498 (by decide +kernel) rfl
theorem q_499 : (Jvm.Cond.selects "OneHandEach" ({ cls := "OneHandEach", name := "weight", desc := "(I)I" } : Jvm.MethodName) ({ cls := "OneHandEach", name := "weight", desc := "(I)I" } : Jvm.MethodName)) ∈ m_ws := m_at 499 (by decide +kernel) rfl
theorem q_500 : (Jvm.Cond.code ({ cls := "OneHandEach", name := "weight", desc := "(I)I" } : Jvm.MethodName) prog_1_method_7_code (2 : Nat) (Option.some Jvm.ClassFile.FieldType.int)) ∈ m_ws := m_at 500 (by decide +kernel) rfl
theorem q_501 : (Jvm.Cond.methodLink "OneHandEach" (121 : Nat) ({ cls := "OneHandEach", name := "isTime", desc := "(I)Z" } : Jvm.MethodName)) ∈ m_ws := m_at 501 (by decide +kernel) rfl
theorem q_502 : (Jvm.Cond.static ({ cls := "OneHandEach", name := "isTime", desc := "(I)Z" } : Jvm.MethodName)) ∈ m_ws := m_at 502 (by decide +kernel) rfl
theorem q_503 : (Jvm.Cond.code ({ cls := "OneHandEach", name := "isTime", desc := "(I)Z" } : Jvm.MethodName) prog_1_method_43_code (1 : Nat) (Option.some Jvm.ClassFile.FieldType.boolean)) ∈ m_ws := m_at 503 (by decide +kernel) rfl
theorem q_504 : (Jvm.Cond.methodLink "OneHandEach" (124 : Nat) ({ cls := "OneHandEach", name := "weightOf", desc := "(I)I" } : Jvm.MethodName)) ∈ m_ws := m_at 504 (by decide +kernel) rfl
theorem q_506 : (Jvm.Cond.instanceMethod ({ cls := "OneHandEach", name := "weightOf", desc := "(I)I" } : Jvm.MethodName)) ∈ m_ws := m_at 506 (by decide +kernel) rfl
theorem q_507 : (Jvm.Cond.code ({ cls := "OneHandEach", name := "weightOf", desc := "(I)I" } : Jvm.MethodName) prog_1_method_50_code (2 : Nat) (Option.some Jvm.ClassFile.FieldType.int)) ∈ m_ws := m_at 507 (by decide +kernel) rfl
theorem q_508 : (Jvm.Cond.methodLink "OneHandEach" (315 : Nat) ({ cls := "OneHandEach$Town", name := "err", desc := "()I" } : Jvm.MethodName)) ∈ m_ws := m_at 508 (by decide +kernel) rfl
theorem q_509 : (Jvm.Cond.instanceMethod ({ cls := "OneHandEach$Town", name := "err", desc := "()I" } : Jvm.MethodName)) ∈ m_ws := m_at 509 (by decide +kernel) rfl
theorem q_510 : (Jvm.Cond.selects "OneHandEach$Town" ({ cls := "OneHandEach$Town", name := "err", desc := "()I" } : Jvm.MethodName) ({ cls := "OneHandEach$Town", name := "err", desc := "()I" } : Jvm.MethodName)) ∈ m_ws := m_at 510 (by decide +kernel) rfl
theorem q_511 : (Jvm.Cond.code ({ cls := "OneHandEach$Town", name := "err", desc := "()I" } : Jvm.MethodName) prog_12_method_6_code (1 : Nat) (Option.some Jvm.ClassFile.FieldType.int)) ∈ m_ws := m_at 511 (by decide +kernel) rfl
theorem q_512 : (Jvm.Cond.methodLink "OneHandEach" (318 : Nat) ({ cls := "OneHandEach$Law", name := "weightOf", desc := "(III)I" } : Jvm.MethodName)) ∈ m_ws := m_at 512 (by decide +kernel) rfl
theorem q_513 : (Jvm.Cond.instanceMethod ({ cls := "OneHandEach$Law", name := "weightOf", desc := "(III)I" } : Jvm.MethodName)) ∈ m_ws := m_at 513 (by decide +kernel) rfl
theorem q_514 : (Jvm.Cond.selects "OneHandEach$Law" ({ cls := "OneHandEach$Law", name := "weightOf", desc := "(III)I" } : Jvm.MethodName) ({ cls := "OneHandEach$Law", name := "weightOf", desc := "(III)I" } : Jvm.MethodName)) ∈ m_ws := m_at 514 (by decide +kernel) rfl
theorem q_515 : (Jvm.Cond.code ({ cls := "OneHandEach$Law", name := "weightOf", desc := "(III)I" } : Jvm.MethodName) prog_8_method_5_code (4 : Nat) (Option.some Jvm.ClassFile.FieldType.int)) ∈ m_ws := m_at 515 (by decide +kernel) rfl
theorem q_516 : (Jvm.Cond.methodLink "OneHandEach$Law" (46 : Nat) ({ cls := "OneHandEach$Law", name := "valueOf", desc := "(III)I" } : Jvm.MethodName)) ∈ m_ws := m_at 516 (by decide +kernel) rfl
theorem q_518 : (Jvm.Cond.instanceMethod ({ cls := "OneHandEach$Law", name := "valueOf", desc := "(III)I" } : Jvm.MethodName)) ∈ m_ws := m_at 518 (by decide +kernel) rfl
theorem q_519 : (Jvm.Cond.code ({ cls := "OneHandEach$Law", name := "valueOf", desc := "(III)I" } : Jvm.MethodName) prog_8_method_6_code (8 : Nat) (Option.some Jvm.ClassFile.FieldType.int)) ∈ m_ws := m_at 519 (by decide +kernel) rfl
theorem q_520 : (Jvm.Cond.methodLink "OneHandEach$Law" (56 : Nat) ({ cls := "java/lang/Math", name := "max", desc := "(II)I" } : Jvm.MethodName)) ∈ m_ws := m_at 520 (by decide +kernel) rfl
theorem q_521 : (Jvm.Cond.static ({ cls := "java/lang/Math", name := "max", desc := "(II)I" } : Jvm.MethodName)) ∈ m_ws := m_at 521 (by decide +kernel) rfl
theorem q_522 : (Jvm.Cond.code ({ cls := "java/lang/Math", name := "max", desc := "(II)I" } : Jvm.MethodName) prog_16_method_65_code (2 : Nat) (Option.some Jvm.ClassFile.FieldType.int)) ∈ m_ws := m_at 522 (by decide +kernel) rfl
theorem q_523 : (Jvm.Cond.methodLink "OneHandEach$Law" (63 : Nat) ({ cls := "OneHandEach$Law", name := "isName", desc := "(I)Z" } : Jvm.MethodName)) ∈ m_ws := m_at 523 (by decide +kernel) rfl
theorem q_524 : (Jvm.Cond.static ({ cls := "OneHandEach$Law", name := "isName", desc := "(I)Z" } : Jvm.MethodName)) ∈ m_ws := m_at 524 (by decide +kernel) rfl
theorem q_525 : (Jvm.Cond.code ({ cls := "OneHandEach$Law", name := "isName", desc := "(I)Z" } : Jvm.MethodName) prog_8_method_7_code (1 : Nat) (Option.some Jvm.ClassFile.FieldType.boolean)) ∈ m_ws := m_at 525 (by decide +kernel) rfl
theorem q_526 : (Jvm.Cond.methodLink "OneHandEach$Law" (67 : Nat) ({ cls := "OneHandEach$Law", name := "named", desc := "(IIII)I" } : Jvm.MethodName)) ∈ m_ws := m_at 526 (by decide +kernel) rfl
theorem q_527 : (Jvm.Cond.static ({ cls := "OneHandEach$Law", name := "named", desc := "(IIII)I" } : Jvm.MethodName)) ∈ m_ws := m_at 527 (by decide +kernel) rfl
theorem q_528 : (Jvm.Cond.code ({ cls := "OneHandEach$Law", name := "named", desc := "(IIII)I" } : Jvm.MethodName) prog_8_method_8_code (4 : Nat) (Option.some Jvm.ClassFile.FieldType.int)) ∈ m_ws := m_at 528 (by decide +kernel) rfl
theorem q_529 : (Jvm.Cond.methodLink "OneHandEach$Law" (71 : Nat) ({ cls := "OneHandEach$Law", name := "push", desc := "(II)I" } : Jvm.MethodName)) ∈ m_ws := m_at 529 (by decide +kernel) rfl
theorem q_531 : (Jvm.Cond.instanceMethod ({ cls := "OneHandEach$Law", name := "push", desc := "(II)I" } : Jvm.MethodName)) ∈ m_ws := m_at 531 (by decide +kernel) rfl
theorem q_532 : (Jvm.Cond.code ({ cls := "OneHandEach$Law", name := "push", desc := "(II)I" } : Jvm.MethodName) prog_8_method_9_code (3 : Nat) (Option.some Jvm.ClassFile.FieldType.int)) ∈ m_ws := m_at 532 (by decide +kernel) rfl
theorem q_533 : (Jvm.Cond.methodLink "OneHandEach$Law" (77 : Nat) ({ cls := "OneHandEach$Law", name := "workOut", desc := "(II)I" } : Jvm.MethodName)) ∈ m_ws := m_at 533 (by decide +kernel) rfl
theorem q_535 : (Jvm.Cond.instanceMethod ({ cls := "OneHandEach$Law", name := "workOut", desc := "(II)I" } : Jvm.MethodName)) ∈ m_ws := m_at 535 (by decide +kernel) rfl
theorem q_536 : (Jvm.Cond.code ({ cls := "OneHandEach$Law", name := "workOut", desc := "(II)I" } : Jvm.MethodName) prog_8_method_10_code (4 : Nat) (Option.some Jvm.ClassFile.FieldType.int)) ∈ m_ws := m_at 536 (by decide +kernel) rfl
theorem q_537 : (Jvm.Cond.methodLink "OneHandEach$Law" (80 : Nat) ({ cls := "OneHandEach$Law", name := "joined", desc := "(III)I" } : Jvm.MethodName)) ∈ m_ws := m_at 537 (by decide +kernel) rfl
theorem q_538 : (Jvm.Cond.static ({ cls := "OneHandEach$Law", name := "joined", desc := "(III)I" } : Jvm.MethodName)) ∈ m_ws := m_at 538 (by decide +kernel) rfl
theorem q_539 : (Jvm.Cond.code ({ cls := "OneHandEach$Law", name := "joined", desc := "(III)I" } : Jvm.MethodName) prog_8_method_11_code (3 : Nat) (Option.some Jvm.ClassFile.FieldType.int)) ∈ m_ws := m_at 539 (by decide +kernel) rfl
theorem q_540 : (Jvm.Cond.methodLink "OneHandEach$Law" (50 : Nat) ({ cls := "java/lang/Math", name := "min", desc := "(II)I" } : Jvm.MethodName)) ∈ m_ws := m_at 540 (by decide +kernel) rfl
theorem q_541 : (Jvm.Cond.static ({ cls := "java/lang/Math", name := "min", desc := "(II)I" } : Jvm.MethodName)) ∈ m_ws := m_at 541 (by decide +kernel) rfl
theorem q_542 : (Jvm.Cond.code ({ cls := "java/lang/Math", name := "min", desc := "(II)I" } : Jvm.MethodName) prog_16_method_69_code (2 : Nat) (Option.some Jvm.ClassFile.FieldType.int)) ∈ m_ws := m_at 542 (by decide +kernel) rfl
theorem q_543 : (Jvm.Cond.methodLink "OneHandEachLaw" (41 : Nat) ({ cls := "OneHandEach", name := "sight", desc := "(II)I" } : Jvm.MethodName)) ∈ m_ws := m_at 543 (by decide +kernel) rfl
theorem q_544 : (Jvm.Cond.instanceMethod ({ cls := "OneHandEach", name := "sight", desc := "(II)I" } : Jvm.MethodName)) ∈ m_ws := m_at 544 (by decide +kernel) rfl
theorem q_545 : (Jvm.Cond.selects "OneHandEach" ({ cls := "OneHandEach", name := "sight", desc := "(II)I" } : Jvm.MethodName) ({ cls := "OneHandEach", name := "sight", desc := "(II)I" } : Jvm.MethodName)) ∈ m_ws := m_at 545 (by decide +kernel) rfl
theorem q_546 : (Jvm.Cond.code ({ cls := "OneHandEach", name := "sight", desc := "(II)I" } : Jvm.MethodName) prog_1_method_8_code (3 : Nat) (Option.some Jvm.ClassFile.FieldType.int)) ∈ m_ws := m_at 546 (by decide +kernel) rfl
theorem q_547 : (Jvm.Cond.methodLink "OneHandEach" (127 : Nat) ({ cls := "OneHandEach", name := "isSight", desc := "(IIII)Z" } : Jvm.MethodName)) ∈ m_ws := m_at 547 (by decide +kernel) rfl
theorem q_548 : (Jvm.Cond.static ({ cls := "OneHandEach", name := "isSight", desc := "(IIII)Z" } : Jvm.MethodName)) ∈ m_ws := m_at 548 (by decide +kernel) rfl
theorem q_549 : (Jvm.Cond.code ({ cls := "OneHandEach", name := "isSight", desc := "(IIII)Z" } : Jvm.MethodName) prog_1_method_47_code (4 : Nat) (Option.some Jvm.ClassFile.FieldType.boolean)) ∈ m_ws := m_at 549 (by decide +kernel) rfl
theorem q_550 : (Jvm.Cond.methodLink "OneHandEach" (193 : Nat) ({ cls := "OneHandEach", name := "isPart", desc := "(I)Z" } : Jvm.MethodName)) ∈ m_ws := m_at 550 (by decide +kernel) rfl
theorem q_551 : (Jvm.Cond.static ({ cls := "OneHandEach", name := "isPart", desc := "(I)Z" } : Jvm.MethodName)) ∈ m_ws := m_at 551 (by decide +kernel) rfl
theorem q_552 : (Jvm.Cond.code ({ cls := "OneHandEach", name := "isPart", desc := "(I)Z" } : Jvm.MethodName) prog_1_method_44_code (1 : Nat) (Option.some Jvm.ClassFile.FieldType.boolean)) ∈ m_ws := m_at 552 (by decide +kernel) rfl
theorem q_553 : (Jvm.Cond.methodLink "OneHandEach" (131 : Nat) ({ cls := "OneHandEach$Entries", name := "isFull", desc := "()Z" } : Jvm.MethodName)) ∈ m_ws := m_at 553 (by decide +kernel) rfl
theorem q_554 : (Jvm.Cond.instanceMethod ({ cls := "OneHandEach$Entries", name := "isFull", desc := "()Z" } : Jvm.MethodName)) ∈ m_ws := m_at 554 (by decide +kernel) rfl
theorem q_555 : (Jvm.Cond.selects "OneHandEach$Entries" ({ cls := "OneHandEach$Entries", name := "isFull", desc := "()Z" } : Jvm.MethodName) ({ cls := "OneHandEach$Entries", name := "isFull", desc := "()Z" } : Jvm.MethodName)) ∈ m_ws := m_at 555 (by decide +kernel) rfl
theorem q_556 : (Jvm.Cond.code ({ cls := "OneHandEach$Entries", name := "isFull", desc := "()Z" } : Jvm.MethodName) prog_4_method_2_code (1 : Nat) (Option.some Jvm.ClassFile.FieldType.boolean)) ∈ m_ws := m_at 556 (by decide +kernel) rfl
theorem q_557 : (Jvm.Cond.methodLink "OneHandEach" (135 : Nat) ({ cls := "OneHandEach$Entries", name := "add", desc := "(IIII)I" } : Jvm.MethodName)) ∈ m_ws := m_at 557 (by decide +kernel) rfl
theorem q_558 : (Jvm.Cond.instanceMethod ({ cls := "OneHandEach$Entries", name := "add", desc := "(IIII)I" } : Jvm.MethodName)) ∈ m_ws := m_at 558 (by decide +kernel) rfl
theorem q_559 : (Jvm.Cond.selects "OneHandEach$Entries" ({ cls := "OneHandEach$Entries", name := "add", desc := "(IIII)I" } : Jvm.MethodName) ({ cls := "OneHandEach$Entries", name := "add", desc := "(IIII)I" } : Jvm.MethodName)) ∈ m_ws := m_at 559 (by decide +kernel) rfl
theorem q_560 : (Jvm.Cond.code ({ cls := "OneHandEach$Entries", name := "add", desc := "(IIII)I" } : Jvm.MethodName) prog_4_method_3_code (5 : Nat) (Option.some Jvm.ClassFile.FieldType.int)) ∈ m_ws := m_at 560 (by decide +kernel) rfl
theorem q_561 : (Jvm.Cond.methodLink "OneHandEach$Entries" (25 : Nat) ({ cls := "OneHandEach$Entries", name := "isFull", desc := "()Z" } : Jvm.MethodName)) ∈ m_ws := m_at 561 (by decide +kernel) rfl
theorem q_562 : (Jvm.Cond.methodLink "OneHandEach$Entries" (29 : Nat) ({ cls := "OneHandEach$Entries", name := "lay", desc := "(II)V" } : Jvm.MethodName)) ∈ m_ws := m_at 562 (by decide +kernel) rfl
theorem q_564 : (Jvm.Cond.instanceMethod ({ cls := "OneHandEach$Entries", name := "lay", desc := "(II)V" } : Jvm.MethodName)) ∈ m_ws := m_at 564 (by decide +kernel) rfl
theorem q_565 : (Jvm.Cond.code ({ cls := "OneHandEach$Entries", name := "lay", desc := "(II)V" } : Jvm.MethodName) prog_4_method_4_code (3 : Nat) (Option.none : Option Jvm.ClassFile.FieldType)) ∈ m_ws := m_at 565 (by decide +kernel) rfl
theorem q_566 : (Jvm.Cond.methodLink "OneHandEachLaw" (45 : Nat) ({ cls := "OneHandEach", name := "sights", desc := "(III)I" } : Jvm.MethodName)) ∈ m_ws := m_at 566 (by decide +kernel) rfl
theorem q_567 : (Jvm.Cond.instanceMethod ({ cls := "OneHandEach", name := "sights", desc := "(III)I" } : Jvm.MethodName)) ∈ m_ws := m_at 567 (by decide +kernel) rfl
theorem q_568 : (Jvm.Cond.selects "OneHandEach" ({ cls := "OneHandEach", name := "sights", desc := "(III)I" } : Jvm.MethodName) ({ cls := "OneHandEach", name := "sights", desc := "(III)I" } : Jvm.MethodName)) ∈ m_ws := m_at 568 (by decide +kernel) rfl
theorem q_569 : (Jvm.Cond.code ({ cls := "OneHandEach", name := "sights", desc := "(III)I" } : Jvm.MethodName) prog_1_method_9_code (5 : Nat) (Option.some Jvm.ClassFile.FieldType.int)) ∈ m_ws := m_at 569 (by decide +kernel) rfl
theorem q_570 : (Jvm.Cond.methodLink "OneHandEach" (138 : Nat) ({ cls := "OneHandEach", name := "isShelf", desc := "(I)Z" } : Jvm.MethodName)) ∈ m_ws := m_at 570 (by decide +kernel) rfl
theorem q_571 : (Jvm.Cond.static ({ cls := "OneHandEach", name := "isShelf", desc := "(I)Z" } : Jvm.MethodName)) ∈ m_ws := m_at 571 (by decide +kernel) rfl
theorem q_572 : (Jvm.Cond.code ({ cls := "OneHandEach", name := "isShelf", desc := "(I)Z" } : Jvm.MethodName) prog_1_method_45_code (1 : Nat) (Option.some Jvm.ClassFile.FieldType.boolean)) ∈ m_ws := m_at 572 (by decide +kernel) rfl
theorem q_573 : (Jvm.Cond.methodLink "OneHandEach" (145 : Nat) ({ cls := "OneHandEach$Shelf", name := "holdsRow", desc := "(I)Z" } : Jvm.MethodName)) ∈ m_ws := m_at 573 (by decide +kernel) rfl
theorem q_574 : (Jvm.Cond.instanceMethod ({ cls := "OneHandEach$Shelf", name := "holdsRow", desc := "(I)Z" } : Jvm.MethodName)) ∈ m_ws := m_at 574 (by decide +kernel) rfl
theorem q_575 : (Jvm.Cond.selects "OneHandEach$Shelf" ({ cls := "OneHandEach$Shelf", name := "holdsRow", desc := "(I)Z" } : Jvm.MethodName) ({ cls := "OneHandEach$Shelf", name := "holdsRow", desc := "(I)Z" } : Jvm.MethodName)) ∈ m_ws := m_at 575 (by decide +kernel) rfl
theorem q_576 : (Jvm.Cond.code ({ cls := "OneHandEach$Shelf", name := "holdsRow", desc := "(I)Z" } : Jvm.MethodName) prog_11_method_2_code (2 : Nat) (Option.some Jvm.ClassFile.FieldType.boolean)) ∈ m_ws := m_at 576 (by decide +kernel) rfl
theorem q_577 : (Jvm.Cond.methodLink "OneHandEach" (148 : Nat) ({ cls := "OneHandEach", name := "sightsFrom", desc := "(LOneHandEach$Shelf;II)I" } : Jvm.MethodName)) ∈ m_ws := m_at 577 (by decide +kernel) rfl
theorem q_579 : (Jvm.Cond.instanceMethod ({ cls := "OneHandEach", name := "sightsFrom", desc := "(LOneHandEach$Shelf;II)I" } : Jvm.MethodName)) ∈ m_ws := m_at 579 (by decide +kernel) rfl
theorem q_580 : (Jvm.Cond.code ({ cls := "OneHandEach", name := "sightsFrom", desc := "(LOneHandEach$Shelf;II)I" } : Jvm.MethodName) prog_1_method_52_code (10 : Nat) (Option.some Jvm.ClassFile.FieldType.int)) ∈ m_ws := m_at 580 (by decide +kernel) rfl
theorem q_581 : (Jvm.Cond.methodLink "OneHandEachLaw" (49 : Nat) ({ cls := "OneHandEach", name := "forget", desc := "()I" } : Jvm.MethodName)) ∈ m_ws := m_at 581 (by decide +kernel) rfl
theorem q_582 : (Jvm.Cond.instanceMethod ({ cls := "OneHandEach", name := "forget", desc := "()I" } : Jvm.MethodName)) ∈ m_ws := m_at 582 (by decide +kernel) rfl
theorem q_583 : (Jvm.Cond.selects "OneHandEach" ({ cls := "OneHandEach", name := "forget", desc := "()I" } : Jvm.MethodName) ({ cls := "OneHandEach", name := "forget", desc := "()I" } : Jvm.MethodName)) ∈ m_ws := m_at 583 (by decide +kernel) rfl
theorem q_584 : (Jvm.Cond.code ({ cls := "OneHandEach", name := "forget", desc := "()I" } : Jvm.MethodName) prog_1_method_10_code (1 : Nat) (Option.some Jvm.ClassFile.FieldType.int)) ∈ m_ws := m_at 584 (by decide +kernel) rfl
theorem q_585 : (Jvm.Cond.methodLink "OneHandEachLaw" (53 : Nat) ({ cls := "OneHandEach", name := "fits", desc := "(I)I" } : Jvm.MethodName)) ∈ m_ws := m_at 585 (by decide +kernel) rfl
theorem q_586 : (Jvm.Cond.instanceMethod ({ cls := "OneHandEach", name := "fits", desc := "(I)I" } : Jvm.MethodName)) ∈ m_ws := m_at 586 (by decide +kernel) rfl
theorem q_587 : (Jvm.Cond.selects "OneHandEach" ({ cls := "OneHandEach", name := "fits", desc := "(I)I" } : Jvm.MethodName) ({ cls := "OneHandEach", name := "fits", desc := "(I)I" } : Jvm.MethodName)) ∈ m_ws := m_at 587 (by decide +kernel) rfl
theorem q_588 : (Jvm.Cond.code ({ cls := "OneHandEach", name := "fits", desc := "(I)I" } : Jvm.MethodName) prog_1_method_11_code (2 : Nat) (Option.some Jvm.ClassFile.FieldType.int)) ∈ m_ws := m_at 588 (by decide +kernel) rfl
theorem q_589 : (Jvm.Cond.methodLink "OneHandEach" (155 : Nat) ({ cls := "OneHandEach$Fitting", name := "findAll", desc := "(LOneHandEach$Town;LOneHandEach$Entries;I)V" } : Jvm.MethodName)) ∈ m_ws := m_at 589 (by decide +kernel) rfl
theorem q_590 : (Jvm.Cond.instanceMethod ({ cls := "OneHandEach$Fitting", name := "findAll", desc := "(LOneHandEach$Town;LOneHandEach$Entries;I)V" } : Jvm.MethodName)) ∈ m_ws := m_at 590 (by decide +kernel) rfl
theorem q_591 : (Jvm.Cond.selects "OneHandEach$Fitting" ({ cls := "OneHandEach$Fitting", name := "findAll", desc := "(LOneHandEach$Town;LOneHandEach$Entries;I)V" } : Jvm.MethodName) ({ cls := "OneHandEach$Fitting", name := "findAll", desc := "(LOneHandEach$Town;LOneHandEach$Entries;I)V" } : Jvm.MethodName)) ∈ m_ws := m_at 591 (by decide +kernel) rfl
theorem q_592 : (Jvm.Cond.code ({ cls := "OneHandEach$Fitting", name := "findAll", desc := "(LOneHandEach$Town;LOneHandEach$Entries;I)V" } : Jvm.MethodName) prog_5_method_2_code (5 : Nat) (Option.none : Option Jvm.ClassFile.FieldType)) ∈ m_ws := m_at 592 (by decide +kernel) rfl
theorem q_593 : (Jvm.Cond.methodLink "OneHandEach$Fitting" (22 : Nat) ({ cls := "OneHandEach$Fitting", name := "startAnew", desc := "()V" } : Jvm.MethodName)) ∈ m_ws := m_at 593 (by decide +kernel) rfl
theorem q_595 : (Jvm.Cond.instanceMethod ({ cls := "OneHandEach$Fitting", name := "startAnew", desc := "()V" } : Jvm.MethodName)) ∈ m_ws := m_at 595 (by decide +kernel) rfl
theorem q_596 : (Jvm.Cond.code ({ cls := "OneHandEach$Fitting", name := "startAnew", desc := "()V" } : Jvm.MethodName) prog_5_method_4_code (2 : Nat) (Option.none : Option Jvm.ClassFile.FieldType)) ∈ m_ws := m_at 596 (by decide +kernel) rfl
theorem q_597 : (Jvm.Cond.methodLink "OneHandEach$Fitting" (31 : Nat) ({ cls := "OneHandEach$Entries", name := "told", desc := "(II)I" } : Jvm.MethodName)) ∈ m_ws := m_at 597 (by decide +kernel) rfl
theorem q_598 : (Jvm.Cond.methodLink "OneHandEach$Fitting" (35 : Nat) ({ cls := "OneHandEach$Fitting", name := "strike", desc := "(LOneHandEach$Town;IIII)V" } : Jvm.MethodName)) ∈ m_ws := m_at 598 (by decide +kernel) rfl
theorem q_600 : (Jvm.Cond.instanceMethod ({ cls := "OneHandEach$Fitting", name := "strike", desc := "(LOneHandEach$Town;IIII)V" } : Jvm.MethodName)) ∈ m_ws := m_at 600 (by decide +kernel) rfl
theorem q_601 : (Jvm.Cond.code ({ cls := "OneHandEach$Fitting", name := "strike", desc := "(LOneHandEach$Town;IIII)V" } : Jvm.MethodName) prog_5_method_5_code (8 : Nat) (Option.none : Option Jvm.ClassFile.FieldType)) ∈ m_ws := m_at 601 (by decide +kernel) rfl
theorem q_603 : (Jvm.Cond.methodLink "OneHandEach$Fitting" (39 : Nat) ({ cls := "OneHandEach$Town", name := "partAt", desc := "(II)I" } : Jvm.MethodName)) ∈ m_ws := m_at 603 (by decide +kernel) rfl
theorem q_604 : (Jvm.Cond.methodLink "OneHandEach$Fitting" (55 : Nat) ({ cls := "OneHandEach$Town", name := "isNear", desc := "(II)Z" } : Jvm.MethodName)) ∈ m_ws := m_at 604 (by decide +kernel) rfl
theorem q_605 : (Jvm.Cond.instanceMethod ({ cls := "OneHandEach$Town", name := "isNear", desc := "(II)Z" } : Jvm.MethodName)) ∈ m_ws := m_at 605 (by decide +kernel) rfl
theorem q_606 : (Jvm.Cond.selects "OneHandEach$Town" ({ cls := "OneHandEach$Town", name := "isNear", desc := "(II)Z" } : Jvm.MethodName) ({ cls := "OneHandEach$Town", name := "isNear", desc := "(II)Z" } : Jvm.MethodName)) ∈ m_ws := m_at 606 (by decide +kernel) rfl
theorem q_607 : (Jvm.Cond.code ({ cls := "OneHandEach$Town", name := "isNear", desc := "(II)Z" } : Jvm.MethodName) prog_12_method_11_code (4 : Nat) (Option.some Jvm.ClassFile.FieldType.boolean)) ∈ m_ws := m_at 607 (by decide +kernel) rfl
theorem q_608 : (Jvm.Cond.methodLink "OneHandEach$Town" (48 : Nat) ({ cls := "java/lang/Math", name := "abs", desc := "(I)I" } : Jvm.MethodName)) ∈ m_ws := m_at 608 (by decide +kernel) rfl
theorem q_609 : (Jvm.Cond.static ({ cls := "java/lang/Math", name := "abs", desc := "(I)I" } : Jvm.MethodName)) ∈ m_ws := m_at 609 (by decide +kernel) rfl
theorem q_610 : (Jvm.Cond.code ({ cls := "java/lang/Math", name := "abs", desc := "(I)I" } : Jvm.MethodName) prog_16_method_59_code (1 : Nat) (Option.some Jvm.ClassFile.FieldType.int)) ∈ m_ws := m_at 610 (by decide +kernel) rfl
theorem q_611 : (Jvm.Cond.methodLink "OneHandEach$Town" (51 : Nat) ({ cls := "java/lang/Math", name := "min", desc := "(II)I" } : Jvm.MethodName)) ∈ m_ws := m_at 611 (by decide +kernel) rfl
theorem q_612 : (Jvm.Cond.methodLink "OneHandEach" (159 : Nat) ({ cls := "OneHandEach$Fitting", name := "howMany", desc := "()I" } : Jvm.MethodName)) ∈ m_ws := m_at 612 (by decide +kernel) rfl
theorem q_613 : (Jvm.Cond.instanceMethod ({ cls := "OneHandEach$Fitting", name := "howMany", desc := "()I" } : Jvm.MethodName)) ∈ m_ws := m_at 613 (by decide +kernel) rfl
theorem q_614 : (Jvm.Cond.selects "OneHandEach$Fitting" ({ cls := "OneHandEach$Fitting", name := "howMany", desc := "()I" } : Jvm.MethodName) ({ cls := "OneHandEach$Fitting", name := "howMany", desc := "()I" } : Jvm.MethodName)) ∈ m_ws := m_at 614 (by decide +kernel) rfl
theorem q_615 : (Jvm.Cond.code ({ cls := "OneHandEach$Fitting", name := "howMany", desc := "()I" } : Jvm.MethodName) prog_5_method_6_code (3 : Nat) (Option.some Jvm.ClassFile.FieldType.int)) ∈ m_ws := m_at 615 (by decide +kernel) rfl
theorem q_616 : (Jvm.Cond.methodLink "OneHandEach" (162 : Nat) ({ cls := "OneHandEach$Fitting", name := "timeOf", desc := "(I)I" } : Jvm.MethodName)) ∈ m_ws := m_at 616 (by decide +kernel) rfl
theorem q_617 : (Jvm.Cond.instanceMethod ({ cls := "OneHandEach$Fitting", name := "timeOf", desc := "(I)I" } : Jvm.MethodName)) ∈ m_ws := m_at 617 (by decide +kernel) rfl
theorem q_618 : (Jvm.Cond.selects "OneHandEach$Fitting" ({ cls := "OneHandEach$Fitting", name := "timeOf", desc := "(I)I" } : Jvm.MethodName) ({ cls := "OneHandEach$Fitting", name := "timeOf", desc := "(I)I" } : Jvm.MethodName)) ∈ m_ws := m_at 618 (by decide +kernel) rfl
theorem q_619 : (Jvm.Cond.code ({ cls := "OneHandEach$Fitting", name := "timeOf", desc := "(I)I" } : Jvm.MethodName) prog_5_method_7_code (4 : Nat) (Option.some Jvm.ClassFile.FieldType.int)) ∈ m_ws := m_at 619 (by decide +kernel) rfl
theorem q_620 : (Jvm.Cond.methodLink "OneHandEachLaw" (57 : Nat) ({ cls := "OneHandEach", name := "chance", desc := "(II)I" } : Jvm.MethodName)) ∈ m_ws := m_at 620 (by decide +kernel) rfl
theorem q_621 : (Jvm.Cond.instanceMethod ({ cls := "OneHandEach", name := "chance", desc := "(II)I" } : Jvm.MethodName)) ∈ m_ws := m_at 621 (by decide +kernel) rfl
theorem q_622 : (Jvm.Cond.selects "OneHandEach" ({ cls := "OneHandEach", name := "chance", desc := "(II)I" } : Jvm.MethodName) ({ cls := "OneHandEach", name := "chance", desc := "(II)I" } : Jvm.MethodName)) ∈ m_ws := m_at 622 (by decide +kernel) rfl
theorem q_623 : (Jvm.Cond.code ({ cls := "OneHandEach", name := "chance", desc := "(II)I" } : Jvm.MethodName) prog_1_method_12_code (8 : Nat) (Option.some Jvm.ClassFile.FieldType.int)) ∈ m_ws := m_at 623 (by decide +kernel) rfl
theorem q_624 : (Jvm.Cond.methodLink "OneHandEach" (165 : Nat) ({ cls := "OneHandEach", name := "weightOfFits", desc := "(II)I" } : Jvm.MethodName)) ∈ m_ws := m_at 624 (by decide +kernel) rfl
theorem q_626 : (Jvm.Cond.instanceMethod ({ cls := "OneHandEach", name := "weightOfFits", desc := "(II)I" } : Jvm.MethodName)) ∈ m_ws := m_at 626 (by decide +kernel) rfl
theorem q_627 : (Jvm.Cond.code ({ cls := "OneHandEach", name := "weightOfFits", desc := "(II)I" } : Jvm.MethodName) prog_1_method_51_code (5 : Nat) (Option.some Jvm.ClassFile.FieldType.int)) ∈ m_ws := m_at 627 (by decide +kernel) rfl
theorem q_628 : (Jvm.Cond.methodLink "OneHandEach" (168 : Nat) ({ cls := "OneHandEach", name := "commonMeasure", desc := "(II)I" } : Jvm.MethodName)) ∈ m_ws := m_at 628 (by decide +kernel) rfl
theorem q_629 : (Jvm.Cond.static ({ cls := "OneHandEach", name := "commonMeasure", desc := "(II)I" } : Jvm.MethodName)) ∈ m_ws := m_at 629 (by decide +kernel) rfl
theorem q_630 : (Jvm.Cond.code ({ cls := "OneHandEach", name := "commonMeasure", desc := "(II)I" } : Jvm.MethodName) prog_1_method_49_code (6 : Nat) (Option.some Jvm.ClassFile.FieldType.int)) ∈ m_ws := m_at 630 (by decide +kernel) rfl
theorem q_631 : (Jvm.Cond.methodLink "OneHandEachLaw" (61 : Nat) ({ cls := "OneHandEach", name := "likely", desc := "()I" } : Jvm.MethodName)) ∈ m_ws := m_at 631 (by decide +kernel) rfl
theorem q_632 : (Jvm.Cond.instanceMethod ({ cls := "OneHandEach", name := "likely", desc := "()I" } : Jvm.MethodName)) ∈ m_ws := m_at 632 (by decide +kernel) rfl
theorem q_633 : (Jvm.Cond.selects "OneHandEach" ({ cls := "OneHandEach", name := "likely", desc := "()I" } : Jvm.MethodName) ({ cls := "OneHandEach", name := "likely", desc := "()I" } : Jvm.MethodName)) ∈ m_ws := m_at 633 (by decide +kernel) rfl
theorem q_634 : (Jvm.Cond.code ({ cls := "OneHandEach", name := "likely", desc := "()I" } : Jvm.MethodName) prog_1_method_13_code (5 : Nat) (Option.some Jvm.ClassFile.FieldType.int)) ∈ m_ws := m_at 634 (by decide +kernel) rfl
theorem q_635 : (Jvm.Cond.methodLink "OneHandEachLaw" (65 : Nat) ({ cls := "OneHandEach", name := "tells", desc := "(I)I" } : Jvm.MethodName)) ∈ m_ws := m_at 635 (by decide +kernel) rfl
theorem q_636 : (Jvm.Cond.instanceMethod ({ cls := "OneHandEach", name := "tells", desc := "(I)I" } : Jvm.MethodName)) ∈ m_ws := m_at 636 (by decide +kernel) rfl
theorem q_637 : (Jvm.Cond.selects "OneHandEach" ({ cls := "OneHandEach", name := "tells", desc := "(I)I" } : Jvm.MethodName) ({ cls := "OneHandEach", name := "tells", desc := "(I)I" } : Jvm.MethodName)) ∈ m_ws := m_at 637 (by decide +kernel) rfl
theorem q_638 : (Jvm.Cond.code ({ cls := "OneHandEach", name := "tells", desc := "(I)I" } : Jvm.MethodName) prog_1_method_14_code (3 : Nat) (Option.some Jvm.ClassFile.FieldType.int)) ∈ m_ws := m_at 638 (by decide +kernel) rfl
theorem q_639 : (Jvm.Cond.methodLink "OneHandEachLaw" (69 : Nat) ({ cls := "OneHandEach", name := "next", desc := "(II)I" } : Jvm.MethodName)) ∈ m_ws := m_at 639 (by decide +kernel) rfl
theorem q_640 : (Jvm.Cond.instanceMethod ({ cls := "OneHandEach", name := "next", desc := "(II)I" } : Jvm.MethodName)) ∈ m_ws := m_at 640 (by decide +kernel) rfl
theorem q_641 : (Jvm.Cond.selects "OneHandEach" ({ cls := "OneHandEach", name := "next", desc := "(II)I" } : Jvm.MethodName) ({ cls := "OneHandEach", name := "next", desc := "(II)I" } : Jvm.MethodName)) ∈ m_ws := m_at 641 (by decide +kernel) rfl
theorem q_642 : (Jvm.Cond.code ({ cls := "OneHandEach", name := "next", desc := "(II)I" } : Jvm.MethodName) prog_1_method_15_code (6 : Nat) (Option.some Jvm.ClassFile.FieldType.int)) ∈ m_ws := m_at 642 (by decide +kernel) rfl
theorem q_643 : (Jvm.Cond.methodLink "OneHandEach" (175 : Nat) ({ cls := "OneHandEach$Fitting", name := "mostAlike", desc := "(LOneHandEach$Town;II)I" } : Jvm.MethodName)) ∈ m_ws := m_at 643 (by decide +kernel) rfl
theorem q_644 : (Jvm.Cond.instanceMethod ({ cls := "OneHandEach$Fitting", name := "mostAlike", desc := "(LOneHandEach$Town;II)I" } : Jvm.MethodName)) ∈ m_ws := m_at 644 (by decide +kernel) rfl
theorem q_645 : (Jvm.Cond.selects "OneHandEach$Fitting" ({ cls := "OneHandEach$Fitting", name := "mostAlike", desc := "(LOneHandEach$Town;II)I" } : Jvm.MethodName) ({ cls := "OneHandEach$Fitting", name := "mostAlike", desc := "(LOneHandEach$Town;II)I" } : Jvm.MethodName)) ∈ m_ws := m_at 645 (by decide +kernel) rfl
theorem q_646 : (Jvm.Cond.code ({ cls := "OneHandEach$Fitting", name := "mostAlike", desc := "(LOneHandEach$Town;II)I" } : Jvm.MethodName) prog_5_method_8_code (7 : Nat) (Option.some Jvm.ClassFile.FieldType.int)) ∈ m_ws := m_at 646 (by decide +kernel) rfl
theorem q_648 : (Jvm.Cond.methodLink "OneHandEach$Fitting" (63 : Nat) ({ cls := "java/lang/Math", name := "max", desc := "(II)I" } : Jvm.MethodName)) ∈ m_ws := m_at 648 (by decide +kernel) rfl
theorem q_649 : (Jvm.Cond.methodLink "OneHandEach" (179 : Nat) ({ cls := "java/lang/Math", name := "min", desc := "(II)I" } : Jvm.MethodName)) ∈ m_ws := m_at 649 (by decide +kernel) rfl
theorem q_650 : (Jvm.Cond.methodLink "OneHandEachLaw" (73 : Nat) ({ cls := "OneHandEach", name := "lot", desc := "(III)I" } : Jvm.MethodName)) ∈ m_ws := m_at 650 (by decide +kernel) rfl
theorem q_651 : (Jvm.Cond.instanceMethod ({ cls := "OneHandEach", name := "lot", desc := "(III)I" } : Jvm.MethodName)) ∈ m_ws := m_at 651 (by decide +kernel) rfl
theorem q_652 : (Jvm.Cond.selects "OneHandEach" ({ cls := "OneHandEach", name := "lot", desc := "(III)I" } : Jvm.MethodName) ({ cls := "OneHandEach", name := "lot", desc := "(III)I" } : Jvm.MethodName)) ∈ m_ws := m_at 652 (by decide +kernel) rfl
theorem q_653 : (Jvm.Cond.code ({ cls := "OneHandEach", name := "lot", desc := "(III)I" } : Jvm.MethodName) prog_1_method_16_code (10 : Nat) (Option.some Jvm.ClassFile.FieldType.int)) ∈ m_ws := m_at 653 (by decide +kernel) rfl
theorem q_654 : (Jvm.Cond.methodLink "OneHandEach" (184 : Nat) ({ cls := "OneHandEach", name := "drawn", desc := "(I)I" } : Jvm.MethodName)) ∈ m_ws := m_at 654 (by decide +kernel) rfl
theorem q_655 : (Jvm.Cond.static ({ cls := "OneHandEach", name := "drawn", desc := "(I)I" } : Jvm.MethodName)) ∈ m_ws := m_at 655 (by decide +kernel) rfl
theorem q_656 : (Jvm.Cond.code ({ cls := "OneHandEach", name := "drawn", desc := "(I)I" } : Jvm.MethodName) prog_1_method_48_code (1 : Nat) (Option.some Jvm.ClassFile.FieldType.int)) ∈ m_ws := m_at 656 (by decide +kernel) rfl
theorem q_657 : (Jvm.Cond.constant "OneHandEach" (314 : Nat) (1103515245 : Int32)) ∈ m_ws := m_at 657 (by decide +kernel) rfl
theorem q_658 : (Jvm.Cond.methodLink "OneHandEach" (187 : Nat) ({ cls := "OneHandEach$Town", name := "walkOf", desc := "(I)I" } : Jvm.MethodName)) ∈ m_ws := m_at 658 (by decide +kernel) rfl
theorem q_659 : (Jvm.Cond.instanceMethod ({ cls := "OneHandEach$Town", name := "walkOf", desc := "(I)I" } : Jvm.MethodName)) ∈ m_ws := m_at 659 (by decide +kernel) rfl
theorem q_660 : (Jvm.Cond.selects "OneHandEach$Town" ({ cls := "OneHandEach$Town", name := "walkOf", desc := "(I)I" } : Jvm.MethodName) ({ cls := "OneHandEach$Town", name := "walkOf", desc := "(I)I" } : Jvm.MethodName)) ∈ m_ws := m_at 660 (by decide +kernel) rfl
theorem q_661 : (Jvm.Cond.code ({ cls := "OneHandEach$Town", name := "walkOf", desc := "(I)I" } : Jvm.MethodName) prog_12_method_14_code (3 : Nat) (Option.some Jvm.ClassFile.FieldType.int)) ∈ m_ws := m_at 661 (by decide +kernel) rfl
theorem q_662 : (Jvm.Cond.methodLink "OneHandEach" (190 : Nat) ({ cls := "OneHandEach$Fitting", name := "fitsOfWalker", desc := "(LOneHandEach$Town;II)I" } : Jvm.MethodName)) ∈ m_ws := m_at 662 (by decide +kernel) rfl
theorem q_663 : (Jvm.Cond.instanceMethod ({ cls := "OneHandEach$Fitting", name := "fitsOfWalker", desc := "(LOneHandEach$Town;II)I" } : Jvm.MethodName)) ∈ m_ws := m_at 663 (by decide +kernel) rfl
theorem q_664 : (Jvm.Cond.selects "OneHandEach$Fitting" ({ cls := "OneHandEach$Fitting", name := "fitsOfWalker", desc := "(LOneHandEach$Town;II)I" } : Jvm.MethodName) ({ cls := "OneHandEach$Fitting", name := "fitsOfWalker", desc := "(LOneHandEach$Town;II)I" } : Jvm.MethodName)) ∈ m_ws := m_at 664 (by decide +kernel) rfl
theorem q_665 : (Jvm.Cond.code ({ cls := "OneHandEach$Fitting", name := "fitsOfWalker", desc := "(LOneHandEach$Town;II)I" } : Jvm.MethodName) prog_5_method_3_code (4 : Nat) (Option.some Jvm.ClassFile.FieldType.int)) ∈ m_ws := m_at 665 (by decide +kernel) rfl
theorem q_666 : (Jvm.Cond.methodLink "OneHandEach$Fitting" (47 : Nat) ({ cls := "OneHandEach$Fitting", name := "howMany", desc := "()I" } : Jvm.MethodName)) ∈ m_ws := m_at 666 (by decide +kernel) rfl
theorem q_667 : (Jvm.Cond.methodLink "OneHandEachLaw" (77 : Nat) ({ cls := "OneHandEach", name := "gun", desc := "(II)I" } : Jvm.MethodName)) ∈ m_ws := m_at 667 (by decide +kernel) rfl
theorem q_668 : (Jvm.Cond.instanceMethod ({ cls := "OneHandEach", name := "gun", desc := "(II)I" } : Jvm.MethodName)) ∈ m_ws := m_at 668 (by decide +kernel) rfl
theorem q_669 : (Jvm.Cond.selects "OneHandEach" ({ cls := "OneHandEach", name := "gun", desc := "(II)I" } : Jvm.MethodName) ({ cls := "OneHandEach", name := "gun", desc := "(II)I" } : Jvm.MethodName)) ∈ m_ws := m_at 669 (by decide +kernel) rfl
theorem q_670 : (Jvm.Cond.code ({ cls := "OneHandEach", name := "gun", desc := "(II)I" } : Jvm.MethodName) prog_1_method_17_code (3 : Nat) (Option.some Jvm.ClassFile.FieldType.int)) ∈ m_ws := m_at 670 (by decide +kernel) rfl
theorem q_671 : (Jvm.Cond.methodLink "OneHandEachLaw" (81 : Nat) ({ cls := "OneHandEach", name := "guess", desc := "(II)I" } : Jvm.MethodName)) ∈ m_ws := m_at 671 (by decide +kernel) rfl
theorem q_672 : (Jvm.Cond.instanceMethod ({ cls := "OneHandEach", name := "guess", desc := "(II)I" } : Jvm.MethodName)) ∈ m_ws := m_at 672 (by decide +kernel) rfl
theorem q_673 : (Jvm.Cond.selects "OneHandEach" ({ cls := "OneHandEach", name := "guess", desc := "(II)I" } : Jvm.MethodName) ({ cls := "OneHandEach", name := "guess", desc := "(II)I" } : Jvm.MethodName)) ∈ m_ws := m_at 673 (by decide +kernel) rfl
theorem q_674 : (Jvm.Cond.code ({ cls := "OneHandEach", name := "guess", desc := "(II)I" } : Jvm.MethodName) prog_1_method_18_code (3 : Nat) (Option.some Jvm.ClassFile.FieldType.int)) ∈ m_ws := m_at 674 (by decide +kernel) rfl
theorem q_675 : (Jvm.Cond.methodLink "OneHandEach" (196 : Nat) ({ cls := "OneHandEach$Guesses", name := "find", desc := "(LOneHandEach$Town;LOneHandEach$Entries;I)V" } : Jvm.MethodName)) ∈ m_ws := m_at 675 (by decide +kernel) rfl
theorem q_676 : (Jvm.Cond.instanceMethod ({ cls := "OneHandEach$Guesses", name := "find", desc := "(LOneHandEach$Town;LOneHandEach$Entries;I)V" } : Jvm.MethodName)) ∈ m_ws := m_at 676 (by decide +kernel) rfl
theorem q_677 : (Jvm.Cond.selects "OneHandEach$Guesses" ({ cls := "OneHandEach$Guesses", name := "find", desc := "(LOneHandEach$Town;LOneHandEach$Entries;I)V" } : Jvm.MethodName) ({ cls := "OneHandEach$Guesses", name := "find", desc := "(LOneHandEach$Town;LOneHandEach$Entries;I)V" } : Jvm.MethodName)) ∈ m_ws := m_at 677 (by decide +kernel) rfl
theorem q_678 : (Jvm.Cond.code ({ cls := "OneHandEach$Guesses", name := "find", desc := "(LOneHandEach$Town;LOneHandEach$Entries;I)V" } : Jvm.MethodName) prog_6_method_2_code (6 : Nat) (Option.none : Option Jvm.ClassFile.FieldType)) ∈ m_ws := m_at 678 (by decide +kernel) rfl
theorem q_679 : (Jvm.Cond.methodLink "OneHandEach$Guesses" (15 : Nat) ({ cls := "OneHandEach$Guesses", name := "wrongBy", desc := "(LOneHandEach$Town;LOneHandEach$Entries;III)I" } : Jvm.MethodName)) ∈ m_ws := m_at 679 (by decide +kernel) rfl
theorem q_680 : (Jvm.Cond.static ({ cls := "OneHandEach$Guesses", name := "wrongBy", desc := "(LOneHandEach$Town;LOneHandEach$Entries;III)I" } : Jvm.MethodName)) ∈ m_ws := m_at 680 (by decide +kernel) rfl
theorem q_681 : (Jvm.Cond.code ({ cls := "OneHandEach$Guesses", name := "wrongBy", desc := "(LOneHandEach$Town;LOneHandEach$Entries;III)I" } : Jvm.MethodName) prog_6_method_5_code (8 : Nat) (Option.some Jvm.ClassFile.FieldType.int)) ∈ m_ws := m_at 681 (by decide +kernel) rfl
theorem q_682 : (Jvm.Cond.methodLink "OneHandEach$Guesses" (44 : Nat) ({ cls := "OneHandEach$Entries", name := "told", desc := "(II)I" } : Jvm.MethodName)) ∈ m_ws := m_at 682 (by decide +kernel) rfl
theorem q_683 : (Jvm.Cond.methodLink "OneHandEach$Guesses" (46 : Nat) ({ cls := "OneHandEach$Town", name := "timeBy", desc := "(III)I" } : Jvm.MethodName)) ∈ m_ws := m_at 683 (by decide +kernel) rfl
theorem q_684 : (Jvm.Cond.methodLink "OneHandEach$Guesses" (52 : Nat) ({ cls := "OneHandEach$Town", name := "partOf", desc := "(II)I" } : Jvm.MethodName)) ∈ m_ws := m_at 684 (by decide +kernel) rfl
theorem q_685 : (Jvm.Cond.methodLink "OneHandEach$Guesses" (55 : Nat) ({ cls := "OneHandEach$Town", name := "isNear", desc := "(II)Z" } : Jvm.MethodName)) ∈ m_ws := m_at 685 (by decide +kernel) rfl
theorem q_686 : (Jvm.Cond.methodLink "OneHandEach$Guesses" (19 : Nat) ({ cls := "OneHandEach$Guesses", name := "note", desc := "(II)V" } : Jvm.MethodName)) ∈ m_ws := m_at 686 (by decide +kernel) rfl
theorem q_688 : (Jvm.Cond.instanceMethod ({ cls := "OneHandEach$Guesses", name := "note", desc := "(II)V" } : Jvm.MethodName)) ∈ m_ws := m_at 688 (by decide +kernel) rfl
theorem q_689 : (Jvm.Cond.code ({ cls := "OneHandEach$Guesses", name := "note", desc := "(II)V" } : Jvm.MethodName) prog_6_method_3_code (4 : Nat) (Option.none : Option Jvm.ClassFile.FieldType)) ∈ m_ws := m_at 689 (by decide +kernel) rfl
theorem q_690 : (Jvm.Cond.methodLink "OneHandEach$Guesses" (23 : Nat) ({ cls := "java/lang/Math", name := "min", desc := "(II)I" } : Jvm.MethodName)) ∈ m_ws := m_at 690 (by decide +kernel) rfl
theorem q_691 : (Jvm.Cond.methodLink "OneHandEach$Guesses" (29 : Nat) ({ cls := "java/lang/Math", name := "max", desc := "(II)I" } : Jvm.MethodName)) ∈ m_ws := m_at 691 (by decide +kernel) rfl
theorem q_692 : (Jvm.Cond.methodLink "OneHandEachLaw" (85 : Nat) ({ cls := "OneHandEach", name := "liars", desc := "(I)I" } : Jvm.MethodName)) ∈ m_ws := m_at 692 (by decide +kernel) rfl
theorem q_693 : (Jvm.Cond.instanceMethod ({ cls := "OneHandEach", name := "liars", desc := "(I)I" } : Jvm.MethodName)) ∈ m_ws := m_at 693 (by decide +kernel) rfl
theorem q_694 : (Jvm.Cond.selects "OneHandEach" ({ cls := "OneHandEach", name := "liars", desc := "(I)I" } : Jvm.MethodName) ({ cls := "OneHandEach", name := "liars", desc := "(I)I" } : Jvm.MethodName)) ∈ m_ws := m_at 694 (by decide +kernel) rfl
theorem q_695 : (Jvm.Cond.code ({ cls := "OneHandEach", name := "liars", desc := "(I)I" } : Jvm.MethodName) prog_1_method_19_code (2 : Nat) (Option.some Jvm.ClassFile.FieldType.int)) ∈ m_ws := m_at 695 (by decide +kernel) rfl
theorem q_696 : (Jvm.Cond.methodLink "OneHandEach" (201 : Nat) ({ cls := "OneHandEach$Guesses", name := "fewestWrong", desc := "(LOneHandEach$Town;LOneHandEach$Entries;I)I" } : Jvm.MethodName)) ∈ m_ws := m_at 696 (by decide +kernel) rfl
theorem q_697 : (Jvm.Cond.static ({ cls := "OneHandEach$Guesses", name := "fewestWrong", desc := "(LOneHandEach$Town;LOneHandEach$Entries;I)I" } : Jvm.MethodName)) ∈ m_ws := m_at 697 (by decide +kernel) rfl
theorem q_698 : (Jvm.Cond.code ({ cls := "OneHandEach$Guesses", name := "fewestWrong", desc := "(LOneHandEach$Town;LOneHandEach$Entries;I)I" } : Jvm.MethodName) prog_6_method_4_code (8 : Nat) (Option.some Jvm.ClassFile.FieldType.int)) ∈ m_ws := m_at 698 (by decide +kernel) rfl
theorem q_699 : (Jvm.Cond.methodLink "OneHandEach$Guesses" (32 : Nat) ({ cls := "java/lang/Integer", name := "bitCount", desc := "(I)I" } : Jvm.MethodName)) ∈ m_ws := m_at 699 (by decide +kernel) rfl
theorem q_700 : (Jvm.Cond.static ({ cls := "java/lang/Integer", name := "bitCount", desc := "(I)I" } : Jvm.MethodName)) ∈ m_ws := m_at 700 (by decide +kernel) rfl
theorem q_701 : (Jvm.Cond.code ({ cls := "java/lang/Integer", name := "bitCount", desc := "(I)I" } : Jvm.MethodName) prog_15_method_49_code (1 : Nat) (Option.some Jvm.ClassFile.FieldType.int)) ∈ m_ws := m_at 701 (by decide +kernel) rfl
theorem q_702 : (Jvm.Cond.constant "java/lang/Integer" (265 : Nat) (1431655765 : Int32)) ∈ m_ws := m_at 702 (by decide +kernel) rfl
theorem q_703 : (Jvm.Cond.constant "java/lang/Integer" (266 : Nat) (858993459 : Int32)) ∈ m_ws := m_at 703 (by decide +kernel) rfl
theorem q_704 : (Jvm.Cond.constant "java/lang/Integer" (267 : Nat) (252645135 : Int32)) ∈ m_ws := m_at 704 (by decide +kernel) rfl
theorem q_705 : (Jvm.Cond.methodLink "OneHandEachLaw" (89 : Nat) ({ cls := "OneHandEach", name := "agree", desc := "(III)I" } : Jvm.MethodName)) ∈ m_ws := m_at 705 (by decide +kernel) rfl
theorem q_706 : (Jvm.Cond.instanceMethod ({ cls := "OneHandEach", name := "agree", desc := "(III)I" } : Jvm.MethodName)) ∈ m_ws := m_at 706 (by decide +kernel) rfl
theorem q_707 : (Jvm.Cond.selects "OneHandEach" ({ cls := "OneHandEach", name := "agree", desc := "(III)I" } : Jvm.MethodName) ({ cls := "OneHandEach", name := "agree", desc := "(III)I" } : Jvm.MethodName)) ∈ m_ws := m_at 707 (by decide +kernel) rfl
theorem q_708 : (Jvm.Cond.code ({ cls := "OneHandEach", name := "agree", desc := "(III)I" } : Jvm.MethodName) prog_1_method_20_code (7 : Nat) (Option.some Jvm.ClassFile.FieldType.int)) ∈ m_ws := m_at 708 (by decide +kernel) rfl
theorem q_709 : (Jvm.Cond.methodLink "OneHandEachLaw" (93 : Nat) ({ cls := "OneHandEach", name := "meet", desc := "(III)I" } : Jvm.MethodName)) ∈ m_ws := m_at 709 (by decide +kernel) rfl
theorem q_710 : (Jvm.Cond.instanceMethod ({ cls := "OneHandEach", name := "meet", desc := "(III)I" } : Jvm.MethodName)) ∈ m_ws := m_at 710 (by decide +kernel) rfl
theorem q_711 : (Jvm.Cond.selects "OneHandEach" ({ cls := "OneHandEach", name := "meet", desc := "(III)I" } : Jvm.MethodName) ({ cls := "OneHandEach", name := "meet", desc := "(III)I" } : Jvm.MethodName)) ∈ m_ws := m_at 711 (by decide +kernel) rfl
theorem q_712 : (Jvm.Cond.code ({ cls := "OneHandEach", name := "meet", desc := "(III)I" } : Jvm.MethodName) prog_1_method_21_code (6 : Nat) (Option.some Jvm.ClassFile.FieldType.int)) ∈ m_ws := m_at 712 (by decide +kernel) rfl
theorem q_713 : (Jvm.Cond.methodLink "OneHandEach" (205 : Nat) ({ cls := "OneHandEach$Town", name := "firstMinute", desc := "(III)I" } : Jvm.MethodName)) ∈ m_ws := m_at 713 (by decide +kernel) rfl
theorem q_714 : (Jvm.Cond.instanceMethod ({ cls := "OneHandEach$Town", name := "firstMinute", desc := "(III)I" } : Jvm.MethodName)) ∈ m_ws := m_at 714 (by decide +kernel) rfl
theorem q_715 : (Jvm.Cond.selects "OneHandEach$Town" ({ cls := "OneHandEach$Town", name := "firstMinute", desc := "(III)I" } : Jvm.MethodName) ({ cls := "OneHandEach$Town", name := "firstMinute", desc := "(III)I" } : Jvm.MethodName)) ∈ m_ws := m_at 715 (by decide +kernel) rfl
theorem q_716 : (Jvm.Cond.code ({ cls := "OneHandEach$Town", name := "firstMinute", desc := "(III)I" } : Jvm.MethodName) prog_12_method_13_code (5 : Nat) (Option.some Jvm.ClassFile.FieldType.int)) ∈ m_ws := m_at 716 (by decide +kernel) rfl
theorem q_717 : (Jvm.Cond.methodLink "OneHandEach$Town" (54 : Nat) ({ cls := "OneHandEach$Town", name := "partAt", desc := "(II)I" } : Jvm.MethodName)) ∈ m_ws := m_at 717 (by decide +kernel) rfl
theorem q_718 : (Jvm.Cond.methodLink "OneHandEach" (209 : Nat) ({ cls := "java/lang/Math", name := "abs", desc := "(I)I" } : Jvm.MethodName)) ∈ m_ws := m_at 718 (by decide +kernel) rfl
theorem q_719 : (Jvm.Cond.methodLink "OneHandEachLaw" (97 : Nat) ({ cls := "OneHandEach", name := "round", desc := "(II)I" } : Jvm.MethodName)) ∈ m_ws := m_at 719 (by decide +kernel) rfl
theorem q_720 : (Jvm.Cond.instanceMethod ({ cls := "OneHandEach", name := "round", desc := "(II)I" } : Jvm.MethodName)) ∈ m_ws := m_at 720 (by decide +kernel) rfl
theorem q_721 : (Jvm.Cond.selects "OneHandEach" ({ cls := "OneHandEach", name := "round", desc := "(II)I" } : Jvm.MethodName) ({ cls := "OneHandEach", name := "round", desc := "(II)I" } : Jvm.MethodName)) ∈ m_ws := m_at 721 (by decide +kernel) rfl
theorem q_722 : (Jvm.Cond.code ({ cls := "OneHandEach", name := "round", desc := "(II)I" } : Jvm.MethodName) prog_1_method_22_code (5 : Nat) (Option.some Jvm.ClassFile.FieldType.int)) ∈ m_ws := m_at 722 (by decide +kernel) rfl
theorem q_723 : (Jvm.Cond.methodLink "OneHandEach" (212 : Nat) ({ cls := "OneHandEach$Town", name := "gain", desc := "(I)I" } : Jvm.MethodName)) ∈ m_ws := m_at 723 (by decide +kernel) rfl
theorem q_724 : (Jvm.Cond.methodLink "OneHandEachLaw" (101 : Nat) ({ cls := "OneHandEach", name := "set", desc := "(II)I" } : Jvm.MethodName)) ∈ m_ws := m_at 724 (by decide +kernel) rfl
theorem q_725 : (Jvm.Cond.instanceMethod ({ cls := "OneHandEach", name := "set", desc := "(II)I" } : Jvm.MethodName)) ∈ m_ws := m_at 725 (by decide +kernel) rfl
theorem q_726 : (Jvm.Cond.selects "OneHandEach" ({ cls := "OneHandEach", name := "set", desc := "(II)I" } : Jvm.MethodName) ({ cls := "OneHandEach", name := "set", desc := "(II)I" } : Jvm.MethodName)) ∈ m_ws := m_at 726 (by decide +kernel) rfl
theorem q_727 : (Jvm.Cond.code ({ cls := "OneHandEach", name := "set", desc := "(II)I" } : Jvm.MethodName) prog_1_method_23_code (4 : Nat) (Option.some Jvm.ClassFile.FieldType.int)) ∈ m_ws := m_at 727 (by decide +kernel) rfl
theorem q_728 : (Jvm.Cond.methodLink "OneHandEach" (215 : Nat) ({ cls := "OneHandEach$Town", name := "offToShow", desc := "(III)I" } : Jvm.MethodName)) ∈ m_ws := m_at 728 (by decide +kernel) rfl
theorem q_729 : (Jvm.Cond.instanceMethod ({ cls := "OneHandEach$Town", name := "offToShow", desc := "(III)I" } : Jvm.MethodName)) ∈ m_ws := m_at 729 (by decide +kernel) rfl
theorem q_730 : (Jvm.Cond.selects "OneHandEach$Town" ({ cls := "OneHandEach$Town", name := "offToShow", desc := "(III)I" } : Jvm.MethodName) ({ cls := "OneHandEach$Town", name := "offToShow", desc := "(III)I" } : Jvm.MethodName)) ∈ m_ws := m_at 730 (by decide +kernel) rfl
theorem q_731 : (Jvm.Cond.code ({ cls := "OneHandEach$Town", name := "offToShow", desc := "(III)I" } : Jvm.MethodName) prog_12_method_12_code (5 : Nat) (Option.some Jvm.ClassFile.FieldType.int)) ∈ m_ws := m_at 731 (by decide +kernel) rfl
theorem q_732 : (Jvm.Cond.methodLink "OneHandEachLaw" (105 : Nat) ({ cls := "OneHandEach", name := "led", desc := "(II)I" } : Jvm.MethodName)) ∈ m_ws := m_at 732 (by decide +kernel) rfl
theorem q_733 : (Jvm.Cond.instanceMethod ({ cls := "OneHandEach", name := "led", desc := "(II)I" } : Jvm.MethodName)) ∈ m_ws := m_at 733 (by decide +kernel) rfl
theorem q_734 : (Jvm.Cond.selects "OneHandEach" ({ cls := "OneHandEach", name := "led", desc := "(II)I" } : Jvm.MethodName) ({ cls := "OneHandEach", name := "led", desc := "(II)I" } : Jvm.MethodName)) ∈ m_ws := m_at 734 (by decide +kernel) rfl
theorem q_735 : (Jvm.Cond.code ({ cls := "OneHandEach", name := "led", desc := "(II)I" } : Jvm.MethodName) prog_1_method_24_code (3 : Nat) (Option.some Jvm.ClassFile.FieldType.int)) ∈ m_ws := m_at 735 (by decide +kernel) rfl
theorem q_736 : (Jvm.Cond.methodLink "OneHandEachLaw" (109 : Nat) ({ cls := "OneHandEach", name := "judge", desc := "(I)I" } : Jvm.MethodName)) ∈ m_ws := m_at 736 (by decide +kernel) rfl
theorem q_737 : (Jvm.Cond.instanceMethod ({ cls := "OneHandEach", name := "judge", desc := "(I)I" } : Jvm.MethodName)) ∈ m_ws := m_at 737 (by decide +kernel) rfl
theorem q_738 : (Jvm.Cond.selects "OneHandEach" ({ cls := "OneHandEach", name := "judge", desc := "(I)I" } : Jvm.MethodName) ({ cls := "OneHandEach", name := "judge", desc := "(I)I" } : Jvm.MethodName)) ∈ m_ws := m_at 738 (by decide +kernel) rfl
theorem q_739 : (Jvm.Cond.code ({ cls := "OneHandEach", name := "judge", desc := "(I)I" } : Jvm.MethodName) prog_1_method_25_code (5 : Nat) (Option.some Jvm.ClassFile.FieldType.int)) ∈ m_ws := m_at 739 (by decide +kernel) rfl
theorem q_740 : (Jvm.Cond.methodLink "OneHandEach" (224 : Nat) ({ cls := "OneHandEach", name := "refusalOfRow", desc := "(I)I" } : Jvm.MethodName)) ∈ m_ws := m_at 740 (by decide +kernel) rfl
theorem q_742 : (Jvm.Cond.instanceMethod ({ cls := "OneHandEach", name := "refusalOfRow", desc := "(I)I" } : Jvm.MethodName)) ∈ m_ws := m_at 742 (by decide +kernel) rfl
theorem q_743 : (Jvm.Cond.code ({ cls := "OneHandEach", name := "refusalOfRow", desc := "(I)I" } : Jvm.MethodName) prog_1_method_54_code (3 : Nat) (Option.some Jvm.ClassFile.FieldType.int)) ∈ m_ws := m_at 743 (by decide +kernel) rfl
theorem q_744 : (Jvm.Cond.methodLink "OneHandEach" (230 : Nat) ({ cls := "OneHandEach", name := "isSo", desc := "(LOneHandEach$Shelf;I)Z" } : Jvm.MethodName)) ∈ m_ws := m_at 744 (by decide +kernel) rfl
theorem q_746 : (Jvm.Cond.instanceMethod ({ cls := "OneHandEach", name := "isSo", desc := "(LOneHandEach$Shelf;I)Z" } : Jvm.MethodName)) ∈ m_ws := m_at 746 (by decide +kernel) rfl
theorem q_747 : (Jvm.Cond.code ({ cls := "OneHandEach", name := "isSo", desc := "(LOneHandEach$Shelf;I)Z" } : Jvm.MethodName) prog_1_method_53_code (5 : Nat) (Option.some Jvm.ClassFile.FieldType.boolean)) ∈ m_ws := m_at 747 (by decide +kernel) rfl
theorem q_748 : (Jvm.Cond.methodLink "OneHandEachLaw" (113 : Nat) ({ cls := "OneHandEach", name := "image", desc := "()I" } : Jvm.MethodName)) ∈ m_ws := m_at 748 (by decide +kernel) rfl
theorem q_749 : (Jvm.Cond.instanceMethod ({ cls := "OneHandEach", name := "image", desc := "()I" } : Jvm.MethodName)) ∈ m_ws := m_at 749 (by decide +kernel) rfl
theorem q_750 : (Jvm.Cond.selects "OneHandEach" ({ cls := "OneHandEach", name := "image", desc := "()I" } : Jvm.MethodName) ({ cls := "OneHandEach", name := "image", desc := "()I" } : Jvm.MethodName)) ∈ m_ws := m_at 750 (by decide +kernel) rfl
theorem q_751 : (Jvm.Cond.code ({ cls := "OneHandEach", name := "image", desc := "()I" } : Jvm.MethodName) prog_1_method_26_code (2 : Nat) (Option.some Jvm.ClassFile.FieldType.int)) ∈ m_ws := m_at 751 (by decide +kernel) rfl
theorem q_752 : (Jvm.Cond.methodLink "OneHandEach" (239 : Nat) ({ cls := "OneHandEach$Entries", name := "become", desc := "(LOneHandEach$Entries;)V" } : Jvm.MethodName)) ∈ m_ws := m_at 752 (by decide +kernel) rfl
theorem q_753 : (Jvm.Cond.instanceMethod ({ cls := "OneHandEach$Entries", name := "become", desc := "(LOneHandEach$Entries;)V" } : Jvm.MethodName)) ∈ m_ws := m_at 753 (by decide +kernel) rfl
theorem q_754 : (Jvm.Cond.selects "OneHandEach$Entries" ({ cls := "OneHandEach$Entries", name := "become", desc := "(LOneHandEach$Entries;)V" } : Jvm.MethodName) ({ cls := "OneHandEach$Entries", name := "become", desc := "(LOneHandEach$Entries;)V" } : Jvm.MethodName)) ∈ m_ws := m_at 754 (by decide +kernel) rfl
theorem q_755 : (Jvm.Cond.code ({ cls := "OneHandEach$Entries", name := "become", desc := "(LOneHandEach$Entries;)V" } : Jvm.MethodName) prog_4_method_6_code (2 : Nat) (Option.none : Option Jvm.ClassFile.FieldType)) ∈ m_ws := m_at 755 (by decide +kernel) rfl
theorem q_756 : (Jvm.Cond.methodLink "OneHandEach$Entries" (38 : Nat) ({ cls := "java/lang/System", name := "arraycopy", desc := "(Ljava/lang/Object;ILjava/lang/Object;II)V" } : Jvm.MethodName)) ∈ m_ws := m_at 756 (by decide +kernel) rfl
theorem q_757 : (Jvm.Cond.static ({ cls := "java/lang/System", name := "arraycopy", desc := "(Ljava/lang/Object;ILjava/lang/Object;II)V" } : Jvm.MethodName)) ∈ m_ws := m_at 757 (by decide +kernel) rfl
theorem q_758 : (Jvm.Cond.native ({ cls := "java/lang/System", name := "arraycopy", desc := "(Ljava/lang/Object;ILjava/lang/Object;II)V" } : Jvm.MethodName)) ∈ m_ws := m_at 758 (by decide +kernel) rfl
theorem q_759 : (Jvm.Cond.methodLink "OneHandEach" (247 : Nat) ({ cls := "OneHandEach$Town", name := "off", desc := "(I)I" } : Jvm.MethodName)) ∈ m_ws := m_at 759 (by decide +kernel) rfl
theorem q_760 : (Jvm.Cond.methodLink "OneHandEachLaw" (117 : Nat) ({ cls := "OneHandEach", name := "back", desc := "()I" } : Jvm.MethodName)) ∈ m_ws := m_at 760 (by decide +kernel) rfl
theorem q_761 : (Jvm.Cond.instanceMethod ({ cls := "OneHandEach", name := "back", desc := "()I" } : Jvm.MethodName)) ∈ m_ws := m_at 761 (by decide +kernel) rfl
theorem q_762 : (Jvm.Cond.selects "OneHandEach" ({ cls := "OneHandEach", name := "back", desc := "()I" } : Jvm.MethodName) ({ cls := "OneHandEach", name := "back", desc := "()I" } : Jvm.MethodName)) ∈ m_ws := m_at 762 (by decide +kernel) rfl
theorem q_763 : (Jvm.Cond.code ({ cls := "OneHandEach", name := "back", desc := "()I" } : Jvm.MethodName) prog_1_method_27_code (2 : Nat) (Option.some Jvm.ClassFile.FieldType.int)) ∈ m_ws := m_at 763 (by decide +kernel) rfl
theorem q_764 : (Jvm.Cond.methodLink "OneHandEachLaw" (121 : Nat) ({ cls := "OneHandEach", name := "undo", desc := "()I" } : Jvm.MethodName)) ∈ m_ws := m_at 764 (by decide +kernel) rfl
theorem q_765 : (Jvm.Cond.instanceMethod ({ cls := "OneHandEach", name := "undo", desc := "()I" } : Jvm.MethodName)) ∈ m_ws := m_at 765 (by decide +kernel) rfl
theorem q_766 : (Jvm.Cond.selects "OneHandEach" ({ cls := "OneHandEach", name := "undo", desc := "()I" } : Jvm.MethodName) ({ cls := "OneHandEach", name := "undo", desc := "()I" } : Jvm.MethodName)) ∈ m_ws := m_at 766 (by decide +kernel) rfl
theorem q_767 : (Jvm.Cond.code ({ cls := "OneHandEach", name := "undo", desc := "()I" } : Jvm.MethodName) prog_1_method_28_code (1 : Nat) (Option.some Jvm.ClassFile.FieldType.int)) ∈ m_ws := m_at 767 (by decide +kernel) rfl
theorem q_768 : (Jvm.Cond.methodLink "OneHandEach" (251 : Nat) ({ cls := "OneHandEach$Changes", name := "undoIn", desc := "(LOneHandEach$Town;)I" } : Jvm.MethodName)) ∈ m_ws := m_at 768 (by decide +kernel) rfl
theorem q_769 : (Jvm.Cond.instanceMethod ({ cls := "OneHandEach$Changes", name := "undoIn", desc := "(LOneHandEach$Town;)I" } : Jvm.MethodName)) ∈ m_ws := m_at 769 (by decide +kernel) rfl
theorem q_770 : (Jvm.Cond.selects "OneHandEach$Changes" ({ cls := "OneHandEach$Changes", name := "undoIn", desc := "(LOneHandEach$Town;)I" } : Jvm.MethodName) ({ cls := "OneHandEach$Changes", name := "undoIn", desc := "(LOneHandEach$Town;)I" } : Jvm.MethodName)) ∈ m_ws := m_at 770 (by decide +kernel) rfl
theorem q_771 : (Jvm.Cond.code ({ cls := "OneHandEach$Changes", name := "undoIn", desc := "(LOneHandEach$Town;)I" } : Jvm.MethodName) prog_3_method_4_code (2 : Nat) (Option.some Jvm.ClassFile.FieldType.int)) ∈ m_ws := m_at 771 (by decide +kernel) rfl
theorem q_772 : (Jvm.Cond.methodLink "OneHandEachLaw" (125 : Nat) ({ cls := "OneHandEach", name := "redo", desc := "()I" } : Jvm.MethodName)) ∈ m_ws := m_at 772 (by decide +kernel) rfl
theorem q_773 : (Jvm.Cond.instanceMethod ({ cls := "OneHandEach", name := "redo", desc := "()I" } : Jvm.MethodName)) ∈ m_ws := m_at 773 (by decide +kernel) rfl
theorem q_774 : (Jvm.Cond.selects "OneHandEach" ({ cls := "OneHandEach", name := "redo", desc := "()I" } : Jvm.MethodName) ({ cls := "OneHandEach", name := "redo", desc := "()I" } : Jvm.MethodName)) ∈ m_ws := m_at 774 (by decide +kernel) rfl
theorem q_775 : (Jvm.Cond.code ({ cls := "OneHandEach", name := "redo", desc := "()I" } : Jvm.MethodName) prog_1_method_29_code (1 : Nat) (Option.some Jvm.ClassFile.FieldType.int)) ∈ m_ws := m_at 775 (by decide +kernel) rfl
theorem q_776 : (Jvm.Cond.methodLink "OneHandEach" (255 : Nat) ({ cls := "OneHandEach$Changes", name := "redoIn", desc := "(LOneHandEach$Town;)I" } : Jvm.MethodName)) ∈ m_ws := m_at 776 (by decide +kernel) rfl
theorem q_777 : (Jvm.Cond.instanceMethod ({ cls := "OneHandEach$Changes", name := "redoIn", desc := "(LOneHandEach$Town;)I" } : Jvm.MethodName)) ∈ m_ws := m_at 777 (by decide +kernel) rfl
theorem q_778 : (Jvm.Cond.selects "OneHandEach$Changes" ({ cls := "OneHandEach$Changes", name := "redoIn", desc := "(LOneHandEach$Town;)I" } : Jvm.MethodName) ({ cls := "OneHandEach$Changes", name := "redoIn", desc := "(LOneHandEach$Town;)I" } : Jvm.MethodName)) ∈ m_ws := m_at 778 (by decide +kernel) rfl
theorem q_779 : (Jvm.Cond.code ({ cls := "OneHandEach$Changes", name := "redoIn", desc := "(LOneHandEach$Town;)I" } : Jvm.MethodName) prog_3_method_5_code (2 : Nat) (Option.some Jvm.ClassFile.FieldType.int)) ∈ m_ws := m_at 779 (by decide +kernel) rfl
theorem q_780 : (Jvm.Cond.methodLink "OneHandEachLaw" (129 : Nat) ({ cls := "OneHandEach", name := "body", desc := "(I)I" } : Jvm.MethodName)) ∈ m_ws := m_at 780 (by decide +kernel) rfl
theorem q_781 : (Jvm.Cond.instanceMethod ({ cls := "OneHandEach", name := "body", desc := "(I)I" } : Jvm.MethodName)) ∈ m_ws := m_at 781 (by decide +kernel) rfl
theorem q_782 : (Jvm.Cond.selects "OneHandEach" ({ cls := "OneHandEach", name := "body", desc := "(I)I" } : Jvm.MethodName) ({ cls := "OneHandEach", name := "body", desc := "(I)I" } : Jvm.MethodName)) ∈ m_ws := m_at 782 (by decide +kernel) rfl
theorem q_783 : (Jvm.Cond.code ({ cls := "OneHandEach", name := "body", desc := "(I)I" } : Jvm.MethodName) prog_1_method_30_code (2 : Nat) (Option.some Jvm.ClassFile.FieldType.int)) ∈ m_ws := m_at 783 (by decide +kernel) rfl
theorem q_784 : (Jvm.Cond.methodLink "OneHandEach" (258 : Nat) ({ cls := "OneHandEach", name := "isKind", desc := "(I)Z" } : Jvm.MethodName)) ∈ m_ws := m_at 784 (by decide +kernel) rfl
theorem q_785 : (Jvm.Cond.static ({ cls := "OneHandEach", name := "isKind", desc := "(I)Z" } : Jvm.MethodName)) ∈ m_ws := m_at 785 (by decide +kernel) rfl
theorem q_786 : (Jvm.Cond.code ({ cls := "OneHandEach", name := "isKind", desc := "(I)Z" } : Jvm.MethodName) prog_1_method_46_code (1 : Nat) (Option.some Jvm.ClassFile.FieldType.boolean)) ∈ m_ws := m_at 786 (by decide +kernel) rfl
theorem q_787 : (Jvm.Cond.methodLink "OneHandEach" (261 : Nat) ({ cls := "OneHandEach$Bodies", name := "add", desc := "(I)I" } : Jvm.MethodName)) ∈ m_ws := m_at 787 (by decide +kernel) rfl
theorem q_788 : (Jvm.Cond.instanceMethod ({ cls := "OneHandEach$Bodies", name := "add", desc := "(I)I" } : Jvm.MethodName)) ∈ m_ws := m_at 788 (by decide +kernel) rfl
theorem q_789 : (Jvm.Cond.selects "OneHandEach$Bodies" ({ cls := "OneHandEach$Bodies", name := "add", desc := "(I)I" } : Jvm.MethodName) ({ cls := "OneHandEach$Bodies", name := "add", desc := "(I)I" } : Jvm.MethodName)) ∈ m_ws := m_at 789 (by decide +kernel) rfl
theorem q_790 : (Jvm.Cond.code ({ cls := "OneHandEach$Bodies", name := "add", desc := "(I)I" } : Jvm.MethodName) prog_2_method_2_code (2 : Nat) (Option.some Jvm.ClassFile.FieldType.int)) ∈ m_ws := m_at 790 (by decide +kernel) rfl
theorem q_791 : (Jvm.Cond.methodLink "OneHandEachLaw" (133 : Nat) ({ cls := "OneHandEach", name := "act", desc := "(III)I" } : Jvm.MethodName)) ∈ m_ws := m_at 791 (by decide +kernel) rfl
theorem q_792 : (Jvm.Cond.instanceMethod ({ cls := "OneHandEach", name := "act", desc := "(III)I" } : Jvm.MethodName)) ∈ m_ws := m_at 792 (by decide +kernel) rfl
theorem q_793 : (Jvm.Cond.selects "OneHandEach" ({ cls := "OneHandEach", name := "act", desc := "(III)I" } : Jvm.MethodName) ({ cls := "OneHandEach", name := "act", desc := "(III)I" } : Jvm.MethodName)) ∈ m_ws := m_at 793 (by decide +kernel) rfl
theorem q_794 : (Jvm.Cond.code ({ cls := "OneHandEach", name := "act", desc := "(III)I" } : Jvm.MethodName) prog_1_method_31_code (4 : Nat) (Option.some Jvm.ClassFile.FieldType.int)) ∈ m_ws := m_at 794 (by decide +kernel) rfl
theorem q_795 : (Jvm.Cond.methodLink "OneHandEach" (263 : Nat) ({ cls := "OneHandEach$Bodies", name := "actOf", desc := "(III)I" } : Jvm.MethodName)) ∈ m_ws := m_at 795 (by decide +kernel) rfl
theorem q_796 : (Jvm.Cond.instanceMethod ({ cls := "OneHandEach$Bodies", name := "actOf", desc := "(III)I" } : Jvm.MethodName)) ∈ m_ws := m_at 796 (by decide +kernel) rfl
theorem q_797 : (Jvm.Cond.selects "OneHandEach$Bodies" ({ cls := "OneHandEach$Bodies", name := "actOf", desc := "(III)I" } : Jvm.MethodName) ({ cls := "OneHandEach$Bodies", name := "actOf", desc := "(III)I" } : Jvm.MethodName)) ∈ m_ws := m_at 797 (by decide +kernel) rfl
theorem q_798 : (Jvm.Cond.code ({ cls := "OneHandEach$Bodies", name := "actOf", desc := "(III)I" } : Jvm.MethodName) prog_2_method_5_code (4 : Nat) (Option.some Jvm.ClassFile.FieldType.int)) ∈ m_ws := m_at 798 (by decide +kernel) rfl
theorem q_800 : (Jvm.Cond.methodLink "OneHandEach$Bodies" (32 : Nat) ({ cls := "OneHandEach$Bodies", name := "own", desc := "(IIII)I" } : Jvm.MethodName)) ∈ m_ws := m_at 800 (by decide +kernel) rfl
theorem q_802 : (Jvm.Cond.instanceMethod ({ cls := "OneHandEach$Bodies", name := "own", desc := "(IIII)I" } : Jvm.MethodName)) ∈ m_ws := m_at 802 (by decide +kernel) rfl
theorem q_803 : (Jvm.Cond.code ({ cls := "OneHandEach$Bodies", name := "own", desc := "(IIII)I" } : Jvm.MethodName) prog_2_method_6_code (5 : Nat) (Option.some Jvm.ClassFile.FieldType.int)) ∈ m_ws := m_at 803 (by decide +kernel) rfl
theorem q_804 : (Jvm.Cond.methodLink "OneHandEach$Bodies" (36 : Nat) ({ cls := "OneHandEach$Bodies", name := "kindOf", desc := "(I)I" } : Jvm.MethodName)) ∈ m_ws := m_at 804 (by decide +kernel) rfl
theorem q_805 : (Jvm.Cond.instanceMethod ({ cls := "OneHandEach$Bodies", name := "kindOf", desc := "(I)I" } : Jvm.MethodName)) ∈ m_ws := m_at 805 (by decide +kernel) rfl
theorem q_806 : (Jvm.Cond.selects "OneHandEach$Bodies" ({ cls := "OneHandEach$Bodies", name := "kindOf", desc := "(I)I" } : Jvm.MethodName) ({ cls := "OneHandEach$Bodies", name := "kindOf", desc := "(I)I" } : Jvm.MethodName)) ∈ m_ws := m_at 806 (by decide +kernel) rfl
theorem q_807 : (Jvm.Cond.code ({ cls := "OneHandEach$Bodies", name := "kindOf", desc := "(I)I" } : Jvm.MethodName) prog_2_method_3_code (2 : Nat) (Option.some Jvm.ClassFile.FieldType.int)) ∈ m_ws := m_at 807 (by decide +kernel) rfl
theorem q_808 : (Jvm.Cond.methodLink "OneHandEach$Bodies" (40 : Nat) ({ cls := "OneHandEach$Bodies", name := "from", desc := "(IIIII)I" } : Jvm.MethodName)) ∈ m_ws := m_at 808 (by decide +kernel) rfl
theorem q_810 : (Jvm.Cond.instanceMethod ({ cls := "OneHandEach$Bodies", name := "from", desc := "(IIIII)I" } : Jvm.MethodName)) ∈ m_ws := m_at 810 (by decide +kernel) rfl
theorem q_811 : (Jvm.Cond.code ({ cls := "OneHandEach$Bodies", name := "from", desc := "(IIIII)I" } : Jvm.MethodName) prog_2_method_7_code (9 : Nat) (Option.some Jvm.ClassFile.FieldType.int)) ∈ m_ws := m_at 811 (by decide +kernel) rfl
theorem q_812 : (Jvm.Cond.fieldLink "OneHandEach$Bodies" (44 : Nat) "OneHandEach$Bodies" "OWN" "[I") ∈ m_ws := m_at 812 (by decide +kernel) rfl
theorem q_814 : (Jvm.Cond.fieldLink "OneHandEach$Bodies" (26 : Nat) "OneHandEach$Bodies" "ABOVE" "[I") ∈ m_ws := m_at 814 (by decide +kernel) rfl
theorem q_816 : (Jvm.Cond.methodLink "OneHandEach$Bodies" (47 : Nat) ({ cls := "OneHandEach$Bodies", name := "run", desc := "(IIIII)I" } : Jvm.MethodName)) ∈ m_ws := m_at 816 (by decide +kernel) rfl
theorem q_818 : (Jvm.Cond.instanceMethod ({ cls := "OneHandEach$Bodies", name := "run", desc := "(IIIII)I" } : Jvm.MethodName)) ∈ m_ws := m_at 818 (by decide +kernel) rfl
theorem q_819 : (Jvm.Cond.code ({ cls := "OneHandEach$Bodies", name := "run", desc := "(IIIII)I" } : Jvm.MethodName) prog_2_method_8_code (6 : Nat) (Option.some Jvm.ClassFile.FieldType.int)) ∈ m_ws := m_at 819 (by decide +kernel) rfl
theorem q_820 : (Jvm.Cond.methodLink "OneHandEachLaw" (137 : Nat) ({ cls := "OneHandEach", name := "trace", desc := "(I)I" } : Jvm.MethodName)) ∈ m_ws := m_at 820 (by decide +kernel) rfl
theorem q_821 : (Jvm.Cond.instanceMethod ({ cls := "OneHandEach", name := "trace", desc := "(I)I" } : Jvm.MethodName)) ∈ m_ws := m_at 821 (by decide +kernel) rfl
theorem q_822 : (Jvm.Cond.selects "OneHandEach" ({ cls := "OneHandEach", name := "trace", desc := "(I)I" } : Jvm.MethodName) ({ cls := "OneHandEach", name := "trace", desc := "(I)I" } : Jvm.MethodName)) ∈ m_ws := m_at 822 (by decide +kernel) rfl
theorem q_823 : (Jvm.Cond.code ({ cls := "OneHandEach", name := "trace", desc := "(I)I" } : Jvm.MethodName) prog_1_method_32_code (2 : Nat) (Option.some Jvm.ClassFile.FieldType.int)) ∈ m_ws := m_at 823 (by decide +kernel) rfl
theorem q_824 : (Jvm.Cond.methodLink "OneHandEachLaw" (141 : Nat) ({ cls := "OneHandEach", name := "keep", desc := "(II)I" } : Jvm.MethodName)) ∈ m_ws := m_at 824 (by decide +kernel) rfl
theorem q_825 : (Jvm.Cond.instanceMethod ({ cls := "OneHandEach", name := "keep", desc := "(II)I" } : Jvm.MethodName)) ∈ m_ws := m_at 825 (by decide +kernel) rfl
theorem q_826 : (Jvm.Cond.selects "OneHandEach" ({ cls := "OneHandEach", name := "keep", desc := "(II)I" } : Jvm.MethodName) ({ cls := "OneHandEach", name := "keep", desc := "(II)I" } : Jvm.MethodName)) ∈ m_ws := m_at 826 (by decide +kernel) rfl
theorem q_827 : (Jvm.Cond.code ({ cls := "OneHandEach", name := "keep", desc := "(II)I" } : Jvm.MethodName) prog_1_method_33_code (4 : Nat) (Option.some Jvm.ClassFile.FieldType.int)) ∈ m_ws := m_at 827 (by decide +kernel) rfl
theorem q_828 : (Jvm.Cond.methodLink "OneHandEachLaw" (145 : Nat) ({ cls := "OneHandEach", name := "row", desc := "(III)I" } : Jvm.MethodName)) ∈ m_ws := m_at 828 (by decide +kernel) rfl
theorem q_829 : (Jvm.Cond.instanceMethod ({ cls := "OneHandEach", name := "row", desc := "(III)I" } : Jvm.MethodName)) ∈ m_ws := m_at 829 (by decide +kernel) rfl
theorem q_830 : (Jvm.Cond.selects "OneHandEach" ({ cls := "OneHandEach", name := "row", desc := "(III)I" } : Jvm.MethodName) ({ cls := "OneHandEach", name := "row", desc := "(III)I" } : Jvm.MethodName)) ∈ m_ws := m_at 830 (by decide +kernel) rfl
theorem q_831 : (Jvm.Cond.code ({ cls := "OneHandEach", name := "row", desc := "(III)I" } : Jvm.MethodName) prog_1_method_34_code (4 : Nat) (Option.some Jvm.ClassFile.FieldType.int)) ∈ m_ws := m_at 831 (by decide +kernel) rfl
theorem q_832 : (Jvm.Cond.methodLink "OneHandEach" (276 : Nat) ({ cls := "OneHandEach$Shelf", name := "becomeRow", desc := "(II)V" } : Jvm.MethodName)) ∈ m_ws := m_at 832 (by decide +kernel) rfl
theorem q_833 : (Jvm.Cond.instanceMethod ({ cls := "OneHandEach$Shelf", name := "becomeRow", desc := "(II)V" } : Jvm.MethodName)) ∈ m_ws := m_at 833 (by decide +kernel) rfl
theorem q_834 : (Jvm.Cond.selects "OneHandEach$Shelf" ({ cls := "OneHandEach$Shelf", name := "becomeRow", desc := "(II)V" } : Jvm.MethodName) ({ cls := "OneHandEach$Shelf", name := "becomeRow", desc := "(II)V" } : Jvm.MethodName)) ∈ m_ws := m_at 834 (by decide +kernel) rfl
theorem q_835 : (Jvm.Cond.code ({ cls := "OneHandEach$Shelf", name := "becomeRow", desc := "(II)V" } : Jvm.MethodName) prog_11_method_3_code (4 : Nat) (Option.none : Option Jvm.ClassFile.FieldType)) ∈ m_ws := m_at 835 (by decide +kernel) rfl
theorem q_836 : (Jvm.Cond.methodLink "OneHandEachLaw" (151 : Nat) ({ cls := "OneHandEach", name := "put", desc := "(IIJ)I" } : Jvm.MethodName)) ∈ m_ws := m_at 836 (by decide +kernel) rfl
theorem q_837 : (Jvm.Cond.instanceMethod ({ cls := "OneHandEach", name := "put", desc := "(IIJ)I" } : Jvm.MethodName)) ∈ m_ws := m_at 837 (by decide +kernel) rfl
theorem q_838 : (Jvm.Cond.selects "OneHandEach" ({ cls := "OneHandEach", name := "put", desc := "(IIJ)I" } : Jvm.MethodName) ({ cls := "OneHandEach", name := "put", desc := "(IIJ)I" } : Jvm.MethodName)) ∈ m_ws := m_at 838 (by decide +kernel) rfl
theorem q_839 : (Jvm.Cond.code ({ cls := "OneHandEach", name := "put", desc := "(IIJ)I" } : Jvm.MethodName) prog_1_method_35_code (6 : Nat) (Option.some Jvm.ClassFile.FieldType.int)) ∈ m_ws := m_at 839 (by decide +kernel) rfl
theorem q_840 : (Jvm.Cond.methodLink "OneHandEach" (279 : Nat) ({ cls := "OneHandEach", name := "refusalOfPlace", desc := "(II)I" } : Jvm.MethodName)) ∈ m_ws := m_at 840 (by decide +kernel) rfl
theorem q_842 : (Jvm.Cond.instanceMethod ({ cls := "OneHandEach", name := "refusalOfPlace", desc := "(II)I" } : Jvm.MethodName)) ∈ m_ws := m_at 842 (by decide +kernel) rfl
theorem q_843 : (Jvm.Cond.code ({ cls := "OneHandEach", name := "refusalOfPlace", desc := "(II)I" } : Jvm.MethodName) prog_1_method_55_code (4 : Nat) (Option.some Jvm.ClassFile.FieldType.int)) ∈ m_ws := m_at 843 (by decide +kernel) rfl
theorem q_844 : (Jvm.Cond.methodLink "OneHandEach" (286 : Nat) ({ cls := "OneHandEach$Shelf", name := "keptOf", desc := "(J)J" } : Jvm.MethodName)) ∈ m_ws := m_at 844 (by decide +kernel) rfl
theorem q_845 : (Jvm.Cond.instanceMethod ({ cls := "OneHandEach$Shelf", name := "keptOf", desc := "(J)J" } : Jvm.MethodName)) ∈ m_ws := m_at 845 (by decide +kernel) rfl
theorem q_846 : (Jvm.Cond.selects "OneHandEach$Shelf" ({ cls := "OneHandEach$Shelf", name := "keptOf", desc := "(J)J" } : Jvm.MethodName) ({ cls := "OneHandEach$Shelf", name := "keptOf", desc := "(J)J" } : Jvm.MethodName)) ∈ m_ws := m_at 846 (by decide +kernel) rfl
theorem q_847 : (Jvm.Cond.code ({ cls := "OneHandEach$Shelf", name := "keptOf", desc := "(J)J" } : Jvm.MethodName) prog_11_method_4_code (3 : Nat) (Option.some Jvm.ClassFile.FieldType.long)) ∈ m_ws := m_at 847 (by decide +kernel) rfl
theorem q_848 : (Jvm.Cond.methodLink "OneHandEachLaw" (156 : Nat) ({ cls := "OneHandEach", name := "element", desc := "(II)J" } : Jvm.MethodName)) ∈ m_ws := m_at 848 (by decide +kernel) rfl
theorem q_849 : (Jvm.Cond.instanceMethod ({ cls := "OneHandEach", name := "element", desc := "(II)J" } : Jvm.MethodName)) ∈ m_ws := m_at 849 (by decide +kernel) rfl
theorem q_850 : (Jvm.Cond.selects "OneHandEach" ({ cls := "OneHandEach", name := "element", desc := "(II)J" } : Jvm.MethodName) ({ cls := "OneHandEach", name := "element", desc := "(II)J" } : Jvm.MethodName)) ∈ m_ws := m_at 850 (by decide +kernel) rfl
theorem q_851 : (Jvm.Cond.code ({ cls := "OneHandEach", name := "element", desc := "(II)J" } : Jvm.MethodName) prog_1_method_36_code (3 : Nat) (Option.some Jvm.ClassFile.FieldType.long)) ∈ m_ws := m_at 851 (by decide +kernel) rfl
theorem q_852 : (Jvm.Cond.constantLong "OneHandEach" (290 : Nat) (-9223372036854775808 : Int64)) ∈ m_ws := m_at 852 (by decide +kernel) rfl
theorem q_853 : (Jvm.Cond.methodLink "OneHandEachLaw" (161 : Nat) ({ cls := "OneHandEach", name := "shift", desc := "(IIIII)I" } : Jvm.MethodName)) ∈ m_ws := m_at 853 (by decide +kernel) rfl
theorem q_854 : (Jvm.Cond.instanceMethod ({ cls := "OneHandEach", name := "shift", desc := "(IIIII)I" } : Jvm.MethodName)) ∈ m_ws := m_at 854 (by decide +kernel) rfl
theorem q_855 : (Jvm.Cond.selects "OneHandEach" ({ cls := "OneHandEach", name := "shift", desc := "(IIIII)I" } : Jvm.MethodName) ({ cls := "OneHandEach", name := "shift", desc := "(IIIII)I" } : Jvm.MethodName)) ∈ m_ws := m_at 855 (by decide +kernel) rfl
theorem q_856 : (Jvm.Cond.code ({ cls := "OneHandEach", name := "shift", desc := "(IIIII)I" } : Jvm.MethodName) prog_1_method_37_code (8 : Nat) (Option.some Jvm.ClassFile.FieldType.int)) ∈ m_ws := m_at 856 (by decide +kernel) rfl
theorem q_857 : (Jvm.Cond.methodLink "OneHandEach" (295 : Nat) ({ cls := "java/lang/System", name := "arraycopy", desc := "(Ljava/lang/Object;ILjava/lang/Object;II)V" } : Jvm.MethodName)) ∈ m_ws := m_at 857 (by decide +kernel) rfl
theorem q_858 : (Jvm.Cond.methodLink "OneHandEachLaw" (166 : Nat) ({ cls := "OneHandEach", name := "taken", desc := "(II)I" } : Jvm.MethodName)) ∈ m_ws := m_at 858 (by decide +kernel) rfl
theorem q_859 : (Jvm.Cond.instanceMethod ({ cls := "OneHandEach", name := "taken", desc := "(II)I" } : Jvm.MethodName)) ∈ m_ws := m_at 859 (by decide +kernel) rfl
theorem q_860 : (Jvm.Cond.selects "OneHandEach" ({ cls := "OneHandEach", name := "taken", desc := "(II)I" } : Jvm.MethodName) ({ cls := "OneHandEach", name := "taken", desc := "(II)I" } : Jvm.MethodName)) ∈ m_ws := m_at 860 (by decide +kernel) rfl
theorem q_861 : (Jvm.Cond.code ({ cls := "OneHandEach", name := "taken", desc := "(II)I" } : Jvm.MethodName) prog_1_method_38_code (5 : Nat) (Option.some Jvm.ClassFile.FieldType.int)) ∈ m_ws := m_at 861 (by decide +kernel) rfl
theorem q_862 : (Jvm.Cond.methodLink "OneHandEach" (301 : Nat) ({ cls := "OneHandEach$Bodies", name := "kindOf", desc := "(I)I" } : Jvm.MethodName)) ∈ m_ws := m_at 862 (by decide +kernel) rfl
theorem q_863 : (Jvm.Cond.methodLink "OneHandEach" (304 : Nat) ({ cls := "OneHandEach$Bodies", name := "isUnder", desc := "(II)Z" } : Jvm.MethodName)) ∈ m_ws := m_at 863 (by decide +kernel) rfl
theorem q_864 : (Jvm.Cond.static ({ cls := "OneHandEach$Bodies", name := "isUnder", desc := "(II)Z" } : Jvm.MethodName)) ∈ m_ws := m_at 864 (by decide +kernel) rfl
theorem q_865 : (Jvm.Cond.code ({ cls := "OneHandEach$Bodies", name := "isUnder", desc := "(II)Z" } : Jvm.MethodName) prog_2_method_4_code (4 : Nat) (Option.some Jvm.ClassFile.FieldType.boolean)) ∈ m_ws := m_at 865 (by decide +kernel) rfl
theorem q_866 : (Jvm.Cond.methodLink "OneHandEachLaw" (170 : Nat) ({ cls := "OneHandEach", name := "count", desc := "(I)I" } : Jvm.MethodName)) ∈ m_ws := m_at 866 (by decide +kernel) rfl
theorem q_867 : (Jvm.Cond.instanceMethod ({ cls := "OneHandEach", name := "count", desc := "(I)I" } : Jvm.MethodName)) ∈ m_ws := m_at 867 (by decide +kernel) rfl
theorem q_868 : (Jvm.Cond.selects "OneHandEach" ({ cls := "OneHandEach", name := "count", desc := "(I)I" } : Jvm.MethodName) ({ cls := "OneHandEach", name := "count", desc := "(I)I" } : Jvm.MethodName)) ∈ m_ws := m_at 868 (by decide +kernel) rfl
theorem q_869 : (Jvm.Cond.code ({ cls := "OneHandEach", name := "count", desc := "(I)I" } : Jvm.MethodName) prog_1_method_39_code (2 : Nat) (Option.some Jvm.ClassFile.FieldType.int)) ∈ m_ws := m_at 869 (by decide +kernel) rfl
theorem q_870 : (Jvm.Cond.methodLink "OneHandEach" (307 : Nat) ({ cls := "OneHandEach$Law", name := "bytesOnTape", desc := "()I" } : Jvm.MethodName)) ∈ m_ws := m_at 870 (by decide +kernel) rfl
theorem q_871 : (Jvm.Cond.instanceMethod ({ cls := "OneHandEach$Law", name := "bytesOnTape", desc := "()I" } : Jvm.MethodName)) ∈ m_ws := m_at 871 (by decide +kernel) rfl
theorem q_872 : (Jvm.Cond.selects "OneHandEach$Law" ({ cls := "OneHandEach$Law", name := "bytesOnTape", desc := "()I" } : Jvm.MethodName) ({ cls := "OneHandEach$Law", name := "bytesOnTape", desc := "()I" } : Jvm.MethodName)) ∈ m_ws := m_at 872 (by decide +kernel) rfl
theorem q_873 : (Jvm.Cond.code ({ cls := "OneHandEach$Law", name := "bytesOnTape", desc := "()I" } : Jvm.MethodName) prog_8_method_3_code (1 : Nat) (Option.some Jvm.ClassFile.FieldType.int)) ∈ m_ws := m_at 873 (by decide +kernel) rfl
theorem q_874 : (Jvm.Cond.classLink "OneHandEachLaw" (10 : Nat) "OneHandEachModel") ∈ m_ws := m_at 874 (by decide +kernel) rfl
theorem q_875 : (Jvm.Cond.instantiable "OneHandEachModel" (57 : Nat)) ∈ m_ws := m_at 875 (by decide +kernel) rfl
theorem q_876 : (Jvm.Cond.methodLink "OneHandEachLaw" (12 : Nat) ({ cls := "OneHandEachModel", name := "<init>", desc := "()V" } : Jvm.MethodName)) ∈ m_ws := m_at 876 (by decide +kernel) rfl
theorem q_877 : (Jvm.Cond.instanceMethod ({ cls := "OneHandEachModel", name := "<init>", desc := "()V" } : Jvm.MethodName)) ∈ m_ws := m_at 877 (by decide +kernel) rfl
theorem q_878 : (Jvm.Cond.code ({ cls := "OneHandEachModel", name := "<init>", desc := "()V" } : Jvm.MethodName) prog_14_method_1_code (1 : Nat) (Option.none : Option Jvm.ClassFile.FieldType)) ∈ m_ws := m_at 878 (by decide +kernel) rfl
theorem q_879 : (Jvm.Cond.methodLink "OneHandEachModel" (1 : Nat) ({ cls := "java/lang/Object", name := "<init>", desc := "()V" } : Jvm.MethodName)) ∈ m_ws := m_at 879 (by decide +kernel) rfl
theorem q_880 : (Jvm.Cond.fieldLink "OneHandEachModel" (7 : Nat) "OneHandEachModel" "off" "[I") ∈ m_ws := m_at 880 (by decide +kernel) rfl
theorem q_881 : (Jvm.Cond.fieldLink "OneHandEachModel" (13 : Nat) "OneHandEachModel" "gain" "[I") ∈ m_ws := m_at 881 (by decide +kernel) rfl
theorem q_882 : (Jvm.Cond.fieldLink "OneHandEachModel" (148 : Nat) "OneHandEachModel" "err" "I") ∈ m_ws := m_at 882 (by decide +kernel) rfl
theorem q_883 : (Jvm.Cond.fieldLink "OneHandEachModel" (16 : Nat) "OneHandEachModel" "walkFrom" "I") ∈ m_ws := m_at 883 (by decide +kernel) rfl
theorem q_884 : (Jvm.Cond.fieldLink "OneHandEachModel" (20 : Nat) "OneHandEachModel" "walkTo" "I") ∈ m_ws := m_at 884 (by decide +kernel) rfl
theorem q_885 : (Jvm.Cond.fieldLink "OneHandEachModel" (23 : Nat) "OneHandEachModel" "setOften" "[I") ∈ m_ws := m_at 885 (by decide +kernel) rfl
theorem q_886 : (Jvm.Cond.fieldLink "OneHandEachModel" (26 : Nat) "OneHandEachModel" "setLatest" "[I") ∈ m_ws := m_at 886 (by decide +kernel) rfl
theorem q_887 : (Jvm.Cond.fieldLink "OneHandEachModel" (167 : Nat) "OneHandEachModel" "doneMany" "I") ∈ m_ws := m_at 887 (by decide +kernel) rfl
theorem q_888 : (Jvm.Cond.fieldLink "OneHandEachModel" (164 : Nat) "OneHandEachModel" "undoneMany" "I") ∈ m_ws := m_at 888 (by decide +kernel) rfl
theorem q_889 : (Jvm.Cond.fieldLink "OneHandEachModel" (29 : Nat) "OneHandEachModel" "changeOf" "[I") ∈ m_ws := m_at 889 (by decide +kernel) rfl
theorem q_890 : (Jvm.Cond.fieldLink "OneHandEachModel" (32 : Nat) "OneHandEachModel" "changeAt" "[I") ∈ m_ws := m_at 890 (by decide +kernel) rfl
theorem q_891 : (Jvm.Cond.fieldLink "OneHandEachModel" (35 : Nat) "OneHandEachModel" "before" "[I") ∈ m_ws := m_at 891 (by decide +kernel) rfl
theorem q_892 : (Jvm.Cond.fieldLink "OneHandEachModel" (38 : Nat) "OneHandEachModel" "behind" "[I") ∈ m_ws := m_at 892 (by decide +kernel) rfl
theorem q_893 : (Jvm.Cond.fieldLink "OneHandEachModel" (178 : Nat) "OneHandEachModel" "sights" "I") ∈ m_ws := m_at 893 (by decide +kernel) rfl
theorem q_894 : (Jvm.Cond.fieldLink "OneHandEachModel" (41 : Nat) "OneHandEachModel" "seenClock" "[I") ∈ m_ws := m_at 894 (by decide +kernel) rfl
theorem q_895 : (Jvm.Cond.fieldLink "OneHandEachModel" (44 : Nat) "OneHandEachModel" "seenPart" "[I") ∈ m_ws := m_at 895 (by decide +kernel) rfl
theorem q_896 : (Jvm.Cond.fieldLink "OneHandEachModel" (47 : Nat) "OneHandEachModel" "seenFrom" "[I") ∈ m_ws := m_at 896 (by decide +kernel) rfl
theorem q_897 : (Jvm.Cond.fieldLink "OneHandEachModel" (50 : Nat) "OneHandEachModel" "seenTo" "[I") ∈ m_ws := m_at 897 (by decide +kernel) rfl
theorem q_898 : (Jvm.Cond.fieldLink "OneHandEachModel" (181 : Nat) "OneHandEachModel" "guns" "I") ∈ m_ws := m_at 898 (by decide +kernel) rfl
theorem q_899 : (Jvm.Cond.fieldLink "OneHandEachModel" (53 : Nat) "OneHandEachModel" "gunClock" "[I") ∈ m_ws := m_at 899 (by decide +kernel) rfl
theorem q_900 : (Jvm.Cond.fieldLink "OneHandEachModel" (56 : Nat) "OneHandEachModel" "gunDay" "[I") ∈ m_ws := m_at 900 (by decide +kernel) rfl
theorem q_901 : (Jvm.Cond.fieldLink "OneHandEachModel" (59 : Nat) "OneHandEachModel" "gunPart" "[I") ∈ m_ws := m_at 901 (by decide +kernel) rfl
theorem q_902 : (Jvm.Cond.fieldLink "OneHandEachModel" (62 : Nat) "OneHandEachModel" "tape" "[B") ∈ m_ws := m_at 902 (by decide +kernel) rfl
theorem q_903 : (Jvm.Cond.fieldLink "OneHandEachModel" (197 : Nat) "OneHandEachModel" "taped" "I") ∈ m_ws := m_at 903 (by decide +kernel) rfl
theorem q_904 : (Jvm.Cond.fieldLink "OneHandEachModel" (200 : Nat) "OneHandEachModel" "here" "I") ∈ m_ws := m_at 904 (by decide +kernel) rfl
theorem q_905 : (Jvm.Cond.fieldLink "OneHandEachModel" (203 : Nat) "OneHandEachModel" "fault" "I") ∈ m_ws := m_at 905 (by decide +kernel) rfl
theorem q_906 : (Jvm.Cond.fieldLink "OneHandEachModel" (209 : Nat) "OneHandEachModel" "open" "I") ∈ m_ws := m_at 906 (by decide +kernel) rfl
theorem q_907 : (Jvm.Cond.fieldLink "OneHandEachModel" (206 : Nat) "OneHandEachModel" "laid" "I") ∈ m_ws := m_at 907 (by decide +kernel) rfl
theorem q_908 : (Jvm.Cond.fieldLink "OneHandEachModel" (66 : Nat) "OneHandEachModel" "act" "[B") ∈ m_ws := m_at 908 (by decide +kernel) rfl
theorem q_909 : (Jvm.Cond.fieldLink "OneHandEachModel" (69 : Nat) "OneHandEachModel" "with" "[I") ∈ m_ws := m_at 909 (by decide +kernel) rfl
theorem q_910 : (Jvm.Cond.fieldLink "OneHandEachModel" (72 : Nat) "OneHandEachModel" "lineMany" "[I") ∈ m_ws := m_at 910 (by decide +kernel) rfl
theorem q_911 : (Jvm.Cond.fieldLink "OneHandEachModel" (75 : Nat) "OneHandEachModel" "testEnd" "[S") ∈ m_ws := m_at 911 (by decide +kernel) rfl
theorem q_912 : (Jvm.Cond.fieldLink "OneHandEachModel" (79 : Nat) "OneHandEachModel" "lineEnd" "[S") ∈ m_ws := m_at 912 (by decide +kernel) rfl
theorem q_913 : (Jvm.Cond.fieldLink "OneHandEachModel" (82 : Nat) "OneHandEachModel" "facts" "[I") ∈ m_ws := m_at 913 (by decide +kernel) rfl
theorem q_914 : (Jvm.Cond.fieldLink "OneHandEachModel" (85 : Nat) "OneHandEachModel" "pile" "[I") ∈ m_ws := m_at 914 (by decide +kernel) rfl
theorem q_915 : (Jvm.Cond.fieldLink "OneHandEachModel" (264 : Nat) "OneHandEachModel" "hasLaw" "Z") ∈ m_ws := m_at 915 (by decide +kernel) rfl
theorem q_916 : (Jvm.Cond.fieldLink "OneHandEachModel" (88 : Nat) "OneHandEachModel" "fit" "[Z") ∈ m_ws := m_at 916 (by decide +kernel) rfl
theorem q_917 : (Jvm.Cond.fieldLink "OneHandEachModel" (278 : Nat) "OneHandEachModel" "fitMany" "I") ∈ m_ws := m_at 917 (by decide +kernel) rfl
theorem q_918 : (Jvm.Cond.fieldLink "OneHandEachModel" (92 : Nat) "OneHandEachModel" "parts" "[I") ∈ m_ws := m_at 918 (by decide +kernel) rfl
theorem q_919 : (Jvm.Cond.fieldLink "OneHandEachModel" (294 : Nat) "OneHandEachModel" "drawn" "I") ∈ m_ws := m_at 919 (by decide +kernel) rfl
theorem q_920 : (Jvm.Cond.fieldLink "OneHandEachModel" (313 : Nat) "OneHandEachModel" "hasImage" "Z") ∈ m_ws := m_at 920 (by decide +kernel) rfl
theorem q_921 : (Jvm.Cond.fieldLink "OneHandEachModel" (316 : Nat) "OneHandEachModel" "keptSights" "I") ∈ m_ws := m_at 921 (by decide +kernel) rfl
theorem q_922 : (Jvm.Cond.fieldLink "OneHandEachModel" (319 : Nat) "OneHandEachModel" "keptGuns" "I") ∈ m_ws := m_at 922 (by decide +kernel) rfl
theorem q_923 : (Jvm.Cond.fieldLink "OneHandEachModel" (95 : Nat) "OneHandEachModel" "keptOff" "[I") ∈ m_ws := m_at 923 (by decide +kernel) rfl
theorem q_924 : (Jvm.Cond.fieldLink "OneHandEachModel" (98 : Nat) "OneHandEachModel" "keptOften" "[I") ∈ m_ws := m_at 924 (by decide +kernel) rfl
theorem q_925 : (Jvm.Cond.fieldLink "OneHandEachModel" (101 : Nat) "OneHandEachModel" "keptLatest" "[I") ∈ m_ws := m_at 925 (by decide +kernel) rfl
theorem q_926 : (Jvm.Cond.fieldLink "OneHandEachModel" (104 : Nat) "OneHandEachModel" "keptSeen" "[I") ∈ m_ws := m_at 926 (by decide +kernel) rfl
theorem q_927 : (Jvm.Cond.fieldLink "OneHandEachModel" (107 : Nat) "OneHandEachModel" "keptGun" "[I") ∈ m_ws := m_at 927 (by decide +kernel) rfl
theorem q_928 : (Jvm.Cond.fieldLink "OneHandEachModel" (322 : Nat) "OneHandEachModel" "bodies" "I") ∈ m_ws := m_at 928 (by decide +kernel) rfl
theorem q_929 : (Jvm.Cond.fieldLink "OneHandEachModel" (110 : Nat) "OneHandEachModel" "kind" "[I") ∈ m_ws := m_at 929 (by decide +kernel) rfl
theorem q_930 : (Jvm.Cond.fieldLink "OneHandEachModel" (325 : Nat) "OneHandEachModel" "traces" "I") ∈ m_ws := m_at 930 (by decide +kernel) rfl
theorem q_931 : (Jvm.Cond.fieldLink "OneHandEachModel" (113 : Nat) "OneHandEachModel" "traced" "[I") ∈ m_ws := m_at 931 (by decide +kernel) rfl
theorem q_932 : (Jvm.Cond.fieldLink "OneHandEachModel" (116 : Nat) "OneHandEachModel" "holds" "[I") ∈ m_ws := m_at 932 (by decide +kernel) rfl
theorem q_933 : (Jvm.Cond.fieldLink "OneHandEachModel" (119 : Nat) "OneHandEachModel" "size" "[I") ∈ m_ws := m_at 933 (by decide +kernel) rfl
theorem q_934 : (Jvm.Cond.fieldLink "OneHandEachModel" (122 : Nat) "OneHandEachModel" "elements" "[J") ∈ m_ws := m_at 934 (by decide +kernel) rfl
theorem q_935 : (Jvm.Cond.fieldLink "OneHandEachModel" (126 : Nat) "OneHandEachModel" "shifted" "[J") ∈ m_ws := m_at 935 (by decide +kernel) rfl
theorem q_1051 : (Jvm.Cond.arrayClass Jvm.ClassFile.FieldType.byte) ∈ m_ws := m_at 1051 (by decide +kernel) rfl
theorem q_1052 : (Jvm.Cond.arrayClass Jvm.ClassFile.FieldType.short) ∈ m_ws := m_at 1052 (by decide +kernel) rfl
theorem q_1053 : (Jvm.Cond.methodLink "OneHandEachLaw" (26 : Nat) ({ cls := "OneHandEachModel", name := "shown", desc := "(III)I" } : Jvm.MethodName)) ∈ m_ws := m_at 1053 (by decide +kernel) rfl
theorem q_1054 : (Jvm.Cond.instanceMethod ({ cls := "OneHandEachModel", name := "shown", desc := "(III)I" } : Jvm.MethodName)) ∈ m_ws := m_at 1054 (by decide +kernel) rfl
theorem q_1055 : (Jvm.Cond.selects "OneHandEachModel" ({ cls := "OneHandEachModel", name := "shown", desc := "(III)I" } : Jvm.MethodName) ({ cls := "OneHandEachModel", name := "shown", desc := "(III)I" } : Jvm.MethodName)) ∈ m_ws := m_at 1055 (by decide +kernel) rfl
theorem q_1056 : (Jvm.Cond.code ({ cls := "OneHandEachModel", name := "shown", desc := "(III)I" } : Jvm.MethodName) prog_14_method_12_code (4 : Nat) (Option.some Jvm.ClassFile.FieldType.int)) ∈ m_ws := m_at 1056 (by decide +kernel) rfl
theorem q_1057 : (Jvm.Cond.methodLink "OneHandEachModel" (151 : Nat) ({ cls := "OneHandEachModel", name := "isClock", desc := "(I)Z" } : Jvm.MethodName)) ∈ m_ws := m_at 1057 (by decide +kernel) rfl
theorem q_1058 : (Jvm.Cond.static ({ cls := "OneHandEachModel", name := "isClock", desc := "(I)Z" } : Jvm.MethodName)) ∈ m_ws := m_at 1058 (by decide +kernel) rfl
theorem q_1059 : (Jvm.Cond.code ({ cls := "OneHandEachModel", name := "isClock", desc := "(I)Z" } : Jvm.MethodName) prog_14_method_5_code (1 : Nat) (Option.some Jvm.ClassFile.FieldType.boolean)) ∈ m_ws := m_at 1059 (by decide +kernel) rfl
theorem q_1060 : (Jvm.Cond.methodLink "OneHandEachModel" (132 : Nat) ({ cls := "OneHandEachModel", name := "in", desc := "(III)Z" } : Jvm.MethodName)) ∈ m_ws := m_at 1060 (by decide +kernel) rfl
theorem q_1061 : (Jvm.Cond.static ({ cls := "OneHandEachModel", name := "in", desc := "(III)Z" } : Jvm.MethodName)) ∈ m_ws := m_at 1061 (by decide +kernel) rfl
theorem q_1062 : (Jvm.Cond.code ({ cls := "OneHandEachModel", name := "in", desc := "(III)Z" } : Jvm.MethodName) prog_14_method_3_code (3 : Nat) (Option.some Jvm.ClassFile.FieldType.boolean)) ∈ m_ws := m_at 1062 (by decide +kernel) rfl
theorem q_1063 : (Jvm.Cond.methodLink "OneHandEachModel" (155 : Nat) ({ cls := "OneHandEachModel", name := "isMinute", desc := "(I)Z" } : Jvm.MethodName)) ∈ m_ws := m_at 1063 (by decide +kernel) rfl
theorem q_1064 : (Jvm.Cond.static ({ cls := "OneHandEachModel", name := "isMinute", desc := "(I)Z" } : Jvm.MethodName)) ∈ m_ws := m_at 1064 (by decide +kernel) rfl
theorem q_1065 : (Jvm.Cond.code ({ cls := "OneHandEachModel", name := "isMinute", desc := "(I)Z" } : Jvm.MethodName) prog_14_method_6_code (1 : Nat) (Option.some Jvm.ClassFile.FieldType.boolean)) ∈ m_ws := m_at 1065 (by decide +kernel) rfl
theorem q_1066 : (Jvm.Cond.constant "OneHandEachModel" (136 : Nat) (99999 : Int32)) ∈ m_ws := m_at 1066 (by decide +kernel) rfl
theorem q_1067 : (Jvm.Cond.methodLink "OneHandEachModel" (141 : Nat) ({ cls := "OneHandEachModel", name := "show", desc := "(II)I" } : Jvm.MethodName)) ∈ m_ws := m_at 1067 (by decide +kernel) rfl
theorem q_1069 : (Jvm.Cond.instanceMethod ({ cls := "OneHandEachModel", name := "show", desc := "(II)I" } : Jvm.MethodName)) ∈ m_ws := m_at 1069 (by decide +kernel) rfl
theorem q_1070 : (Jvm.Cond.code ({ cls := "OneHandEachModel", name := "show", desc := "(II)I" } : Jvm.MethodName) prog_14_method_8_code (3 : Nat) (Option.some Jvm.ClassFile.FieldType.int)) ∈ m_ws := m_at 1070 (by decide +kernel) rfl
theorem q_1071 : (Jvm.Cond.methodLink "OneHandEachModel" (137 : Nat) ({ cls := "OneHandEachModel", name := "showBy", desc := "(III)I" } : Jvm.MethodName)) ∈ m_ws := m_at 1071 (by decide +kernel) rfl
theorem q_1072 : (Jvm.Cond.static ({ cls := "OneHandEachModel", name := "showBy", desc := "(III)I" } : Jvm.MethodName)) ∈ m_ws := m_at 1072 (by decide +kernel) rfl
theorem q_1073 : (Jvm.Cond.code ({ cls := "OneHandEachModel", name := "showBy", desc := "(III)I" } : Jvm.MethodName) prog_14_method_7_code (4 : Nat) (Option.some Jvm.ClassFile.FieldType.int)) ∈ m_ws := m_at 1073 (by decide +kernel) rfl
theorem q_1074 : (Jvm.Cond.methodLink "OneHandEachModel" (158 : Nat) ({ cls := "OneHandEachModel", name := "partAt", desc := "(II)I" } : Jvm.MethodName)) ∈ m_ws := m_at 1074 (by decide +kernel) rfl
theorem q_1076 : (Jvm.Cond.instanceMethod ({ cls := "OneHandEachModel", name := "partAt", desc := "(II)I" } : Jvm.MethodName)) ∈ m_ws := m_at 1076 (by decide +kernel) rfl
theorem q_1077 : (Jvm.Cond.code ({ cls := "OneHandEachModel", name := "partAt", desc := "(II)I" } : Jvm.MethodName) prog_14_method_10_code (3 : Nat) (Option.some Jvm.ClassFile.FieldType.int)) ∈ m_ws := m_at 1077 (by decide +kernel) rfl
theorem q_1078 : (Jvm.Cond.methodLink "OneHandEachModel" (145 : Nat) ({ cls := "OneHandEachModel", name := "partOf", desc := "(II)I" } : Jvm.MethodName)) ∈ m_ws := m_at 1078 (by decide +kernel) rfl
theorem q_1079 : (Jvm.Cond.static ({ cls := "OneHandEachModel", name := "partOf", desc := "(II)I" } : Jvm.MethodName)) ∈ m_ws := m_at 1079 (by decide +kernel) rfl
theorem q_1080 : (Jvm.Cond.code ({ cls := "OneHandEachModel", name := "partOf", desc := "(II)I" } : Jvm.MethodName) prog_14_method_9_code (2 : Nat) (Option.some Jvm.ClassFile.FieldType.int)) ∈ m_ws := m_at 1080 (by decide +kernel) rfl
theorem q_1081 : (Jvm.Cond.methodLink "OneHandEachLaw" (124 : Nat) ({ cls := "OneHandEachModel", name := "undo", desc := "()I" } : Jvm.MethodName)) ∈ m_ws := m_at 1081 (by decide +kernel) rfl
theorem q_1082 : (Jvm.Cond.instanceMethod ({ cls := "OneHandEachModel", name := "undo", desc := "()I" } : Jvm.MethodName)) ∈ m_ws := m_at 1082 (by decide +kernel) rfl
theorem q_1083 : (Jvm.Cond.selects "OneHandEachModel" ({ cls := "OneHandEachModel", name := "undo", desc := "()I" } : Jvm.MethodName) ({ cls := "OneHandEachModel", name := "undo", desc := "()I" } : Jvm.MethodName)) ∈ m_ws := m_at 1083 (by decide +kernel) rfl
theorem q_1084 : (Jvm.Cond.code ({ cls := "OneHandEachModel", name := "undo", desc := "()I" } : Jvm.MethodName) prog_14_method_16_code (1 : Nat) (Option.some Jvm.ClassFile.FieldType.int)) ∈ m_ws := m_at 1084 (by decide +kernel) rfl
theorem q_1085 : (Jvm.Cond.methodLink "OneHandEachModel" (170 : Nat) ({ cls := "OneHandEachModel", name := "lays", desc := "(III)V" } : Jvm.MethodName)) ∈ m_ws := m_at 1085 (by decide +kernel) rfl
theorem q_1087 : (Jvm.Cond.instanceMethod ({ cls := "OneHandEachModel", name := "lays", desc := "(III)V" } : Jvm.MethodName)) ∈ m_ws := m_at 1087 (by decide +kernel) rfl
theorem q_1088 : (Jvm.Cond.code ({ cls := "OneHandEachModel", name := "lays", desc := "(III)V" } : Jvm.MethodName) prog_14_method_14_code (4 : Nat) (Option.none : Option Jvm.ClassFile.FieldType)) ∈ m_ws := m_at 1088 (by decide +kernel) rfl
theorem q_1089 : (Jvm.Cond.methodLink "OneHandEachLaw" (128 : Nat) ({ cls := "OneHandEachModel", name := "redo", desc := "()I" } : Jvm.MethodName)) ∈ m_ws := m_at 1089 (by decide +kernel) rfl
theorem q_1090 : (Jvm.Cond.instanceMethod ({ cls := "OneHandEachModel", name := "redo", desc := "()I" } : Jvm.MethodName)) ∈ m_ws := m_at 1090 (by decide +kernel) rfl
theorem q_1091 : (Jvm.Cond.selects "OneHandEachModel" ({ cls := "OneHandEachModel", name := "redo", desc := "()I" } : Jvm.MethodName) ({ cls := "OneHandEachModel", name := "redo", desc := "()I" } : Jvm.MethodName)) ∈ m_ws := m_at 1091 (by decide +kernel) rfl
theorem q_1092 : (Jvm.Cond.code ({ cls := "OneHandEachModel", name := "redo", desc := "()I" } : Jvm.MethodName) prog_14_method_17_code (1 : Nat) (Option.some Jvm.ClassFile.FieldType.int)) ∈ m_ws := m_at 1092 (by decide +kernel) rfl
theorem q_1093 : (Jvm.Cond.methodLink "OneHandEachLaw" (17 : Nat) ({ cls := "OneHandEachModel", name := "mend", desc := "(III)I" } : Jvm.MethodName)) ∈ m_ws := m_at 1093 (by decide +kernel) rfl
theorem q_1094 : (Jvm.Cond.instanceMethod ({ cls := "OneHandEachModel", name := "mend", desc := "(III)I" } : Jvm.MethodName)) ∈ m_ws := m_at 1094 (by decide +kernel) rfl
theorem q_1095 : (Jvm.Cond.selects "OneHandEachModel" ({ cls := "OneHandEachModel", name := "mend", desc := "(III)I" } : Jvm.MethodName) ({ cls := "OneHandEachModel", name := "mend", desc := "(III)I" } : Jvm.MethodName)) ∈ m_ws := m_at 1095 (by decide +kernel) rfl
theorem q_1096 : (Jvm.Cond.code ({ cls := "OneHandEachModel", name := "mend", desc := "(III)I" } : Jvm.MethodName) prog_14_method_18_code (4 : Nat) (Option.some Jvm.ClassFile.FieldType.int)) ∈ m_ws := m_at 1096 (by decide +kernel) rfl
theorem q_1097 : (Jvm.Cond.methodLink "OneHandEachModel" (174 : Nat) ({ cls := "OneHandEachModel", name := "changes", desc := "(III)I" } : Jvm.MethodName)) ∈ m_ws := m_at 1097 (by decide +kernel) rfl
theorem q_1099 : (Jvm.Cond.instanceMethod ({ cls := "OneHandEachModel", name := "changes", desc := "(III)I" } : Jvm.MethodName)) ∈ m_ws := m_at 1099 (by decide +kernel) rfl
theorem q_1100 : (Jvm.Cond.code ({ cls := "OneHandEachModel", name := "changes", desc := "(III)I" } : Jvm.MethodName) prog_14_method_15_code (6 : Nat) (Option.some Jvm.ClassFile.FieldType.int)) ∈ m_ws := m_at 1100 (by decide +kernel) rfl
theorem q_1101 : (Jvm.Cond.methodLink "OneHandEachModel" (161 : Nat) ({ cls := "OneHandEachModel", name := "valueAt", desc := "(II)I" } : Jvm.MethodName)) ∈ m_ws := m_at 1101 (by decide +kernel) rfl
theorem q_1103 : (Jvm.Cond.instanceMethod ({ cls := "OneHandEachModel", name := "valueAt", desc := "(II)I" } : Jvm.MethodName)) ∈ m_ws := m_at 1103 (by decide +kernel) rfl
theorem q_1104 : (Jvm.Cond.code ({ cls := "OneHandEachModel", name := "valueAt", desc := "(II)I" } : Jvm.MethodName) prog_14_method_13_code (3 : Nat) (Option.some Jvm.ClassFile.FieldType.int)) ∈ m_ws := m_at 1104 (by decide +kernel) rfl
theorem q_1105 : (Jvm.Cond.constant "OneHandEachModel" (177 : Nat) (-2000000000 : Int32)) ∈ m_ws := m_at 1105 (by decide +kernel) rfl
theorem q_1106 : (Jvm.Cond.methodLink "OneHandEachLaw" (22 : Nat) ({ cls := "OneHandEachModel", name := "of", desc := "(II)I" } : Jvm.MethodName)) ∈ m_ws := m_at 1106 (by decide +kernel) rfl
theorem q_1107 : (Jvm.Cond.instanceMethod ({ cls := "OneHandEachModel", name := "of", desc := "(II)I" } : Jvm.MethodName)) ∈ m_ws := m_at 1107 (by decide +kernel) rfl
theorem q_1108 : (Jvm.Cond.selects "OneHandEachModel" ({ cls := "OneHandEachModel", name := "of", desc := "(II)I" } : Jvm.MethodName) ({ cls := "OneHandEachModel", name := "of", desc := "(II)I" } : Jvm.MethodName)) ∈ m_ws := m_at 1108 (by decide +kernel) rfl
theorem q_1109 : (Jvm.Cond.code ({ cls := "OneHandEachModel", name := "of", desc := "(II)I" } : Jvm.MethodName) prog_14_method_19_code (3 : Nat) (Option.some Jvm.ClassFile.FieldType.int)) ∈ m_ws := m_at 1109 (by decide +kernel) rfl
theorem q_1110 : (Jvm.Cond.methodLink "OneHandEachLaw" (44 : Nat) ({ cls := "OneHandEachModel", name := "sight", desc := "(II)I" } : Jvm.MethodName)) ∈ m_ws := m_at 1110 (by decide +kernel) rfl
theorem q_1111 : (Jvm.Cond.instanceMethod ({ cls := "OneHandEachModel", name := "sight", desc := "(II)I" } : Jvm.MethodName)) ∈ m_ws := m_at 1111 (by decide +kernel) rfl
theorem q_1112 : (Jvm.Cond.selects "OneHandEachModel" ({ cls := "OneHandEachModel", name := "sight", desc := "(II)I" } : Jvm.MethodName) ({ cls := "OneHandEachModel", name := "sight", desc := "(II)I" } : Jvm.MethodName)) ∈ m_ws := m_at 1112 (by decide +kernel) rfl
theorem q_1113 : (Jvm.Cond.code ({ cls := "OneHandEachModel", name := "sight", desc := "(II)I" } : Jvm.MethodName) prog_14_method_22_code (3 : Nat) (Option.some Jvm.ClassFile.FieldType.int)) ∈ m_ws := m_at 1113 (by decide +kernel) rfl
theorem q_1114 : (Jvm.Cond.methodLink "OneHandEachModel" (184 : Nat) ({ cls := "OneHandEachModel", name := "isSight", desc := "(IIII)Z" } : Jvm.MethodName)) ∈ m_ws := m_at 1114 (by decide +kernel) rfl
theorem q_1115 : (Jvm.Cond.static ({ cls := "OneHandEachModel", name := "isSight", desc := "(IIII)Z" } : Jvm.MethodName)) ∈ m_ws := m_at 1115 (by decide +kernel) rfl
theorem q_1116 : (Jvm.Cond.code ({ cls := "OneHandEachModel", name := "isSight", desc := "(IIII)Z" } : Jvm.MethodName) prog_14_method_20_code (4 : Nat) (Option.some Jvm.ClassFile.FieldType.boolean)) ∈ m_ws := m_at 1116 (by decide +kernel) rfl
theorem q_1117 : (Jvm.Cond.methodLink "OneHandEachModel" (188 : Nat) ({ cls := "OneHandEachModel", name := "addSight", desc := "(IIII)I" } : Jvm.MethodName)) ∈ m_ws := m_at 1117 (by decide +kernel) rfl
theorem q_1119 : (Jvm.Cond.instanceMethod ({ cls := "OneHandEachModel", name := "addSight", desc := "(IIII)I" } : Jvm.MethodName)) ∈ m_ws := m_at 1119 (by decide +kernel) rfl
theorem q_1120 : (Jvm.Cond.code ({ cls := "OneHandEachModel", name := "addSight", desc := "(IIII)I" } : Jvm.MethodName) prog_14_method_21_code (5 : Nat) (Option.some Jvm.ClassFile.FieldType.int)) ∈ m_ws := m_at 1120 (by decide +kernel) rfl
theorem q_1121 : (Jvm.Cond.methodLink "OneHandEachLaw" (48 : Nat) ({ cls := "OneHandEachModel", name := "sights", desc := "(III)I" } : Jvm.MethodName)) ∈ m_ws := m_at 1121 (by decide +kernel) rfl
theorem q_1122 : (Jvm.Cond.instanceMethod ({ cls := "OneHandEachModel", name := "sights", desc := "(III)I" } : Jvm.MethodName)) ∈ m_ws := m_at 1122 (by decide +kernel) rfl
theorem q_1123 : (Jvm.Cond.selects "OneHandEachModel" ({ cls := "OneHandEachModel", name := "sights", desc := "(III)I" } : Jvm.MethodName) ({ cls := "OneHandEachModel", name := "sights", desc := "(III)I" } : Jvm.MethodName)) ∈ m_ws := m_at 1123 (by decide +kernel) rfl
theorem q_1124 : (Jvm.Cond.code ({ cls := "OneHandEachModel", name := "sights", desc := "(III)I" } : Jvm.MethodName) prog_14_method_23_code (8 : Nat) (Option.some Jvm.ClassFile.FieldType.int)) ∈ m_ws := m_at 1124 (by decide +kernel) rfl
theorem q_1125 : (Jvm.Cond.methodLink "OneHandEachModel" (192 : Nat) ({ cls := "OneHandEachModel", name := "isShelf", desc := "(I)Z" } : Jvm.MethodName)) ∈ m_ws := m_at 1125 (by decide +kernel) rfl
theorem q_1126 : (Jvm.Cond.static ({ cls := "OneHandEachModel", name := "isShelf", desc := "(I)Z" } : Jvm.MethodName)) ∈ m_ws := m_at 1126 (by decide +kernel) rfl
theorem q_1127 : (Jvm.Cond.code ({ cls := "OneHandEachModel", name := "isShelf", desc := "(I)Z" } : Jvm.MethodName) prog_14_method_89_code (1 : Nat) (Option.some Jvm.ClassFile.FieldType.boolean)) ∈ m_ws := m_at 1127 (by decide +kernel) rfl
theorem q_1128 : (Jvm.Cond.constantLong "OneHandEachModel" (195 : Nat) (3 : Int64)) ∈ m_ws := m_at 1128 (by decide +kernel) rfl
theorem q_1129 : (Jvm.Cond.methodLink "OneHandEachLaw" (52 : Nat) ({ cls := "OneHandEachModel", name := "forget", desc := "()I" } : Jvm.MethodName)) ∈ m_ws := m_at 1129 (by decide +kernel) rfl
theorem q_1130 : (Jvm.Cond.instanceMethod ({ cls := "OneHandEachModel", name := "forget", desc := "()I" } : Jvm.MethodName)) ∈ m_ws := m_at 1130 (by decide +kernel) rfl
theorem q_1131 : (Jvm.Cond.selects "OneHandEachModel" ({ cls := "OneHandEachModel", name := "forget", desc := "()I" } : Jvm.MethodName) ({ cls := "OneHandEachModel", name := "forget", desc := "()I" } : Jvm.MethodName)) ∈ m_ws := m_at 1131 (by decide +kernel) rfl
theorem q_1132 : (Jvm.Cond.code ({ cls := "OneHandEachModel", name := "forget", desc := "()I" } : Jvm.MethodName) prog_14_method_24_code (1 : Nat) (Option.some Jvm.ClassFile.FieldType.int)) ∈ m_ws := m_at 1132 (by decide +kernel) rfl
theorem q_1133 : (Jvm.Cond.methodLink "OneHandEachLaw" (80 : Nat) ({ cls := "OneHandEachModel", name := "gun", desc := "(II)I" } : Jvm.MethodName)) ∈ m_ws := m_at 1133 (by decide +kernel) rfl
theorem q_1134 : (Jvm.Cond.instanceMethod ({ cls := "OneHandEachModel", name := "gun", desc := "(II)I" } : Jvm.MethodName)) ∈ m_ws := m_at 1134 (by decide +kernel) rfl
theorem q_1135 : (Jvm.Cond.selects "OneHandEachModel" ({ cls := "OneHandEachModel", name := "gun", desc := "(II)I" } : Jvm.MethodName) ({ cls := "OneHandEachModel", name := "gun", desc := "(II)I" } : Jvm.MethodName)) ∈ m_ws := m_at 1135 (by decide +kernel) rfl
theorem q_1136 : (Jvm.Cond.code ({ cls := "OneHandEachModel", name := "gun", desc := "(II)I" } : Jvm.MethodName) prog_14_method_25_code (3 : Nat) (Option.some Jvm.ClassFile.FieldType.int)) ∈ m_ws := m_at 1136 (by decide +kernel) rfl
theorem q_1137 : (Jvm.Cond.methodLink "OneHandEachLaw" (31 : Nat) ({ cls := "OneHandEachModel", name := "feed", desc := "(I)I" } : Jvm.MethodName)) ∈ m_ws := m_at 1137 (by decide +kernel) rfl
theorem q_1138 : (Jvm.Cond.instanceMethod ({ cls := "OneHandEachModel", name := "feed", desc := "(I)I" } : Jvm.MethodName)) ∈ m_ws := m_at 1138 (by decide +kernel) rfl
theorem q_1139 : (Jvm.Cond.selects "OneHandEachModel" ({ cls := "OneHandEachModel", name := "feed", desc := "(I)I" } : Jvm.MethodName) ({ cls := "OneHandEachModel", name := "feed", desc := "(I)I" } : Jvm.MethodName)) ∈ m_ws := m_at 1139 (by decide +kernel) rfl
theorem q_1140 : (Jvm.Cond.code ({ cls := "OneHandEachModel", name := "feed", desc := "(I)I" } : Jvm.MethodName) prog_14_method_26_code (2 : Nat) (Option.some Jvm.ClassFile.FieldType.int)) ∈ m_ws := m_at 1140 (by decide +kernel) rfl
theorem q_1141 : (Jvm.Cond.methodLink "OneHandEachLaw" (36 : Nat) ({ cls := "OneHandEachModel", name := "law", desc := "()I" } : Jvm.MethodName)) ∈ m_ws := m_at 1141 (by decide +kernel) rfl
theorem q_1142 : (Jvm.Cond.instanceMethod ({ cls := "OneHandEachModel", name := "law", desc := "()I" } : Jvm.MethodName)) ∈ m_ws := m_at 1142 (by decide +kernel) rfl
theorem q_1143 : (Jvm.Cond.selects "OneHandEachModel" ({ cls := "OneHandEachModel", name := "law", desc := "()I" } : Jvm.MethodName) ({ cls := "OneHandEachModel", name := "law", desc := "()I" } : Jvm.MethodName)) ∈ m_ws := m_at 1143 (by decide +kernel) rfl
theorem q_1144 : (Jvm.Cond.code ({ cls := "OneHandEachModel", name := "law", desc := "()I" } : Jvm.MethodName) prog_14_method_44_code (2 : Nat) (Option.some Jvm.ClassFile.FieldType.int)) ∈ m_ws := m_at 1144 (by decide +kernel) rfl
theorem q_1145 : (Jvm.Cond.methodLink "OneHandEachModel" (261 : Nat) ({ cls := "OneHandEachModel", name := "readText", desc := "(I)I" } : Jvm.MethodName)) ∈ m_ws := m_at 1145 (by decide +kernel) rfl
theorem q_1147 : (Jvm.Cond.instanceMethod ({ cls := "OneHandEachModel", name := "readText", desc := "(I)I" } : Jvm.MethodName)) ∈ m_ws := m_at 1147 (by decide +kernel) rfl
theorem q_1148 : (Jvm.Cond.code ({ cls := "OneHandEachModel", name := "readText", desc := "(I)I" } : Jvm.MethodName) prog_14_method_40_code (3 : Nat) (Option.some Jvm.ClassFile.FieldType.int)) ∈ m_ws := m_at 1148 (by decide +kernel) rfl
theorem q_1149 : (Jvm.Cond.methodLink "OneHandEachModel" (252 : Nat) ({ cls := "OneHandEachModel", name := "line", desc := "()V" } : Jvm.MethodName)) ∈ m_ws := m_at 1149 (by decide +kernel) rfl
theorem q_1151 : (Jvm.Cond.instanceMethod ({ cls := "OneHandEachModel", name := "line", desc := "()V" } : Jvm.MethodName)) ∈ m_ws := m_at 1151 (by decide +kernel) rfl
theorem q_1152 : (Jvm.Cond.code ({ cls := "OneHandEachModel", name := "line", desc := "()V" } : Jvm.MethodName) prog_14_method_39_code (2 : Nat) (Option.none : Option Jvm.ClassFile.FieldType)) ∈ m_ws := m_at 1152 (by decide +kernel) rfl
theorem q_1153 : (Jvm.Cond.methodLink "OneHandEachModel" (234 : Nat) ({ cls := "OneHandEachModel", name := "either", desc := "()V" } : Jvm.MethodName)) ∈ m_ws := m_at 1153 (by decide +kernel) rfl
theorem q_1155 : (Jvm.Cond.instanceMethod ({ cls := "OneHandEachModel", name := "either", desc := "()V" } : Jvm.MethodName)) ∈ m_ws := m_at 1155 (by decide +kernel) rfl
theorem q_1156 : (Jvm.Cond.code ({ cls := "OneHandEachModel", name := "either", desc := "()V" } : Jvm.MethodName) prog_14_method_38_code (1 : Nat) (Option.none : Option Jvm.ClassFile.FieldType)) ∈ m_ws := m_at 1156 (by decide +kernel) rfl
theorem q_1157 : (Jvm.Cond.methodLink "OneHandEachModel" (249 : Nat) ({ cls := "OneHandEachModel", name := "both", desc := "()V" } : Jvm.MethodName)) ∈ m_ws := m_at 1157 (by decide +kernel) rfl
theorem q_1159 : (Jvm.Cond.instanceMethod ({ cls := "OneHandEachModel", name := "both", desc := "()V" } : Jvm.MethodName)) ∈ m_ws := m_at 1159 (by decide +kernel) rfl
theorem q_1160 : (Jvm.Cond.code ({ cls := "OneHandEachModel", name := "both", desc := "()V" } : Jvm.MethodName) prog_14_method_37_code (1 : Nat) (Option.none : Option Jvm.ClassFile.FieldType)) ∈ m_ws := m_at 1160 (by decide +kernel) rfl
theorem q_1161 : (Jvm.Cond.methodLink "OneHandEachModel" (246 : Nat) ({ cls := "OneHandEachModel", name := "compared", desc := "()V" } : Jvm.MethodName)) ∈ m_ws := m_at 1161 (by decide +kernel) rfl
theorem q_1163 : (Jvm.Cond.instanceMethod ({ cls := "OneHandEachModel", name := "compared", desc := "()V" } : Jvm.MethodName)) ∈ m_ws := m_at 1163 (by decide +kernel) rfl
theorem q_1164 : (Jvm.Cond.code ({ cls := "OneHandEachModel", name := "compared", desc := "()V" } : Jvm.MethodName) prog_14_method_36_code (2 : Nat) (Option.none : Option Jvm.ClassFile.FieldType)) ∈ m_ws := m_at 1164 (by decide +kernel) rfl
theorem q_1165 : (Jvm.Cond.methodLink "OneHandEachModel" (243 : Nat) ({ cls := "OneHandEachModel", name := "sum", desc := "()V" } : Jvm.MethodName)) ∈ m_ws := m_at 1165 (by decide +kernel) rfl
theorem q_1167 : (Jvm.Cond.instanceMethod ({ cls := "OneHandEachModel", name := "sum", desc := "()V" } : Jvm.MethodName)) ∈ m_ws := m_at 1167 (by decide +kernel) rfl
theorem q_1168 : (Jvm.Cond.code ({ cls := "OneHandEachModel", name := "sum", desc := "()V" } : Jvm.MethodName) prog_14_method_35_code (2 : Nat) (Option.none : Option Jvm.ClassFile.FieldType)) ∈ m_ws := m_at 1168 (by decide +kernel) rfl
theorem q_1169 : (Jvm.Cond.methodLink "OneHandEachModel" (240 : Nat) ({ cls := "OneHandEachModel", name := "product", desc := "()V" } : Jvm.MethodName)) ∈ m_ws := m_at 1169 (by decide +kernel) rfl
theorem q_1171 : (Jvm.Cond.instanceMethod ({ cls := "OneHandEachModel", name := "product", desc := "()V" } : Jvm.MethodName)) ∈ m_ws := m_at 1171 (by decide +kernel) rfl
theorem q_1172 : (Jvm.Cond.code ({ cls := "OneHandEachModel", name := "product", desc := "()V" } : Jvm.MethodName) prog_14_method_34_code (2 : Nat) (Option.none : Option Jvm.ClassFile.FieldType)) ∈ m_ws := m_at 1172 (by decide +kernel) rfl
theorem q_1173 : (Jvm.Cond.methodLink "OneHandEachModel" (231 : Nat) ({ cls := "OneHandEachModel", name := "operand", desc := "()V" } : Jvm.MethodName)) ∈ m_ws := m_at 1173 (by decide +kernel) rfl
theorem q_1175 : (Jvm.Cond.instanceMethod ({ cls := "OneHandEachModel", name := "operand", desc := "()V" } : Jvm.MethodName)) ∈ m_ws := m_at 1175 (by decide +kernel) rfl
theorem q_1176 : (Jvm.Cond.code ({ cls := "OneHandEachModel", name := "operand", desc := "()V" } : Jvm.MethodName) prog_14_method_33_code (2 : Nat) (Option.none : Option Jvm.ClassFile.FieldType)) ∈ m_ws := m_at 1176 (by decide +kernel) rfl
theorem q_1177 : (Jvm.Cond.methodLink "OneHandEachModel" (215 : Nat) ({ cls := "OneHandEachModel", name := "look", desc := "()I" } : Jvm.MethodName)) ∈ m_ws := m_at 1177 (by decide +kernel) rfl
theorem q_1179 : (Jvm.Cond.instanceMethod ({ cls := "OneHandEachModel", name := "look", desc := "()I" } : Jvm.MethodName)) ∈ m_ws := m_at 1179 (by decide +kernel) rfl
theorem q_1180 : (Jvm.Cond.code ({ cls := "OneHandEachModel", name := "look", desc := "()I" } : Jvm.MethodName) prog_14_method_27_code (1 : Nat) (Option.some Jvm.ClassFile.FieldType.int)) ∈ m_ws := m_at 1180 (by decide +kernel) rfl
theorem q_1181 : (Jvm.Cond.methodLink "OneHandEachModel" (223 : Nat) ({ cls := "OneHandEachModel", name := "nameOf", desc := "(I)I" } : Jvm.MethodName)) ∈ m_ws := m_at 1181 (by decide +kernel) rfl
theorem q_1182 : (Jvm.Cond.static ({ cls := "OneHandEachModel", name := "nameOf", desc := "(I)I" } : Jvm.MethodName)) ∈ m_ws := m_at 1182 (by decide +kernel) rfl
theorem q_1183 : (Jvm.Cond.code ({ cls := "OneHandEachModel", name := "nameOf", desc := "(I)I" } : Jvm.MethodName) prog_14_method_30_code (1 : Nat) (Option.some Jvm.ClassFile.FieldType.int)) ∈ m_ws := m_at 1183 (by decide +kernel) rfl
theorem q_1184 : (Jvm.Cond.methodLink "OneHandEachModel" (219 : Nat) ({ cls := "OneHandEachModel", name := "addStep", desc := "(II)V" } : Jvm.MethodName)) ∈ m_ws := m_at 1184 (by decide +kernel) rfl
theorem q_1186 : (Jvm.Cond.instanceMethod ({ cls := "OneHandEachModel", name := "addStep", desc := "(II)V" } : Jvm.MethodName)) ∈ m_ws := m_at 1186 (by decide +kernel) rfl
theorem q_1187 : (Jvm.Cond.code ({ cls := "OneHandEachModel", name := "addStep", desc := "(II)V" } : Jvm.MethodName) prog_14_method_29_code (3 : Nat) (Option.none : Option Jvm.ClassFile.FieldType)) ∈ m_ws := m_at 1187 (by decide +kernel) rfl
theorem q_1188 : (Jvm.Cond.methodLink "OneHandEachModel" (227 : Nat) ({ cls := "OneHandEachModel", name := "opens", desc := "()Z" } : Jvm.MethodName)) ∈ m_ws := m_at 1188 (by decide +kernel) rfl
theorem q_1190 : (Jvm.Cond.instanceMethod ({ cls := "OneHandEachModel", name := "opens", desc := "()Z" } : Jvm.MethodName)) ∈ m_ws := m_at 1190 (by decide +kernel) rfl
theorem q_1191 : (Jvm.Cond.code ({ cls := "OneHandEachModel", name := "opens", desc := "()Z" } : Jvm.MethodName) prog_14_method_31_code (1 : Nat) (Option.some Jvm.ClassFile.FieldType.boolean)) ∈ m_ws := m_at 1191 (by decide +kernel) rfl
theorem q_1192 : (Jvm.Cond.methodLink "OneHandEachModel" (212 : Nat) ({ cls := "OneHandEachModel", name := "faulty", desc := "()V" } : Jvm.MethodName)) ∈ m_ws := m_at 1192 (by decide +kernel) rfl
theorem q_1194 : (Jvm.Cond.instanceMethod ({ cls := "OneHandEachModel", name := "faulty", desc := "()V" } : Jvm.MethodName)) ∈ m_ws := m_at 1194 (by decide +kernel) rfl
theorem q_1195 : (Jvm.Cond.code ({ cls := "OneHandEachModel", name := "faulty", desc := "()V" } : Jvm.MethodName) prog_14_method_28_code (1 : Nat) (Option.none : Option Jvm.ClassFile.FieldType)) ∈ m_ws := m_at 1195 (by decide +kernel) rfl
theorem q_1196 : (Jvm.Cond.methodLink "OneHandEachModel" (237 : Nat) ({ cls := "OneHandEachModel", name := "figure", desc := "()V" } : Jvm.MethodName)) ∈ m_ws := m_at 1196 (by decide +kernel) rfl
theorem q_1198 : (Jvm.Cond.instanceMethod ({ cls := "OneHandEachModel", name := "figure", desc := "()V" } : Jvm.MethodName)) ∈ m_ws := m_at 1198 (by decide +kernel) rfl
theorem q_1199 : (Jvm.Cond.code ({ cls := "OneHandEachModel", name := "figure", desc := "()V" } : Jvm.MethodName) prog_14_method_32_code (3 : Nat) (Option.none : Option Jvm.ClassFile.FieldType)) ∈ m_ws := m_at 1199 (by decide +kernel) rfl
theorem q_1200 : (Jvm.Cond.methodLink "OneHandEachLaw" (40 : Nat) ({ cls := "OneHandEachModel", name := "weight", desc := "(I)I" } : Jvm.MethodName)) ∈ m_ws := m_at 1200 (by decide +kernel) rfl
theorem q_1201 : (Jvm.Cond.instanceMethod ({ cls := "OneHandEachModel", name := "weight", desc := "(I)I" } : Jvm.MethodName)) ∈ m_ws := m_at 1201 (by decide +kernel) rfl
theorem q_1202 : (Jvm.Cond.selects "OneHandEachModel" ({ cls := "OneHandEachModel", name := "weight", desc := "(I)I" } : Jvm.MethodName) ({ cls := "OneHandEachModel", name := "weight", desc := "(I)I" } : Jvm.MethodName)) ∈ m_ws := m_at 1202 (by decide +kernel) rfl
theorem q_1203 : (Jvm.Cond.code ({ cls := "OneHandEachModel", name := "weight", desc := "(I)I" } : Jvm.MethodName) prog_14_method_46_code (2 : Nat) (Option.some Jvm.ClassFile.FieldType.int)) ∈ m_ws := m_at 1203 (by decide +kernel) rfl
theorem q_1204 : (Jvm.Cond.methodLink "OneHandEachModel" (271 : Nat) ({ cls := "OneHandEachModel", name := "weightOf", desc := "(I)I" } : Jvm.MethodName)) ∈ m_ws := m_at 1204 (by decide +kernel) rfl
theorem q_1206 : (Jvm.Cond.instanceMethod ({ cls := "OneHandEachModel", name := "weightOf", desc := "(I)I" } : Jvm.MethodName)) ∈ m_ws := m_at 1206 (by decide +kernel) rfl
theorem q_1207 : (Jvm.Cond.code ({ cls := "OneHandEachModel", name := "weightOf", desc := "(I)I" } : Jvm.MethodName) prog_14_method_45_code (3 : Nat) (Option.some Jvm.ClassFile.FieldType.int)) ∈ m_ws := m_at 1207 (by decide +kernel) rfl
theorem q_1208 : (Jvm.Cond.methodLink "OneHandEachModel" (268 : Nat) ({ cls := "OneHandEachModel", name := "gives", desc := "(I)I" } : Jvm.MethodName)) ∈ m_ws := m_at 1208 (by decide +kernel) rfl
theorem q_1210 : (Jvm.Cond.instanceMethod ({ cls := "OneHandEachModel", name := "gives", desc := "(I)I" } : Jvm.MethodName)) ∈ m_ws := m_at 1210 (by decide +kernel) rfl
theorem q_1211 : (Jvm.Cond.code ({ cls := "OneHandEachModel", name := "gives", desc := "(I)I" } : Jvm.MethodName) prog_14_method_43_code (4 : Nat) (Option.some Jvm.ClassFile.FieldType.int)) ∈ m_ws := m_at 1211 (by decide +kernel) rfl
theorem q_1212 : (Jvm.Cond.methodLink "OneHandEachModel" (258 : Nat) ({ cls := "OneHandEachModel", name := "worked", desc := "(III)I" } : Jvm.MethodName)) ∈ m_ws := m_at 1212 (by decide +kernel) rfl
theorem q_1214 : (Jvm.Cond.instanceMethod ({ cls := "OneHandEachModel", name := "worked", desc := "(III)I" } : Jvm.MethodName)) ∈ m_ws := m_at 1214 (by decide +kernel) rfl
theorem q_1215 : (Jvm.Cond.code ({ cls := "OneHandEachModel", name := "worked", desc := "(III)I" } : Jvm.MethodName) prog_14_method_42_code (7 : Nat) (Option.some Jvm.ClassFile.FieldType.int)) ∈ m_ws := m_at 1215 (by decide +kernel) rfl
theorem q_1216 : (Jvm.Cond.methodLink "OneHandEachModel" (255 : Nat) ({ cls := "OneHandEachModel", name := "twoOf", desc := "(III)I" } : Jvm.MethodName)) ∈ m_ws := m_at 1216 (by decide +kernel) rfl
theorem q_1217 : (Jvm.Cond.static ({ cls := "OneHandEachModel", name := "twoOf", desc := "(III)I" } : Jvm.MethodName)) ∈ m_ws := m_at 1217 (by decide +kernel) rfl
theorem q_1218 : (Jvm.Cond.code ({ cls := "OneHandEachModel", name := "twoOf", desc := "(III)I" } : Jvm.MethodName) prog_14_method_41_code (3 : Nat) (Option.some Jvm.ClassFile.FieldType.int)) ∈ m_ws := m_at 1218 (by decide +kernel) rfl
theorem q_1219 : (Jvm.Cond.methodLink "OneHandEachLaw" (56 : Nat) ({ cls := "OneHandEachModel", name := "fits", desc := "(I)I" } : Jvm.MethodName)) ∈ m_ws := m_at 1219 (by decide +kernel) rfl
theorem q_1220 : (Jvm.Cond.instanceMethod ({ cls := "OneHandEachModel", name := "fits", desc := "(I)I" } : Jvm.MethodName)) ∈ m_ws := m_at 1220 (by decide +kernel) rfl
theorem q_1221 : (Jvm.Cond.selects "OneHandEachModel" ({ cls := "OneHandEachModel", name := "fits", desc := "(I)I" } : Jvm.MethodName) ({ cls := "OneHandEachModel", name := "fits", desc := "(I)I" } : Jvm.MethodName)) ∈ m_ws := m_at 1221 (by decide +kernel) rfl
theorem q_1222 : (Jvm.Cond.code ({ cls := "OneHandEachModel", name := "fits", desc := "(I)I" } : Jvm.MethodName) prog_14_method_49_code (4 : Nat) (Option.some Jvm.ClassFile.FieldType.int)) ∈ m_ws := m_at 1222 (by decide +kernel) rfl
theorem q_1223 : (Jvm.Cond.methodLink "OneHandEachModel" (284 : Nat) ({ cls := "OneHandEachModel", name := "findFits", desc := "(I)V" } : Jvm.MethodName)) ∈ m_ws := m_at 1223 (by decide +kernel) rfl
theorem q_1225 : (Jvm.Cond.instanceMethod ({ cls := "OneHandEachModel", name := "findFits", desc := "(I)V" } : Jvm.MethodName)) ∈ m_ws := m_at 1225 (by decide +kernel) rfl
theorem q_1226 : (Jvm.Cond.code ({ cls := "OneHandEachModel", name := "findFits", desc := "(I)V" } : Jvm.MethodName) prog_14_method_48_code (5 : Nat) (Option.none : Option Jvm.ClassFile.FieldType)) ∈ m_ws := m_at 1226 (by decide +kernel) rfl
theorem q_1227 : (Jvm.Cond.methodLink "OneHandEachModel" (281 : Nat) ({ cls := "OneHandEachModel", name := "isSeen", desc := "(II)Z" } : Jvm.MethodName)) ∈ m_ws := m_at 1227 (by decide +kernel) rfl
theorem q_1229 : (Jvm.Cond.instanceMethod ({ cls := "OneHandEachModel", name := "isSeen", desc := "(II)Z" } : Jvm.MethodName)) ∈ m_ws := m_at 1229 (by decide +kernel) rfl
theorem q_1230 : (Jvm.Cond.code ({ cls := "OneHandEachModel", name := "isSeen", desc := "(II)Z" } : Jvm.MethodName) prog_14_method_47_code (4 : Nat) (Option.some Jvm.ClassFile.FieldType.boolean)) ∈ m_ws := m_at 1230 (by decide +kernel) rfl
theorem q_1231 : (Jvm.Cond.methodLink "OneHandEachModel" (274 : Nat) ({ cls := "OneHandEachModel", name := "isNear", desc := "(II)Z" } : Jvm.MethodName)) ∈ m_ws := m_at 1231 (by decide +kernel) rfl
theorem q_1233 : (Jvm.Cond.instanceMethod ({ cls := "OneHandEachModel", name := "isNear", desc := "(II)Z" } : Jvm.MethodName)) ∈ m_ws := m_at 1233 (by decide +kernel) rfl
theorem q_1234 : (Jvm.Cond.code ({ cls := "OneHandEachModel", name := "isNear", desc := "(II)Z" } : Jvm.MethodName) prog_14_method_11_code (4 : Nat) (Option.some Jvm.ClassFile.FieldType.boolean)) ∈ m_ws := m_at 1234 (by decide +kernel) rfl
theorem q_1235 : (Jvm.Cond.methodLink "OneHandEachLaw" (60 : Nat) ({ cls := "OneHandEachModel", name := "chance", desc := "(II)I" } : Jvm.MethodName)) ∈ m_ws := m_at 1235 (by decide +kernel) rfl
theorem q_1236 : (Jvm.Cond.instanceMethod ({ cls := "OneHandEachModel", name := "chance", desc := "(II)I" } : Jvm.MethodName)) ∈ m_ws := m_at 1236 (by decide +kernel) rfl
theorem q_1237 : (Jvm.Cond.selects "OneHandEachModel" ({ cls := "OneHandEachModel", name := "chance", desc := "(II)I" } : Jvm.MethodName) ({ cls := "OneHandEachModel", name := "chance", desc := "(II)I" } : Jvm.MethodName)) ∈ m_ws := m_at 1237 (by decide +kernel) rfl
theorem q_1238 : (Jvm.Cond.code ({ cls := "OneHandEachModel", name := "chance", desc := "(II)I" } : Jvm.MethodName) prog_14_method_51_code (7 : Nat) (Option.some Jvm.ClassFile.FieldType.int)) ∈ m_ws := m_at 1238 (by decide +kernel) rfl
theorem q_1239 : (Jvm.Cond.methodLink "OneHandEachModel" (288 : Nat) ({ cls := "OneHandEachModel", name := "common", desc := "(II)I" } : Jvm.MethodName)) ∈ m_ws := m_at 1239 (by decide +kernel) rfl
theorem q_1240 : (Jvm.Cond.static ({ cls := "OneHandEachModel", name := "common", desc := "(II)I" } : Jvm.MethodName)) ∈ m_ws := m_at 1240 (by decide +kernel) rfl
theorem q_1241 : (Jvm.Cond.code ({ cls := "OneHandEachModel", name := "common", desc := "(II)I" } : Jvm.MethodName) prog_14_method_50_code (5 : Nat) (Option.some Jvm.ClassFile.FieldType.int)) ∈ m_ws := m_at 1241 (by decide +kernel) rfl
theorem q_1242 : (Jvm.Cond.methodLink "OneHandEachLaw" (64 : Nat) ({ cls := "OneHandEachModel", name := "likely", desc := "()I" } : Jvm.MethodName)) ∈ m_ws := m_at 1242 (by decide +kernel) rfl
theorem q_1243 : (Jvm.Cond.instanceMethod ({ cls := "OneHandEachModel", name := "likely", desc := "()I" } : Jvm.MethodName)) ∈ m_ws := m_at 1243 (by decide +kernel) rfl
theorem q_1244 : (Jvm.Cond.selects "OneHandEachModel" ({ cls := "OneHandEachModel", name := "likely", desc := "()I" } : Jvm.MethodName) ({ cls := "OneHandEachModel", name := "likely", desc := "()I" } : Jvm.MethodName)) ∈ m_ws := m_at 1244 (by decide +kernel) rfl
theorem q_1245 : (Jvm.Cond.code ({ cls := "OneHandEachModel", name := "likely", desc := "()I" } : Jvm.MethodName) prog_14_method_52_code (4 : Nat) (Option.some Jvm.ClassFile.FieldType.int)) ∈ m_ws := m_at 1245 (by decide +kernel) rfl
theorem q_1246 : (Jvm.Cond.methodLink "OneHandEachLaw" (68 : Nat) ({ cls := "OneHandEachModel", name := "tells", desc := "(I)I" } : Jvm.MethodName)) ∈ m_ws := m_at 1246 (by decide +kernel) rfl
theorem q_1247 : (Jvm.Cond.instanceMethod ({ cls := "OneHandEachModel", name := "tells", desc := "(I)I" } : Jvm.MethodName)) ∈ m_ws := m_at 1247 (by decide +kernel) rfl
theorem q_1248 : (Jvm.Cond.selects "OneHandEachModel" ({ cls := "OneHandEachModel", name := "tells", desc := "(I)I" } : Jvm.MethodName) ({ cls := "OneHandEachModel", name := "tells", desc := "(I)I" } : Jvm.MethodName)) ∈ m_ws := m_at 1248 (by decide +kernel) rfl
theorem q_1249 : (Jvm.Cond.code ({ cls := "OneHandEachModel", name := "tells", desc := "(I)I" } : Jvm.MethodName) prog_14_method_53_code (3 : Nat) (Option.some Jvm.ClassFile.FieldType.int)) ∈ m_ws := m_at 1249 (by decide +kernel) rfl
theorem q_1250 : (Jvm.Cond.methodLink "OneHandEachLaw" (72 : Nat) ({ cls := "OneHandEachModel", name := "next", desc := "(II)I" } : Jvm.MethodName)) ∈ m_ws := m_at 1250 (by decide +kernel) rfl
theorem q_1251 : (Jvm.Cond.instanceMethod ({ cls := "OneHandEachModel", name := "next", desc := "(II)I" } : Jvm.MethodName)) ∈ m_ws := m_at 1251 (by decide +kernel) rfl
theorem q_1252 : (Jvm.Cond.selects "OneHandEachModel" ({ cls := "OneHandEachModel", name := "next", desc := "(II)I" } : Jvm.MethodName) ({ cls := "OneHandEachModel", name := "next", desc := "(II)I" } : Jvm.MethodName)) ∈ m_ws := m_at 1252 (by decide +kernel) rfl
theorem q_1253 : (Jvm.Cond.code ({ cls := "OneHandEachModel", name := "next", desc := "(II)I" } : Jvm.MethodName) prog_14_method_55_code (5 : Nat) (Option.some Jvm.ClassFile.FieldType.int)) ∈ m_ws := m_at 1253 (by decide +kernel) rfl
theorem q_1254 : (Jvm.Cond.methodLink "OneHandEachModel" (291 : Nat) ({ cls := "OneHandEachModel", name := "mostAlike", desc := "(II)I" } : Jvm.MethodName)) ∈ m_ws := m_at 1254 (by decide +kernel) rfl
theorem q_1256 : (Jvm.Cond.instanceMethod ({ cls := "OneHandEachModel", name := "mostAlike", desc := "(II)I" } : Jvm.MethodName)) ∈ m_ws := m_at 1256 (by decide +kernel) rfl
theorem q_1257 : (Jvm.Cond.code ({ cls := "OneHandEachModel", name := "mostAlike", desc := "(II)I" } : Jvm.MethodName) prog_14_method_54_code (6 : Nat) (Option.some Jvm.ClassFile.FieldType.int)) ∈ m_ws := m_at 1257 (by decide +kernel) rfl
theorem q_1258 : (Jvm.Cond.methodLink "OneHandEachLaw" (76 : Nat) ({ cls := "OneHandEachModel", name := "lot", desc := "(III)I" } : Jvm.MethodName)) ∈ m_ws := m_at 1258 (by decide +kernel) rfl
theorem q_1259 : (Jvm.Cond.instanceMethod ({ cls := "OneHandEachModel", name := "lot", desc := "(III)I" } : Jvm.MethodName)) ∈ m_ws := m_at 1259 (by decide +kernel) rfl
theorem q_1260 : (Jvm.Cond.selects "OneHandEachModel" ({ cls := "OneHandEachModel", name := "lot", desc := "(III)I" } : Jvm.MethodName) ({ cls := "OneHandEachModel", name := "lot", desc := "(III)I" } : Jvm.MethodName)) ∈ m_ws := m_at 1260 (by decide +kernel) rfl
theorem q_1261 : (Jvm.Cond.code ({ cls := "OneHandEachModel", name := "lot", desc := "(III)I" } : Jvm.MethodName) prog_14_method_58_code (13 : Nat) (Option.some Jvm.ClassFile.FieldType.int)) ∈ m_ws := m_at 1261 (by decide +kernel) rfl
theorem q_1262 : (Jvm.Cond.methodLink "OneHandEachModel" (298 : Nat) ({ cls := "OneHandEachModel", name := "draw", desc := "(I)I" } : Jvm.MethodName)) ∈ m_ws := m_at 1262 (by decide +kernel) rfl
theorem q_1264 : (Jvm.Cond.instanceMethod ({ cls := "OneHandEachModel", name := "draw", desc := "(I)I" } : Jvm.MethodName)) ∈ m_ws := m_at 1264 (by decide +kernel) rfl
theorem q_1265 : (Jvm.Cond.code ({ cls := "OneHandEachModel", name := "draw", desc := "(I)I" } : Jvm.MethodName) prog_14_method_56_code (2 : Nat) (Option.some Jvm.ClassFile.FieldType.int)) ∈ m_ws := m_at 1265 (by decide +kernel) rfl
theorem q_1266 : (Jvm.Cond.constant "OneHandEachModel" (297 : Nat) (1103515245 : Int32)) ∈ m_ws := m_at 1266 (by decide +kernel) rfl
theorem q_1267 : (Jvm.Cond.methodLink "OneHandEachModel" (301 : Nat) ({ cls := "OneHandEachModel", name := "walksSo", desc := "(III)Z" } : Jvm.MethodName)) ∈ m_ws := m_at 1267 (by decide +kernel) rfl
theorem q_1269 : (Jvm.Cond.instanceMethod ({ cls := "OneHandEachModel", name := "walksSo", desc := "(III)Z" } : Jvm.MethodName)) ∈ m_ws := m_at 1269 (by decide +kernel) rfl
theorem q_1270 : (Jvm.Cond.code ({ cls := "OneHandEachModel", name := "walksSo", desc := "(III)Z" } : Jvm.MethodName) prog_14_method_57_code (5 : Nat) (Option.some Jvm.ClassFile.FieldType.boolean)) ∈ m_ws := m_at 1270 (by decide +kernel) rfl
theorem q_1271 : (Jvm.Cond.methodLink "OneHandEachLaw" (84 : Nat) ({ cls := "OneHandEachModel", name := "guess", desc := "(II)I" } : Jvm.MethodName)) ∈ m_ws := m_at 1271 (by decide +kernel) rfl
theorem q_1272 : (Jvm.Cond.instanceMethod ({ cls := "OneHandEachModel", name := "guess", desc := "(II)I" } : Jvm.MethodName)) ∈ m_ws := m_at 1272 (by decide +kernel) rfl
theorem q_1273 : (Jvm.Cond.selects "OneHandEachModel" ({ cls := "OneHandEachModel", name := "guess", desc := "(II)I" } : Jvm.MethodName) ({ cls := "OneHandEachModel", name := "guess", desc := "(II)I" } : Jvm.MethodName)) ∈ m_ws := m_at 1273 (by decide +kernel) rfl
theorem q_1274 : (Jvm.Cond.code ({ cls := "OneHandEachModel", name := "guess", desc := "(II)I" } : Jvm.MethodName) prog_14_method_60_code (12 : Nat) (Option.some Jvm.ClassFile.FieldType.int)) ∈ m_ws := m_at 1274 (by decide +kernel) rfl
theorem q_1275 : (Jvm.Cond.methodLink "OneHandEachModel" (304 : Nat) ({ cls := "OneHandEachModel", name := "wrongBy", desc := "(III)I" } : Jvm.MethodName)) ∈ m_ws := m_at 1275 (by decide +kernel) rfl
theorem q_1277 : (Jvm.Cond.instanceMethod ({ cls := "OneHandEachModel", name := "wrongBy", desc := "(III)I" } : Jvm.MethodName)) ∈ m_ws := m_at 1277 (by decide +kernel) rfl
theorem q_1278 : (Jvm.Cond.code ({ cls := "OneHandEachModel", name := "wrongBy", desc := "(III)I" } : Jvm.MethodName) prog_14_method_59_code (6 : Nat) (Option.some Jvm.ClassFile.FieldType.int)) ∈ m_ws := m_at 1278 (by decide +kernel) rfl
theorem q_1279 : (Jvm.Cond.methodLink "OneHandEachLaw" (88 : Nat) ({ cls := "OneHandEachModel", name := "liars", desc := "(I)I" } : Jvm.MethodName)) ∈ m_ws := m_at 1279 (by decide +kernel) rfl
theorem q_1280 : (Jvm.Cond.instanceMethod ({ cls := "OneHandEachModel", name := "liars", desc := "(I)I" } : Jvm.MethodName)) ∈ m_ws := m_at 1280 (by decide +kernel) rfl
theorem q_1281 : (Jvm.Cond.selects "OneHandEachModel" ({ cls := "OneHandEachModel", name := "liars", desc := "(I)I" } : Jvm.MethodName) ({ cls := "OneHandEachModel", name := "liars", desc := "(I)I" } : Jvm.MethodName)) ∈ m_ws := m_at 1281 (by decide +kernel) rfl
theorem q_1282 : (Jvm.Cond.code ({ cls := "OneHandEachModel", name := "liars", desc := "(I)I" } : Jvm.MethodName) prog_14_method_61_code (6 : Nat) (Option.some Jvm.ClassFile.FieldType.int)) ∈ m_ws := m_at 1282 (by decide +kernel) rfl
theorem q_1283 : (Jvm.Cond.methodLink "OneHandEachModel" (307 : Nat) ({ cls := "OneHandEachModel", name := "bitsOf", desc := "(I)I" } : Jvm.MethodName)) ∈ m_ws := m_at 1283 (by decide +kernel) rfl
theorem q_1284 : (Jvm.Cond.static ({ cls := "OneHandEachModel", name := "bitsOf", desc := "(I)I" } : Jvm.MethodName)) ∈ m_ws := m_at 1284 (by decide +kernel) rfl
theorem q_1285 : (Jvm.Cond.code ({ cls := "OneHandEachModel", name := "bitsOf", desc := "(I)I" } : Jvm.MethodName) prog_14_method_4_code (3 : Nat) (Option.some Jvm.ClassFile.FieldType.int)) ∈ m_ws := m_at 1285 (by decide +kernel) rfl
theorem q_1286 : (Jvm.Cond.methodLink "OneHandEachLaw" (92 : Nat) ({ cls := "OneHandEachModel", name := "agree", desc := "(III)I" } : Jvm.MethodName)) ∈ m_ws := m_at 1286 (by decide +kernel) rfl
theorem q_1287 : (Jvm.Cond.instanceMethod ({ cls := "OneHandEachModel", name := "agree", desc := "(III)I" } : Jvm.MethodName)) ∈ m_ws := m_at 1287 (by decide +kernel) rfl
theorem q_1288 : (Jvm.Cond.selects "OneHandEachModel" ({ cls := "OneHandEachModel", name := "agree", desc := "(III)I" } : Jvm.MethodName) ({ cls := "OneHandEachModel", name := "agree", desc := "(III)I" } : Jvm.MethodName)) ∈ m_ws := m_at 1288 (by decide +kernel) rfl
theorem q_1289 : (Jvm.Cond.code ({ cls := "OneHandEachModel", name := "agree", desc := "(III)I" } : Jvm.MethodName) prog_14_method_62_code (7 : Nat) (Option.some Jvm.ClassFile.FieldType.int)) ∈ m_ws := m_at 1289 (by decide +kernel) rfl
theorem q_1290 : (Jvm.Cond.methodLink "OneHandEachLaw" (96 : Nat) ({ cls := "OneHandEachModel", name := "meet", desc := "(III)I" } : Jvm.MethodName)) ∈ m_ws := m_at 1290 (by decide +kernel) rfl
theorem q_1291 : (Jvm.Cond.instanceMethod ({ cls := "OneHandEachModel", name := "meet", desc := "(III)I" } : Jvm.MethodName)) ∈ m_ws := m_at 1291 (by decide +kernel) rfl
theorem q_1292 : (Jvm.Cond.selects "OneHandEachModel" ({ cls := "OneHandEachModel", name := "meet", desc := "(III)I" } : Jvm.MethodName) ({ cls := "OneHandEachModel", name := "meet", desc := "(III)I" } : Jvm.MethodName)) ∈ m_ws := m_at 1292 (by decide +kernel) rfl
theorem q_1293 : (Jvm.Cond.code ({ cls := "OneHandEachModel", name := "meet", desc := "(III)I" } : Jvm.MethodName) prog_14_method_64_code (6 : Nat) (Option.some Jvm.ClassFile.FieldType.int)) ∈ m_ws := m_at 1293 (by decide +kernel) rfl
theorem q_1294 : (Jvm.Cond.methodLink "OneHandEachModel" (310 : Nat) ({ cls := "OneHandEachModel", name := "meets", desc := "(III)I" } : Jvm.MethodName)) ∈ m_ws := m_at 1294 (by decide +kernel) rfl
theorem q_1296 : (Jvm.Cond.instanceMethod ({ cls := "OneHandEachModel", name := "meets", desc := "(III)I" } : Jvm.MethodName)) ∈ m_ws := m_at 1296 (by decide +kernel) rfl
theorem q_1297 : (Jvm.Cond.code ({ cls := "OneHandEachModel", name := "meets", desc := "(III)I" } : Jvm.MethodName) prog_14_method_63_code (5 : Nat) (Option.some Jvm.ClassFile.FieldType.int)) ∈ m_ws := m_at 1297 (by decide +kernel) rfl
theorem q_1298 : (Jvm.Cond.methodLink "OneHandEachLaw" (100 : Nat) ({ cls := "OneHandEachModel", name := "round", desc := "(II)I" } : Jvm.MethodName)) ∈ m_ws := m_at 1298 (by decide +kernel) rfl
theorem q_1299 : (Jvm.Cond.instanceMethod ({ cls := "OneHandEachModel", name := "round", desc := "(II)I" } : Jvm.MethodName)) ∈ m_ws := m_at 1299 (by decide +kernel) rfl
theorem q_1300 : (Jvm.Cond.selects "OneHandEachModel" ({ cls := "OneHandEachModel", name := "round", desc := "(II)I" } : Jvm.MethodName) ({ cls := "OneHandEachModel", name := "round", desc := "(II)I" } : Jvm.MethodName)) ∈ m_ws := m_at 1300 (by decide +kernel) rfl
theorem q_1301 : (Jvm.Cond.code ({ cls := "OneHandEachModel", name := "round", desc := "(II)I" } : Jvm.MethodName) prog_14_method_65_code (6 : Nat) (Option.some Jvm.ClassFile.FieldType.int)) ∈ m_ws := m_at 1301 (by decide +kernel) rfl
theorem q_1302 : (Jvm.Cond.methodLink "OneHandEachLaw" (104 : Nat) ({ cls := "OneHandEachModel", name := "set", desc := "(II)I" } : Jvm.MethodName)) ∈ m_ws := m_at 1302 (by decide +kernel) rfl
theorem q_1303 : (Jvm.Cond.instanceMethod ({ cls := "OneHandEachModel", name := "set", desc := "(II)I" } : Jvm.MethodName)) ∈ m_ws := m_at 1303 (by decide +kernel) rfl
theorem q_1304 : (Jvm.Cond.selects "OneHandEachModel" ({ cls := "OneHandEachModel", name := "set", desc := "(II)I" } : Jvm.MethodName) ({ cls := "OneHandEachModel", name := "set", desc := "(II)I" } : Jvm.MethodName)) ∈ m_ws := m_at 1304 (by decide +kernel) rfl
theorem q_1305 : (Jvm.Cond.code ({ cls := "OneHandEachModel", name := "set", desc := "(II)I" } : Jvm.MethodName) prog_14_method_66_code (4 : Nat) (Option.some Jvm.ClassFile.FieldType.int)) ∈ m_ws := m_at 1305 (by decide +kernel) rfl
theorem q_1306 : (Jvm.Cond.methodLink "OneHandEachLaw" (108 : Nat) ({ cls := "OneHandEachModel", name := "led", desc := "(II)I" } : Jvm.MethodName)) ∈ m_ws := m_at 1306 (by decide +kernel) rfl
theorem q_1307 : (Jvm.Cond.instanceMethod ({ cls := "OneHandEachModel", name := "led", desc := "(II)I" } : Jvm.MethodName)) ∈ m_ws := m_at 1307 (by decide +kernel) rfl
theorem q_1308 : (Jvm.Cond.selects "OneHandEachModel" ({ cls := "OneHandEachModel", name := "led", desc := "(II)I" } : Jvm.MethodName) ({ cls := "OneHandEachModel", name := "led", desc := "(II)I" } : Jvm.MethodName)) ∈ m_ws := m_at 1308 (by decide +kernel) rfl
theorem q_1309 : (Jvm.Cond.code ({ cls := "OneHandEachModel", name := "led", desc := "(II)I" } : Jvm.MethodName) prog_14_method_67_code (3 : Nat) (Option.some Jvm.ClassFile.FieldType.int)) ∈ m_ws := m_at 1309 (by decide +kernel) rfl
theorem q_1310 : (Jvm.Cond.methodLink "OneHandEachLaw" (112 : Nat) ({ cls := "OneHandEachModel", name := "judge", desc := "(I)I" } : Jvm.MethodName)) ∈ m_ws := m_at 1310 (by decide +kernel) rfl
theorem q_1311 : (Jvm.Cond.instanceMethod ({ cls := "OneHandEachModel", name := "judge", desc := "(I)I" } : Jvm.MethodName)) ∈ m_ws := m_at 1311 (by decide +kernel) rfl
theorem q_1312 : (Jvm.Cond.selects "OneHandEachModel" ({ cls := "OneHandEachModel", name := "judge", desc := "(I)I" } : Jvm.MethodName) ({ cls := "OneHandEachModel", name := "judge", desc := "(I)I" } : Jvm.MethodName)) ∈ m_ws := m_at 1312 (by decide +kernel) rfl
theorem q_1313 : (Jvm.Cond.code ({ cls := "OneHandEachModel", name := "judge", desc := "(I)I" } : Jvm.MethodName) prog_14_method_68_code (6 : Nat) (Option.some Jvm.ClassFile.FieldType.int)) ∈ m_ws := m_at 1313 (by decide +kernel) rfl
theorem q_1314 : (Jvm.Cond.methodLink "OneHandEachLaw" (116 : Nat) ({ cls := "OneHandEachModel", name := "image", desc := "()I" } : Jvm.MethodName)) ∈ m_ws := m_at 1314 (by decide +kernel) rfl
theorem q_1315 : (Jvm.Cond.instanceMethod ({ cls := "OneHandEachModel", name := "image", desc := "()I" } : Jvm.MethodName)) ∈ m_ws := m_at 1315 (by decide +kernel) rfl
theorem q_1316 : (Jvm.Cond.selects "OneHandEachModel" ({ cls := "OneHandEachModel", name := "image", desc := "()I" } : Jvm.MethodName) ({ cls := "OneHandEachModel", name := "image", desc := "()I" } : Jvm.MethodName)) ∈ m_ws := m_at 1316 (by decide +kernel) rfl
theorem q_1317 : (Jvm.Cond.code ({ cls := "OneHandEachModel", name := "image", desc := "()I" } : Jvm.MethodName) prog_14_method_69_code (2 : Nat) (Option.some Jvm.ClassFile.FieldType.int)) ∈ m_ws := m_at 1317 (by decide +kernel) rfl
theorem q_1318 : (Jvm.Cond.methodLink "OneHandEachLaw" (120 : Nat) ({ cls := "OneHandEachModel", name := "back", desc := "()I" } : Jvm.MethodName)) ∈ m_ws := m_at 1318 (by decide +kernel) rfl
theorem q_1319 : (Jvm.Cond.instanceMethod ({ cls := "OneHandEachModel", name := "back", desc := "()I" } : Jvm.MethodName)) ∈ m_ws := m_at 1319 (by decide +kernel) rfl
theorem q_1320 : (Jvm.Cond.selects "OneHandEachModel" ({ cls := "OneHandEachModel", name := "back", desc := "()I" } : Jvm.MethodName) ({ cls := "OneHandEachModel", name := "back", desc := "()I" } : Jvm.MethodName)) ∈ m_ws := m_at 1320 (by decide +kernel) rfl
theorem q_1321 : (Jvm.Cond.code ({ cls := "OneHandEachModel", name := "back", desc := "()I" } : Jvm.MethodName) prog_14_method_70_code (2 : Nat) (Option.some Jvm.ClassFile.FieldType.int)) ∈ m_ws := m_at 1321 (by decide +kernel) rfl
theorem q_1322 : (Jvm.Cond.methodLink "OneHandEachLaw" (140 : Nat) ({ cls := "OneHandEachModel", name := "trace", desc := "(I)I" } : Jvm.MethodName)) ∈ m_ws := m_at 1322 (by decide +kernel) rfl
theorem q_1323 : (Jvm.Cond.instanceMethod ({ cls := "OneHandEachModel", name := "trace", desc := "(I)I" } : Jvm.MethodName)) ∈ m_ws := m_at 1323 (by decide +kernel) rfl
theorem q_1324 : (Jvm.Cond.selects "OneHandEachModel" ({ cls := "OneHandEachModel", name := "trace", desc := "(I)I" } : Jvm.MethodName) ({ cls := "OneHandEachModel", name := "trace", desc := "(I)I" } : Jvm.MethodName)) ∈ m_ws := m_at 1324 (by decide +kernel) rfl
theorem q_1325 : (Jvm.Cond.code ({ cls := "OneHandEachModel", name := "trace", desc := "(I)I" } : Jvm.MethodName) prog_14_method_73_code (2 : Nat) (Option.some Jvm.ClassFile.FieldType.int)) ∈ m_ws := m_at 1325 (by decide +kernel) rfl
theorem q_1326 : (Jvm.Cond.methodLink "OneHandEachLaw" (132 : Nat) ({ cls := "OneHandEachModel", name := "body", desc := "(I)I" } : Jvm.MethodName)) ∈ m_ws := m_at 1326 (by decide +kernel) rfl
theorem q_1327 : (Jvm.Cond.instanceMethod ({ cls := "OneHandEachModel", name := "body", desc := "(I)I" } : Jvm.MethodName)) ∈ m_ws := m_at 1327 (by decide +kernel) rfl
theorem q_1328 : (Jvm.Cond.selects "OneHandEachModel" ({ cls := "OneHandEachModel", name := "body", desc := "(I)I" } : Jvm.MethodName) ({ cls := "OneHandEachModel", name := "body", desc := "(I)I" } : Jvm.MethodName)) ∈ m_ws := m_at 1328 (by decide +kernel) rfl
theorem q_1329 : (Jvm.Cond.code ({ cls := "OneHandEachModel", name := "body", desc := "(I)I" } : Jvm.MethodName) prog_14_method_74_code (2 : Nat) (Option.some Jvm.ClassFile.FieldType.int)) ∈ m_ws := m_at 1329 (by decide +kernel) rfl
theorem q_1330 : (Jvm.Cond.methodLink "OneHandEachLaw" (136 : Nat) ({ cls := "OneHandEachModel", name := "act", desc := "(III)I" } : Jvm.MethodName)) ∈ m_ws := m_at 1330 (by decide +kernel) rfl
theorem q_1331 : (Jvm.Cond.instanceMethod ({ cls := "OneHandEachModel", name := "act", desc := "(III)I" } : Jvm.MethodName)) ∈ m_ws := m_at 1331 (by decide +kernel) rfl
theorem q_1332 : (Jvm.Cond.selects "OneHandEachModel" ({ cls := "OneHandEachModel", name := "act", desc := "(III)I" } : Jvm.MethodName) ({ cls := "OneHandEachModel", name := "act", desc := "(III)I" } : Jvm.MethodName)) ∈ m_ws := m_at 1332 (by decide +kernel) rfl
theorem q_1333 : (Jvm.Cond.code ({ cls := "OneHandEachModel", name := "act", desc := "(III)I" } : Jvm.MethodName) prog_14_method_87_code (4 : Nat) (Option.some Jvm.ClassFile.FieldType.int)) ∈ m_ws := m_at 1333 (by decide +kernel) rfl
theorem q_1334 : (Jvm.Cond.methodLink "OneHandEachModel" (364 : Nat) ({ cls := "OneHandEachModel", name := "isBody", desc := "(I)Z" } : Jvm.MethodName)) ∈ m_ws := m_at 1334 (by decide +kernel) rfl
theorem q_1336 : (Jvm.Cond.instanceMethod ({ cls := "OneHandEachModel", name := "isBody", desc := "(I)Z" } : Jvm.MethodName)) ∈ m_ws := m_at 1336 (by decide +kernel) rfl
theorem q_1337 : (Jvm.Cond.code ({ cls := "OneHandEachModel", name := "isBody", desc := "(I)Z" } : Jvm.MethodName) prog_14_method_71_code (2 : Nat) (Option.some Jvm.ClassFile.FieldType.boolean)) ∈ m_ws := m_at 1337 (by decide +kernel) rfl
theorem q_1338 : (Jvm.Cond.methodLink "OneHandEachModel" (340 : Nat) ({ cls := "OneHandEachModel", name := "showing", desc := "(II)I" } : Jvm.MethodName)) ∈ m_ws := m_at 1338 (by decide +kernel) rfl
theorem q_1340 : (Jvm.Cond.instanceMethod ({ cls := "OneHandEachModel", name := "showing", desc := "(II)I" } : Jvm.MethodName)) ∈ m_ws := m_at 1340 (by decide +kernel) rfl
theorem q_1341 : (Jvm.Cond.code ({ cls := "OneHandEachModel", name := "showing", desc := "(II)I" } : Jvm.MethodName) prog_14_method_78_code (3 : Nat) (Option.some Jvm.ClassFile.FieldType.int)) ∈ m_ws := m_at 1341 (by decide +kernel) rfl
theorem q_1342 : (Jvm.Cond.methodLink "OneHandEachModel" (334 : Nat) ({ cls := "OneHandEachModel", name := "isUnder", desc := "(II)Z" } : Jvm.MethodName)) ∈ m_ws := m_at 1342 (by decide +kernel) rfl
theorem q_1343 : (Jvm.Cond.static ({ cls := "OneHandEachModel", name := "isUnder", desc := "(II)Z" } : Jvm.MethodName)) ∈ m_ws := m_at 1343 (by decide +kernel) rfl
theorem q_1344 : (Jvm.Cond.code ({ cls := "OneHandEachModel", name := "isUnder", desc := "(II)Z" } : Jvm.MethodName) prog_14_method_75_code (2 : Nat) (Option.some Jvm.ClassFile.FieldType.boolean)) ∈ m_ws := m_at 1344 (by decide +kernel) rfl
theorem q_1345 : (Jvm.Cond.methodLink "OneHandEachModel" (328 : Nat) ({ cls := "OneHandEachModel", name := "ran", desc := "(I)V" } : Jvm.MethodName)) ∈ m_ws := m_at 1345 (by decide +kernel) rfl
theorem q_1347 : (Jvm.Cond.instanceMethod ({ cls := "OneHandEachModel", name := "ran", desc := "(I)V" } : Jvm.MethodName)) ∈ m_ws := m_at 1347 (by decide +kernel) rfl
theorem q_1348 : (Jvm.Cond.code ({ cls := "OneHandEachModel", name := "ran", desc := "(I)V" } : Jvm.MethodName) prog_14_method_72_code (2 : Nat) (Option.none : Option Jvm.ClassFile.FieldType)) ∈ m_ws := m_at 1348 (by decide +kernel) rfl
theorem q_1349 : (Jvm.Cond.methodLink "OneHandEachModel" (331 : Nat) ({ cls := "OneHandEachModel", name := "plainShows", desc := "(II)I" } : Jvm.MethodName)) ∈ m_ws := m_at 1349 (by decide +kernel) rfl
theorem q_1351 : (Jvm.Cond.instanceMethod ({ cls := "OneHandEachModel", name := "plainShows", desc := "(II)I" } : Jvm.MethodName)) ∈ m_ws := m_at 1351 (by decide +kernel) rfl
theorem q_1352 : (Jvm.Cond.code ({ cls := "OneHandEachModel", name := "plainShows", desc := "(II)I" } : Jvm.MethodName) prog_14_method_76_code (3 : Nat) (Option.some Jvm.ClassFile.FieldType.int)) ∈ m_ws := m_at 1352 (by decide +kernel) rfl
theorem q_1353 : (Jvm.Cond.methodLink "OneHandEachModel" (337 : Nat) ({ cls := "OneHandEachModel", name := "boyShows", desc := "(II)I" } : Jvm.MethodName)) ∈ m_ws := m_at 1353 (by decide +kernel) rfl
theorem q_1355 : (Jvm.Cond.instanceMethod ({ cls := "OneHandEachModel", name := "boyShows", desc := "(II)I" } : Jvm.MethodName)) ∈ m_ws := m_at 1355 (by decide +kernel) rfl
theorem q_1356 : (Jvm.Cond.code ({ cls := "OneHandEachModel", name := "boyShows", desc := "(II)I" } : Jvm.MethodName) prog_14_method_77_code (3 : Nat) (Option.some Jvm.ClassFile.FieldType.int)) ∈ m_ws := m_at 1356 (by decide +kernel) rfl
theorem q_1357 : (Jvm.Cond.methodLink "OneHandEachModel" (358 : Nat) ({ cls := "OneHandEachModel", name := "parting", desc := "(II)I" } : Jvm.MethodName)) ∈ m_ws := m_at 1357 (by decide +kernel) rfl
theorem q_1359 : (Jvm.Cond.instanceMethod ({ cls := "OneHandEachModel", name := "parting", desc := "(II)I" } : Jvm.MethodName)) ∈ m_ws := m_at 1359 (by decide +kernel) rfl
theorem q_1360 : (Jvm.Cond.code ({ cls := "OneHandEachModel", name := "parting", desc := "(II)I" } : Jvm.MethodName) prog_14_method_81_code (4 : Nat) (Option.some Jvm.ClassFile.FieldType.int)) ∈ m_ws := m_at 1360 (by decide +kernel) rfl
theorem q_1361 : (Jvm.Cond.methodLink "OneHandEachModel" (346 : Nat) ({ cls := "OneHandEachModel", name := "hillParts", desc := "(II)I" } : Jvm.MethodName)) ∈ m_ws := m_at 1361 (by decide +kernel) rfl
theorem q_1363 : (Jvm.Cond.instanceMethod ({ cls := "OneHandEachModel", name := "hillParts", desc := "(II)I" } : Jvm.MethodName)) ∈ m_ws := m_at 1363 (by decide +kernel) rfl
theorem q_1364 : (Jvm.Cond.code ({ cls := "OneHandEachModel", name := "hillParts", desc := "(II)I" } : Jvm.MethodName) prog_14_method_80_code (3 : Nat) (Option.some Jvm.ClassFile.FieldType.int)) ∈ m_ws := m_at 1364 (by decide +kernel) rfl
theorem q_1365 : (Jvm.Cond.methodLink "OneHandEachModel" (343 : Nat) ({ cls := "OneHandEachModel", name := "plainParts", desc := "(II)I" } : Jvm.MethodName)) ∈ m_ws := m_at 1365 (by decide +kernel) rfl
theorem q_1367 : (Jvm.Cond.instanceMethod ({ cls := "OneHandEachModel", name := "plainParts", desc := "(II)I" } : Jvm.MethodName)) ∈ m_ws := m_at 1367 (by decide +kernel) rfl
theorem q_1368 : (Jvm.Cond.code ({ cls := "OneHandEachModel", name := "plainParts", desc := "(II)I" } : Jvm.MethodName) prog_14_method_79_code (3 : Nat) (Option.some Jvm.ClassFile.FieldType.int)) ∈ m_ws := m_at 1368 (by decide +kernel) rfl
theorem q_1369 : (Jvm.Cond.methodLink "OneHandEachModel" (349 : Nat) ({ cls := "OneHandEachModel", name := "walking", desc := "(II)I" } : Jvm.MethodName)) ∈ m_ws := m_at 1369 (by decide +kernel) rfl
theorem q_1371 : (Jvm.Cond.instanceMethod ({ cls := "OneHandEachModel", name := "walking", desc := "(II)I" } : Jvm.MethodName)) ∈ m_ws := m_at 1371 (by decide +kernel) rfl
theorem q_1372 : (Jvm.Cond.code ({ cls := "OneHandEachModel", name := "walking", desc := "(II)I" } : Jvm.MethodName) prog_14_method_84_code (4 : Nat) (Option.some Jvm.ClassFile.FieldType.int)) ∈ m_ws := m_at 1372 (by decide +kernel) rfl
theorem q_1373 : (Jvm.Cond.methodLink "OneHandEachModel" (355 : Nat) ({ cls := "OneHandEachModel", name := "fogWalks", desc := "(II)I" } : Jvm.MethodName)) ∈ m_ws := m_at 1373 (by decide +kernel) rfl
theorem q_1375 : (Jvm.Cond.instanceMethod ({ cls := "OneHandEachModel", name := "fogWalks", desc := "(II)I" } : Jvm.MethodName)) ∈ m_ws := m_at 1375 (by decide +kernel) rfl
theorem q_1376 : (Jvm.Cond.code ({ cls := "OneHandEachModel", name := "fogWalks", desc := "(II)I" } : Jvm.MethodName) prog_14_method_83_code (3 : Nat) (Option.some Jvm.ClassFile.FieldType.int)) ∈ m_ws := m_at 1376 (by decide +kernel) rfl
theorem q_1377 : (Jvm.Cond.methodLink "OneHandEachModel" (352 : Nat) ({ cls := "OneHandEachModel", name := "plainWalks", desc := "(II)I" } : Jvm.MethodName)) ∈ m_ws := m_at 1377 (by decide +kernel) rfl
theorem q_1379 : (Jvm.Cond.instanceMethod ({ cls := "OneHandEachModel", name := "plainWalks", desc := "(II)I" } : Jvm.MethodName)) ∈ m_ws := m_at 1379 (by decide +kernel) rfl
theorem q_1380 : (Jvm.Cond.code ({ cls := "OneHandEachModel", name := "plainWalks", desc := "(II)I" } : Jvm.MethodName) prog_14_method_82_code (3 : Nat) (Option.some Jvm.ClassFile.FieldType.int)) ∈ m_ws := m_at 1380 (by decide +kernel) rfl
theorem q_1381 : (Jvm.Cond.methodLink "OneHandEachModel" (367 : Nat) ({ cls := "OneHandEachModel", name := "telling", desc := "(II)I" } : Jvm.MethodName)) ∈ m_ws := m_at 1381 (by decide +kernel) rfl
theorem q_1383 : (Jvm.Cond.instanceMethod ({ cls := "OneHandEachModel", name := "telling", desc := "(II)I" } : Jvm.MethodName)) ∈ m_ws := m_at 1383 (by decide +kernel) rfl
theorem q_1384 : (Jvm.Cond.code ({ cls := "OneHandEachModel", name := "telling", desc := "(II)I" } : Jvm.MethodName) prog_14_method_86_code (3 : Nat) (Option.some Jvm.ClassFile.FieldType.int)) ∈ m_ws := m_at 1384 (by decide +kernel) rfl
theorem q_1385 : (Jvm.Cond.methodLink "OneHandEachModel" (361 : Nat) ({ cls := "OneHandEachModel", name := "plainTells", desc := "(II)I" } : Jvm.MethodName)) ∈ m_ws := m_at 1385 (by decide +kernel) rfl
theorem q_1387 : (Jvm.Cond.instanceMethod ({ cls := "OneHandEachModel", name := "plainTells", desc := "(II)I" } : Jvm.MethodName)) ∈ m_ws := m_at 1387 (by decide +kernel) rfl
theorem q_1388 : (Jvm.Cond.code ({ cls := "OneHandEachModel", name := "plainTells", desc := "(II)I" } : Jvm.MethodName) prog_14_method_85_code (4 : Nat) (Option.some Jvm.ClassFile.FieldType.int)) ∈ m_ws := m_at 1388 (by decide +kernel) rfl
theorem q_1389 : (Jvm.Cond.methodLink "OneHandEachLaw" (173 : Nat) ({ cls := "OneHandEachModel", name := "count", desc := "(I)I" } : Jvm.MethodName)) ∈ m_ws := m_at 1389 (by decide +kernel) rfl
theorem q_1390 : (Jvm.Cond.instanceMethod ({ cls := "OneHandEachModel", name := "count", desc := "(I)I" } : Jvm.MethodName)) ∈ m_ws := m_at 1390 (by decide +kernel) rfl
theorem q_1391 : (Jvm.Cond.selects "OneHandEachModel" ({ cls := "OneHandEachModel", name := "count", desc := "(I)I" } : Jvm.MethodName) ({ cls := "OneHandEachModel", name := "count", desc := "(I)I" } : Jvm.MethodName)) ∈ m_ws := m_at 1391 (by decide +kernel) rfl
theorem q_1392 : (Jvm.Cond.code ({ cls := "OneHandEachModel", name := "count", desc := "(I)I" } : Jvm.MethodName) prog_14_method_88_code (2 : Nat) (Option.some Jvm.ClassFile.FieldType.int)) ∈ m_ws := m_at 1392 (by decide +kernel) rfl
theorem q_1393 : (Jvm.Cond.methodLink "OneHandEachLaw" (144 : Nat) ({ cls := "OneHandEachModel", name := "keep", desc := "(II)I" } : Jvm.MethodName)) ∈ m_ws := m_at 1393 (by decide +kernel) rfl
theorem q_1394 : (Jvm.Cond.instanceMethod ({ cls := "OneHandEachModel", name := "keep", desc := "(II)I" } : Jvm.MethodName)) ∈ m_ws := m_at 1394 (by decide +kernel) rfl
theorem q_1395 : (Jvm.Cond.selects "OneHandEachModel" ({ cls := "OneHandEachModel", name := "keep", desc := "(II)I" } : Jvm.MethodName) ({ cls := "OneHandEachModel", name := "keep", desc := "(II)I" } : Jvm.MethodName)) ∈ m_ws := m_at 1395 (by decide +kernel) rfl
theorem q_1396 : (Jvm.Cond.code ({ cls := "OneHandEachModel", name := "keep", desc := "(II)I" } : Jvm.MethodName) prog_14_method_90_code (3 : Nat) (Option.some Jvm.ClassFile.FieldType.int)) ∈ m_ws := m_at 1396 (by decide +kernel) rfl
theorem q_1397 : (Jvm.Cond.methodLink "OneHandEachLaw" (148 : Nat) ({ cls := "OneHandEachModel", name := "row", desc := "(III)I" } : Jvm.MethodName)) ∈ m_ws := m_at 1397 (by decide +kernel) rfl
theorem q_1398 : (Jvm.Cond.instanceMethod ({ cls := "OneHandEachModel", name := "row", desc := "(III)I" } : Jvm.MethodName)) ∈ m_ws := m_at 1398 (by decide +kernel) rfl
theorem q_1399 : (Jvm.Cond.selects "OneHandEachModel" ({ cls := "OneHandEachModel", name := "row", desc := "(III)I" } : Jvm.MethodName) ({ cls := "OneHandEachModel", name := "row", desc := "(III)I" } : Jvm.MethodName)) ∈ m_ws := m_at 1399 (by decide +kernel) rfl
theorem q_1400 : (Jvm.Cond.code ({ cls := "OneHandEachModel", name := "row", desc := "(III)I" } : Jvm.MethodName) prog_14_method_91_code (5 : Nat) (Option.some Jvm.ClassFile.FieldType.int)) ∈ m_ws := m_at 1400 (by decide +kernel) rfl
theorem q_1401 : (Jvm.Cond.methodLink "OneHandEachLaw" (155 : Nat) ({ cls := "OneHandEachModel", name := "put", desc := "(IIJ)I" } : Jvm.MethodName)) ∈ m_ws := m_at 1401 (by decide +kernel) rfl
theorem q_1402 : (Jvm.Cond.instanceMethod ({ cls := "OneHandEachModel", name := "put", desc := "(IIJ)I" } : Jvm.MethodName)) ∈ m_ws := m_at 1402 (by decide +kernel) rfl
theorem q_1403 : (Jvm.Cond.selects "OneHandEachModel" ({ cls := "OneHandEachModel", name := "put", desc := "(IIJ)I" } : Jvm.MethodName) ({ cls := "OneHandEachModel", name := "put", desc := "(IIJ)I" } : Jvm.MethodName)) ∈ m_ws := m_at 1403 (by decide +kernel) rfl
theorem q_1404 : (Jvm.Cond.code ({ cls := "OneHandEachModel", name := "put", desc := "(IIJ)I" } : Jvm.MethodName) prog_14_method_93_code (7 : Nat) (Option.some Jvm.ClassFile.FieldType.int)) ∈ m_ws := m_at 1404 (by decide +kernel) rfl
theorem q_1405 : (Jvm.Cond.methodLink "OneHandEachModel" (370 : Nat) ({ cls := "OneHandEachModel", name := "whyNoPlace", desc := "(II)I" } : Jvm.MethodName)) ∈ m_ws := m_at 1405 (by decide +kernel) rfl
theorem q_1407 : (Jvm.Cond.instanceMethod ({ cls := "OneHandEachModel", name := "whyNoPlace", desc := "(II)I" } : Jvm.MethodName)) ∈ m_ws := m_at 1407 (by decide +kernel) rfl
theorem q_1408 : (Jvm.Cond.code ({ cls := "OneHandEachModel", name := "whyNoPlace", desc := "(II)I" } : Jvm.MethodName) prog_14_method_92_code (3 : Nat) (Option.some Jvm.ClassFile.FieldType.int)) ∈ m_ws := m_at 1408 (by decide +kernel) rfl
theorem q_1409 : (Jvm.Cond.methodLink "OneHandEachLaw" (160 : Nat) ({ cls := "OneHandEachModel", name := "element", desc := "(II)J" } : Jvm.MethodName)) ∈ m_ws := m_at 1409 (by decide +kernel) rfl
theorem q_1410 : (Jvm.Cond.instanceMethod ({ cls := "OneHandEachModel", name := "element", desc := "(II)J" } : Jvm.MethodName)) ∈ m_ws := m_at 1410 (by decide +kernel) rfl
theorem q_1411 : (Jvm.Cond.selects "OneHandEachModel" ({ cls := "OneHandEachModel", name := "element", desc := "(II)J" } : Jvm.MethodName) ({ cls := "OneHandEachModel", name := "element", desc := "(II)J" } : Jvm.MethodName)) ∈ m_ws := m_at 1411 (by decide +kernel) rfl
theorem q_1412 : (Jvm.Cond.code ({ cls := "OneHandEachModel", name := "element", desc := "(II)J" } : Jvm.MethodName) prog_14_method_94_code (3 : Nat) (Option.some Jvm.ClassFile.FieldType.long)) ∈ m_ws := m_at 1412 (by decide +kernel) rfl
theorem q_1413 : (Jvm.Cond.constantLong "OneHandEachModel" (375 : Nat) (-9223372036854775808 : Int64)) ∈ m_ws := m_at 1413 (by decide +kernel) rfl
theorem q_1414 : (Jvm.Cond.methodLink "OneHandEachLaw" (165 : Nat) ({ cls := "OneHandEachModel", name := "shift", desc := "(IIIII)I" } : Jvm.MethodName)) ∈ m_ws := m_at 1414 (by decide +kernel) rfl
theorem q_1415 : (Jvm.Cond.instanceMethod ({ cls := "OneHandEachModel", name := "shift", desc := "(IIIII)I" } : Jvm.MethodName)) ∈ m_ws := m_at 1415 (by decide +kernel) rfl
theorem q_1416 : (Jvm.Cond.selects "OneHandEachModel" ({ cls := "OneHandEachModel", name := "shift", desc := "(IIIII)I" } : Jvm.MethodName) ({ cls := "OneHandEachModel", name := "shift", desc := "(IIIII)I" } : Jvm.MethodName)) ∈ m_ws := m_at 1416 (by decide +kernel) rfl
theorem q_1417 : (Jvm.Cond.code ({ cls := "OneHandEachModel", name := "shift", desc := "(IIIII)I" } : Jvm.MethodName) prog_14_method_95_code (7 : Nat) (Option.some Jvm.ClassFile.FieldType.int)) ∈ m_ws := m_at 1417 (by decide +kernel) rfl
theorem q_1418 : (Jvm.Cond.methodLink "OneHandEachLaw" (169 : Nat) ({ cls := "OneHandEachModel", name := "taken", desc := "(II)I" } : Jvm.MethodName)) ∈ m_ws := m_at 1418 (by decide +kernel) rfl
theorem q_1419 : (Jvm.Cond.instanceMethod ({ cls := "OneHandEachModel", name := "taken", desc := "(II)I" } : Jvm.MethodName)) ∈ m_ws := m_at 1419 (by decide +kernel) rfl
theorem q_1420 : (Jvm.Cond.selects "OneHandEachModel" ({ cls := "OneHandEachModel", name := "taken", desc := "(II)I" } : Jvm.MethodName) ({ cls := "OneHandEachModel", name := "taken", desc := "(II)I" } : Jvm.MethodName)) ∈ m_ws := m_at 1420 (by decide +kernel) rfl
theorem q_1421 : (Jvm.Cond.code ({ cls := "OneHandEachModel", name := "taken", desc := "(II)I" } : Jvm.MethodName) prog_14_method_96_code (3 : Nat) (Option.some Jvm.ClassFile.FieldType.int)) ∈ m_ws := m_at 1421 (by decide +kernel) rfl
theorem q_1422 : (Jvm.Cond.constantLong "OneHandEachLaw" (149 : Nat) (4294967295 : Int64)) ∈ m_ws := m_at 1422 (by decide +kernel) rfl
theorem q_0 : Cond.selects "OneHandEach$Changes" ⟨"OneHandEach$Changes", "dropEldest", "()V"⟩ ⟨"OneHandEach$Changes", "dropEldest", "()V"⟩ ∈ m_ws := m_at 0 (by decide +kernel) rfl
theorem q_1 : Cond.selects "OneHandEach$Reader" ⟨"OneHandEach$Reader", "line", "()V"⟩ ⟨"OneHandEach$Reader", "line", "()V"⟩ ∈ m_ws := m_at 1 (by decide +kernel) rfl
theorem q_2 : Cond.selects "OneHandEach$Reader" ⟨"OneHandEach$Reader", "joined", "(II)V"⟩ ⟨"OneHandEach$Reader", "joined", "(II)V"⟩ ∈ m_ws := m_at 2 (by decide +kernel) rfl
theorem q_3 : Cond.selects "OneHandEach$Reader" ⟨"OneHandEach$Reader", "operand", "(I)V"⟩ ⟨"OneHandEach$Reader", "operand", "(I)V"⟩ ∈ m_ws := m_at 3 (by decide +kernel) rfl
theorem q_4 : Cond.selects "OneHandEach$Reader" ⟨"OneHandEach$Reader", "here", "()I"⟩ ⟨"OneHandEach$Reader", "here", "()I"⟩ ∈ m_ws := m_at 4 (by decide +kernel) rfl
theorem q_5 : Cond.selects "OneHandEach$Reader" ⟨"OneHandEach$Reader", "number", "()V"⟩ ⟨"OneHandEach$Reader", "number", "()V"⟩ ∈ m_ws := m_at 5 (by decide +kernel) rfl
theorem q_6 : Cond.selects "OneHandEach$Reader" ⟨"OneHandEach$Reader", "close", "()V"⟩ ⟨"OneHandEach$Reader", "close", "()V"⟩ ∈ m_ws := m_at 6 (by decide +kernel) rfl
theorem q_7 : Cond.selects "OneHandEach$Reader" ⟨"OneHandEach$Reader", "takes", "(I)Z"⟩ ⟨"OneHandEach$Reader", "takes", "(I)Z"⟩ ∈ m_ws := m_at 7 (by decide +kernel) rfl
theorem q_8 : Cond.selects "OneHandEach" ⟨"OneHandEach", "weightOf", "(I)I"⟩ ⟨"OneHandEach", "weightOf", "(I)I"⟩ ∈ m_ws := m_at 8 (by decide +kernel) rfl
theorem q_9 : Cond.selects "OneHandEach$Law" ⟨"OneHandEach$Law", "valueOf", "(III)I"⟩ ⟨"OneHandEach$Law", "valueOf", "(III)I"⟩ ∈ m_ws := m_at 9 (by decide +kernel) rfl
theorem q_10 : Cond.selects "OneHandEach$Law" ⟨"OneHandEach$Law", "push", "(II)I"⟩ ⟨"OneHandEach$Law", "push", "(II)I"⟩ ∈ m_ws := m_at 10 (by decide +kernel) rfl
theorem q_11 : Cond.selects "OneHandEach$Law" ⟨"OneHandEach$Law", "workOut", "(II)I"⟩ ⟨"OneHandEach$Law", "workOut", "(II)I"⟩ ∈ m_ws := m_at 11 (by decide +kernel) rfl
theorem q_12 : Cond.selects "OneHandEach$Entries" ⟨"OneHandEach$Entries", "lay", "(II)V"⟩ ⟨"OneHandEach$Entries", "lay", "(II)V"⟩ ∈ m_ws := m_at 12 (by decide +kernel) rfl
theorem q_13 : Cond.selects "OneHandEach" ⟨"OneHandEach", "sightsFrom", "(LOneHandEach$Shelf;II)I"⟩ ⟨"OneHandEach", "sightsFrom", "(LOneHandEach$Shelf;II)I"⟩ ∈ m_ws := m_at 13 (by decide +kernel) rfl
theorem q_14 : Cond.selects "OneHandEach$Fitting" ⟨"OneHandEach$Fitting", "startAnew", "()V"⟩ ⟨"OneHandEach$Fitting", "startAnew", "()V"⟩ ∈ m_ws := m_at 14 (by decide +kernel) rfl
theorem q_15 : Cond.selects "OneHandEach$Fitting" ⟨"OneHandEach$Fitting", "strike", "(LOneHandEach$Town;IIII)V"⟩ ⟨"OneHandEach$Fitting", "strike", "(LOneHandEach$Town;IIII)V"⟩ ∈ m_ws := m_at 15 (by decide +kernel) rfl
theorem q_16 : Cond.selects "OneHandEach" ⟨"OneHandEach", "weightOfFits", "(II)I"⟩ ⟨"OneHandEach", "weightOfFits", "(II)I"⟩ ∈ m_ws := m_at 16 (by decide +kernel) rfl
theorem q_17 : Cond.selects "OneHandEach$Guesses" ⟨"OneHandEach$Guesses", "note", "(II)V"⟩ ⟨"OneHandEach$Guesses", "note", "(II)V"⟩ ∈ m_ws := m_at 17 (by decide +kernel) rfl
theorem q_18 : Cond.selects "OneHandEach" ⟨"OneHandEach", "refusalOfRow", "(I)I"⟩ ⟨"OneHandEach", "refusalOfRow", "(I)I"⟩ ∈ m_ws := m_at 18 (by decide +kernel) rfl
theorem q_19 : Cond.selects "OneHandEach" ⟨"OneHandEach", "isSo", "(LOneHandEach$Shelf;I)Z"⟩ ⟨"OneHandEach", "isSo", "(LOneHandEach$Shelf;I)Z"⟩ ∈ m_ws := m_at 19 (by decide +kernel) rfl
theorem q_20 : Cond.selects "OneHandEach$Bodies" ⟨"OneHandEach$Bodies", "own", "(IIII)I"⟩ ⟨"OneHandEach$Bodies", "own", "(IIII)I"⟩ ∈ m_ws := m_at 20 (by decide +kernel) rfl
theorem q_21 : Cond.selects "OneHandEach$Bodies" ⟨"OneHandEach$Bodies", "from", "(IIIII)I"⟩ ⟨"OneHandEach$Bodies", "from", "(IIIII)I"⟩ ∈ m_ws := m_at 21 (by decide +kernel) rfl
theorem q_22 : Cond.selects "OneHandEach$Bodies" ⟨"OneHandEach$Bodies", "run", "(IIIII)I"⟩ ⟨"OneHandEach$Bodies", "run", "(IIIII)I"⟩ ∈ m_ws := m_at 22 (by decide +kernel) rfl
theorem q_23 : Cond.selects "OneHandEach" ⟨"OneHandEach", "refusalOfPlace", "(II)I"⟩ ⟨"OneHandEach", "refusalOfPlace", "(II)I"⟩ ∈ m_ws := m_at 23 (by decide +kernel) rfl
theorem q_24 : Cond.selects "OneHandEachModel" ⟨"OneHandEachModel", "show", "(II)I"⟩ ⟨"OneHandEachModel", "show", "(II)I"⟩ ∈ m_ws := m_at 24 (by decide +kernel) rfl
theorem q_25 : Cond.selects "OneHandEachModel" ⟨"OneHandEachModel", "partAt", "(II)I"⟩ ⟨"OneHandEachModel", "partAt", "(II)I"⟩ ∈ m_ws := m_at 25 (by decide +kernel) rfl
theorem q_26 : Cond.selects "OneHandEachModel" ⟨"OneHandEachModel", "lays", "(III)V"⟩ ⟨"OneHandEachModel", "lays", "(III)V"⟩ ∈ m_ws := m_at 26 (by decide +kernel) rfl
theorem q_27 : Cond.selects "OneHandEachModel" ⟨"OneHandEachModel", "changes", "(III)I"⟩ ⟨"OneHandEachModel", "changes", "(III)I"⟩ ∈ m_ws := m_at 27 (by decide +kernel) rfl
theorem q_28 : Cond.selects "OneHandEachModel" ⟨"OneHandEachModel", "valueAt", "(II)I"⟩ ⟨"OneHandEachModel", "valueAt", "(II)I"⟩ ∈ m_ws := m_at 28 (by decide +kernel) rfl
theorem q_29 : Cond.selects "OneHandEachModel" ⟨"OneHandEachModel", "addSight", "(IIII)I"⟩ ⟨"OneHandEachModel", "addSight", "(IIII)I"⟩ ∈ m_ws := m_at 29 (by decide +kernel) rfl
theorem q_30 : Cond.selects "OneHandEachModel" ⟨"OneHandEachModel", "readText", "(I)I"⟩ ⟨"OneHandEachModel", "readText", "(I)I"⟩ ∈ m_ws := m_at 30 (by decide +kernel) rfl
theorem q_31 : Cond.selects "OneHandEachModel" ⟨"OneHandEachModel", "line", "()V"⟩ ⟨"OneHandEachModel", "line", "()V"⟩ ∈ m_ws := m_at 31 (by decide +kernel) rfl
theorem q_32 : Cond.selects "OneHandEachModel" ⟨"OneHandEachModel", "either", "()V"⟩ ⟨"OneHandEachModel", "either", "()V"⟩ ∈ m_ws := m_at 32 (by decide +kernel) rfl
theorem q_33 : Cond.selects "OneHandEachModel" ⟨"OneHandEachModel", "both", "()V"⟩ ⟨"OneHandEachModel", "both", "()V"⟩ ∈ m_ws := m_at 33 (by decide +kernel) rfl
theorem q_34 : Cond.selects "OneHandEachModel" ⟨"OneHandEachModel", "compared", "()V"⟩ ⟨"OneHandEachModel", "compared", "()V"⟩ ∈ m_ws := m_at 34 (by decide +kernel) rfl
theorem q_35 : Cond.selects "OneHandEachModel" ⟨"OneHandEachModel", "sum", "()V"⟩ ⟨"OneHandEachModel", "sum", "()V"⟩ ∈ m_ws := m_at 35 (by decide +kernel) rfl
theorem q_36 : Cond.selects "OneHandEachModel" ⟨"OneHandEachModel", "product", "()V"⟩ ⟨"OneHandEachModel", "product", "()V"⟩ ∈ m_ws := m_at 36 (by decide +kernel) rfl
theorem q_37 : Cond.selects "OneHandEachModel" ⟨"OneHandEachModel", "operand", "()V"⟩ ⟨"OneHandEachModel", "operand", "()V"⟩ ∈ m_ws := m_at 37 (by decide +kernel) rfl
theorem q_38 : Cond.selects "OneHandEachModel" ⟨"OneHandEachModel", "look", "()I"⟩ ⟨"OneHandEachModel", "look", "()I"⟩ ∈ m_ws := m_at 38 (by decide +kernel) rfl
theorem q_39 : Cond.selects "OneHandEachModel" ⟨"OneHandEachModel", "addStep", "(II)V"⟩ ⟨"OneHandEachModel", "addStep", "(II)V"⟩ ∈ m_ws := m_at 39 (by decide +kernel) rfl
theorem q_40 : Cond.selects "OneHandEachModel" ⟨"OneHandEachModel", "opens", "()Z"⟩ ⟨"OneHandEachModel", "opens", "()Z"⟩ ∈ m_ws := m_at 40 (by decide +kernel) rfl
theorem q_41 : Cond.selects "OneHandEachModel" ⟨"OneHandEachModel", "faulty", "()V"⟩ ⟨"OneHandEachModel", "faulty", "()V"⟩ ∈ m_ws := m_at 41 (by decide +kernel) rfl
theorem q_42 : Cond.selects "OneHandEachModel" ⟨"OneHandEachModel", "figure", "()V"⟩ ⟨"OneHandEachModel", "figure", "()V"⟩ ∈ m_ws := m_at 42 (by decide +kernel) rfl
theorem q_43 : Cond.selects "OneHandEachModel" ⟨"OneHandEachModel", "weightOf", "(I)I"⟩ ⟨"OneHandEachModel", "weightOf", "(I)I"⟩ ∈ m_ws := m_at 43 (by decide +kernel) rfl
theorem q_44 : Cond.selects "OneHandEachModel" ⟨"OneHandEachModel", "gives", "(I)I"⟩ ⟨"OneHandEachModel", "gives", "(I)I"⟩ ∈ m_ws := m_at 44 (by decide +kernel) rfl
theorem q_45 : Cond.selects "OneHandEachModel" ⟨"OneHandEachModel", "worked", "(III)I"⟩ ⟨"OneHandEachModel", "worked", "(III)I"⟩ ∈ m_ws := m_at 45 (by decide +kernel) rfl
theorem q_46 : Cond.selects "OneHandEachModel" ⟨"OneHandEachModel", "findFits", "(I)V"⟩ ⟨"OneHandEachModel", "findFits", "(I)V"⟩ ∈ m_ws := m_at 46 (by decide +kernel) rfl
theorem q_47 : Cond.selects "OneHandEachModel" ⟨"OneHandEachModel", "isSeen", "(II)Z"⟩ ⟨"OneHandEachModel", "isSeen", "(II)Z"⟩ ∈ m_ws := m_at 47 (by decide +kernel) rfl
theorem q_48 : Cond.selects "OneHandEachModel" ⟨"OneHandEachModel", "isNear", "(II)Z"⟩ ⟨"OneHandEachModel", "isNear", "(II)Z"⟩ ∈ m_ws := m_at 48 (by decide +kernel) rfl
theorem q_49 : Cond.selects "OneHandEachModel" ⟨"OneHandEachModel", "mostAlike", "(II)I"⟩ ⟨"OneHandEachModel", "mostAlike", "(II)I"⟩ ∈ m_ws := m_at 49 (by decide +kernel) rfl
theorem q_50 : Cond.selects "OneHandEachModel" ⟨"OneHandEachModel", "draw", "(I)I"⟩ ⟨"OneHandEachModel", "draw", "(I)I"⟩ ∈ m_ws := m_at 50 (by decide +kernel) rfl
theorem q_51 : Cond.selects "OneHandEachModel" ⟨"OneHandEachModel", "walksSo", "(III)Z"⟩ ⟨"OneHandEachModel", "walksSo", "(III)Z"⟩ ∈ m_ws := m_at 51 (by decide +kernel) rfl
theorem q_52 : Cond.selects "OneHandEachModel" ⟨"OneHandEachModel", "wrongBy", "(III)I"⟩ ⟨"OneHandEachModel", "wrongBy", "(III)I"⟩ ∈ m_ws := m_at 52 (by decide +kernel) rfl
theorem q_53 : Cond.selects "OneHandEachModel" ⟨"OneHandEachModel", "meets", "(III)I"⟩ ⟨"OneHandEachModel", "meets", "(III)I"⟩ ∈ m_ws := m_at 53 (by decide +kernel) rfl
theorem q_54 : Cond.selects "OneHandEachModel" ⟨"OneHandEachModel", "isBody", "(I)Z"⟩ ⟨"OneHandEachModel", "isBody", "(I)Z"⟩ ∈ m_ws := m_at 54 (by decide +kernel) rfl
theorem q_55 : Cond.selects "OneHandEachModel" ⟨"OneHandEachModel", "showing", "(II)I"⟩ ⟨"OneHandEachModel", "showing", "(II)I"⟩ ∈ m_ws := m_at 55 (by decide +kernel) rfl
theorem q_56 : Cond.selects "OneHandEachModel" ⟨"OneHandEachModel", "ran", "(I)V"⟩ ⟨"OneHandEachModel", "ran", "(I)V"⟩ ∈ m_ws := m_at 56 (by decide +kernel) rfl
theorem q_57 : Cond.selects "OneHandEachModel" ⟨"OneHandEachModel", "plainShows", "(II)I"⟩ ⟨"OneHandEachModel", "plainShows", "(II)I"⟩ ∈ m_ws := m_at 57 (by decide +kernel) rfl
theorem q_58 : Cond.selects "OneHandEachModel" ⟨"OneHandEachModel", "boyShows", "(II)I"⟩ ⟨"OneHandEachModel", "boyShows", "(II)I"⟩ ∈ m_ws := m_at 58 (by decide +kernel) rfl
theorem q_59 : Cond.selects "OneHandEachModel" ⟨"OneHandEachModel", "parting", "(II)I"⟩ ⟨"OneHandEachModel", "parting", "(II)I"⟩ ∈ m_ws := m_at 59 (by decide +kernel) rfl
theorem q_60 : Cond.selects "OneHandEachModel" ⟨"OneHandEachModel", "hillParts", "(II)I"⟩ ⟨"OneHandEachModel", "hillParts", "(II)I"⟩ ∈ m_ws := m_at 60 (by decide +kernel) rfl
theorem q_61 : Cond.selects "OneHandEachModel" ⟨"OneHandEachModel", "plainParts", "(II)I"⟩ ⟨"OneHandEachModel", "plainParts", "(II)I"⟩ ∈ m_ws := m_at 61 (by decide +kernel) rfl
theorem q_62 : Cond.selects "OneHandEachModel" ⟨"OneHandEachModel", "walking", "(II)I"⟩ ⟨"OneHandEachModel", "walking", "(II)I"⟩ ∈ m_ws := m_at 62 (by decide +kernel) rfl
theorem q_63 : Cond.selects "OneHandEachModel" ⟨"OneHandEachModel", "fogWalks", "(II)I"⟩ ⟨"OneHandEachModel", "fogWalks", "(II)I"⟩ ∈ m_ws := m_at 63 (by decide +kernel) rfl
theorem q_64 : Cond.selects "OneHandEachModel" ⟨"OneHandEachModel", "plainWalks", "(II)I"⟩ ⟨"OneHandEachModel", "plainWalks", "(II)I"⟩ ∈ m_ws := m_at 64 (by decide +kernel) rfl
theorem q_65 : Cond.selects "OneHandEachModel" ⟨"OneHandEachModel", "telling", "(II)I"⟩ ⟨"OneHandEachModel", "telling", "(II)I"⟩ ∈ m_ws := m_at 65 (by decide +kernel) rfl
theorem q_66 : Cond.selects "OneHandEachModel" ⟨"OneHandEachModel", "plainTells", "(II)I"⟩ ⟨"OneHandEachModel", "plainTells", "(II)I"⟩ ∈ m_ws := m_at 66 (by decide +kernel) rfl
theorem q_67 : Cond.selects "OneHandEachModel" ⟨"OneHandEachModel", "whyNoPlace", "(II)I"⟩ ⟨"OneHandEachModel", "whyNoPlace", "(II)I"⟩ ∈ m_ws := m_at 67 (by decide +kernel) rfl
theorem q_171 : (Jvm.Cond.fieldLinkNest "OneHandEach$Law" (31 : Nat) "OneHandEach$Reader" "length" "I" "OneHandEach") ∈ m_nw := m_nwat 0 (by decide +kernel)
theorem q_374 : (Jvm.Cond.methodLinkNest "OneHandEach$Town" (21 : Nat) ({ cls := "OneHandEach", name := "isClock", desc := "(I)Z" } : Jvm.MethodName) "OneHandEach") ∈ m_nw := m_nwat 1 (by decide +kernel)
theorem q_398 : (Jvm.Cond.methodLinkNest "OneHandEach$Entries" (33 : Nat) ({ cls := "OneHandEach", name := "isOneOf", desc := "(II)Z" } : Jvm.MethodName) "OneHandEach") ∈ m_nw := m_nwat 2 (by decide +kernel)
theorem q_602 : (Jvm.Cond.methodLinkNest "OneHandEach$Fitting" (51 : Nat) ({ cls := "OneHandEach", name := "isSight", desc := "(IIII)Z" } : Jvm.MethodName) "OneHandEach") ∈ m_nw := m_nwat 3 (by decide +kernel)
theorem q_647 : (Jvm.Cond.methodLinkNest "OneHandEach$Fitting" (59 : Nat) ({ cls := "OneHandEach", name := "isPart", desc := "(I)Z" } : Jvm.MethodName) "OneHandEach") ∈ m_nw := m_nwat 4 (by decide +kernel)
theorem q_799 : (Jvm.Cond.methodLinkNest "OneHandEach$Bodies" (22 : Nat) ({ cls := "OneHandEach", name := "isOneOf", desc := "(II)Z" } : Jvm.MethodName) "OneHandEach") ∈ m_nw := m_nwat 5 (by decide +kernel)
