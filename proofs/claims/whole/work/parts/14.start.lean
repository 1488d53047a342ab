/-! from the claim's start to the small machine -/
theorem m_known (l : Launch) {s : State} {b : Nat} (hts : ∀ w ∈ lw_tbl, w.before #[Value.ref b] s = true) : ∃ (dC : Nat → ClassId) (dI : Nat → Nat → Nat), ∀ (k : Nat) (q : vw_C), vwCl[k]? = some q → u_Kn s q.1 q.2.1 q.2.2 (dC k) (dI k) := by
  have hm : ∀ w ∈ m_ws, w.before #[Value.ref b] s = true := fun w hw => hts w (m_good w hw).1
  have key : ∀ k : Nat, ∃ (c : ClassId) (iS : Nat → Nat), ∀ q : vw_C, vwCl[k]? = some q → u_Kn s q.1 q.2.1 q.2.2 c iS := by
    intro k
    by_cases hk : k < 13
    · have all : ∀ (C : String) (T : u_T) (N : Nat), (∀ w ∈ u_ws C T N, w ∈ m_ws) → Cond.instantiable C N ∈ m_ws → vwCl[k]? = some (C, T, N) → ∃ (c : ClassId) (iS : Nat → Nat), ∀ q : vw_C, vwCl[k]? = some q → u_Kn s q.1 q.2.1 q.2.2 c iS := by
        intro C T N h1 h2 h3
        obtain ⟨c, iS, hK⟩ := u_known (C := C) (T := T) (N := N) (n := N) hm h1 (hm _ h2)
        exact ⟨c, iS, fun q hq => by rw [h3] at hq; cases hq; exact hK⟩
      match k, hk with
      | 0, _ => exact all RX0 TX0 4 ix_0 q_287 rfl
      | 1, _ => exact all RX1 TX1 5 ix_1 q_232 rfl
      | 2, _ => exact all RX2 TX2 4 ix_2 q_116 rfl
      | 3, _ => exact all RX3 TX3 3 ix_3 q_203 rfl
      | 4, _ => exact all RX4 TX4 1 ix_4 q_221 rfl
      | 5, _ => exact all RX5 TX5 6 ix_5 q_255 rfl
      | 6, _ => exact all RX6 TX6 4 ix_6 q_138 rfl
      | 7, _ => exact all RX7 TX7 3 ix_7 q_150 rfl
      | 8, _ => exact all RX8 TX8 5 ix_8 q_144 rfl
      | 9, _ => exact all RX9 TX9 5 ix_9 q_310 rfl
      | 10, _ => exact all RX10 TX10 3 ix_10 q_94 rfl
      | 11, _ => exact all RX11 TX11 10 ix_11 q_86 rfl
      | 12, _ => exact all RX12 TX12 57 ix_12 q_875 rfl
      | k + 13, hk => omega
    · exact ⟨0, fun _ => 0, fun q hq => by rw [List.getElem?_eq_none (by show 13 ≤ k; omega)] at hq; cases hq⟩
  exact ⟨fun k => Classical.choose (key k), fun k => Classical.choose (Classical.choose_spec (key k)), fun k q hq => Classical.choose_spec (Classical.choose_spec (key k)) q hq⟩
set_option maxRecDepth 100000 in
theorem m_arr {s : State} {b : Nat} (hts : ∀ w ∈ lw_tbl, w.before #[Value.ref b] s = true) : ∃ t : Nat → ClassId, ∀ (k : Nat) (q : ClassId × FieldType), (m_tys t)[k]? = some q → ArrOfT s q.1 q.2 ∧ va_RA s q.1 q.2 := by
  have hm : ∀ w ∈ m_ws, w.before #[Value.ref b] s = true := fun w hw => hts w (m_good w hw).1
  obtain ⟨c0, k0, p0, a0, b0, d0⟩ := Cond.arrayClass_spec (hm _ q_114)
  obtain ⟨c1, k1, p1, a1, b1, d1⟩ := Cond.arrayClass_spec (hm _ q_219)
  obtain ⟨c2, k2, p2, a2, b2, d2⟩ := Cond.arrayClass_spec (hm _ q_1051)
  obtain ⟨c3, k3, p3, a3, b3, d3⟩ := Cond.arrayClass_spec (hm _ q_1052)
  obtain ⟨c4, k4, p4, a4, b4, d4⟩ := Cond.arrayClass_spec (hm _ q_335)
  obtain ⟨p5, c5, k5, a5, e5, b5, d5, f5⟩ := Cond.arrayOver_spec (hts (Cond.arrayOver (.object "OneHandEach$Shelf")) (List.mem_of_getElem? (i := 309) rfl))
  refine ⟨fun k => match k with | 0 => c0 | 1 => c1 | 2 => c2 | 3 => c3 | 4 => c4 | _ => c5, fun k q hq => ?_⟩
  match k, hq with
  | 0, hq => cases hq; exact ⟨fun n z => ⟨fun k h => (by cases h), k0, b0, p0, d0⟩, a0⟩
  | 1, hq => cases hq; exact ⟨fun n z => ⟨fun k h => (by cases h), k1, b1, p1, d1⟩, a1⟩
  | 2, hq => cases hq; exact ⟨fun n z => ⟨fun k h => (by cases h), k2, b2, p2, d2⟩, a2⟩
  | 3, hq => cases hq; exact ⟨fun n z => ⟨fun k h => (by cases h), k3, b3, p3, d3⟩, a3⟩
  | 4, hq => cases hq; exact ⟨fun n z => ⟨fun k h => (by cases h), k4, b4, p4, d4⟩, a4⟩
  | 5, hq => cases hq; exact ⟨fun n z => ⟨fun k h => (by cases h), k5, b5, p5, d5⟩, k5, p5, b5, d5, a5, f5⟩
  | k + 6, hq => cases hq
set_option maxRecDepth 100000 in
/-- the static rows, as the statement gives them -/
theorem m_stat {s : State} {b : Nat} (hts : ∀ w ∈ lw_tbl, w.before #[Value.ref b] s = true) (hgv : (Jvm.Cond.and given_1 narrow_1).before #[Value.ref b] s = true) : ∃ u1 u2 : Nat,
    (va_Z "OneHandEach$Bodies" "OWN" "[I" (.ref u1) (fun q => s.heap.size ≤ q) s s.heap ∧ va_T .int u1 32 (fun j => .int (m_own j)) (fun q => s.heap.size ≤ q) s s.heap) ∧
    (va_Z "OneHandEach$Bodies" "ABOVE" "[I" (.ref u2) (fun q => s.heap.size ≤ q) s s.heap ∧ va_T .int u2 8 (fun j => .int (m_abv j)) (fun q => s.heap.size ≤ q) s s.heap) := by
  have hf := flat_of_before _ hgv
  have hA : ∀ a : Nat, a < s.heap.size → ¬ s.heap.size ≤ a := fun a h => by omega
  have e1 : ∀ j : Nat, j < 32 → (Term.elem (.static "OneHandEach$Bodies" "OWN" "[I") (.int (Int32.ofNat j))).eval #[Value.ref b] s none [] s = some (.int (m_own j)) := by
    intro j hj
    match j, hj with
    | 0, _ => exact va_eqt (hf (Cond.eq (.elem (.static "OneHandEach$Bodies" "OWN" "[I") (.int 0)) (.int 1)) (by decide +kernel))
    | 1, _ => exact va_eqt (hf (Cond.eq (.elem (.static "OneHandEach$Bodies" "OWN" "[I") (.int 1)) (.int 10)) (by decide +kernel))
    | 2, _ => exact va_eqt (hf (Cond.eq (.elem (.static "OneHandEach$Bodies" "OWN" "[I") (.int 2)) (.int 11)) (by decide +kernel))
    | 3, _ => exact va_eqt (hf (Cond.eq (.elem (.static "OneHandEach$Bodies" "OWN" "[I") (.int 3)) (.int 2)) (by decide +kernel))
    | 4, _ => exact va_eqt (hf (Cond.eq (.elem (.static "OneHandEach$Bodies" "OWN" "[I") (.int 4)) (.int 20)) (by decide +kernel))
    | 5, _ => exact va_eqt (hf (Cond.eq (.elem (.static "OneHandEach$Bodies" "OWN" "[I") (.int 5)) (.int 0)) (by decide +kernel))
    | 6, _ => exact va_eqt (hf (Cond.eq (.elem (.static "OneHandEach$Bodies" "OWN" "[I") (.int 6)) (.int 0)) (by decide +kernel))
    | 7, _ => exact va_eqt (hf (Cond.eq (.elem (.static "OneHandEach$Bodies" "OWN" "[I") (.int 7)) (.int 0)) (by decide +kernel))
    | 8, _ => exact va_eqt (hf (Cond.eq (.elem (.static "OneHandEach$Bodies" "OWN" "[I") (.int 8)) (.int 0)) (by decide +kernel))
    | 9, _ => exact va_eqt (hf (Cond.eq (.elem (.static "OneHandEach$Bodies" "OWN" "[I") (.int 9)) (.int 30)) (by decide +kernel))
    | 10, _ => exact va_eqt (hf (Cond.eq (.elem (.static "OneHandEach$Bodies" "OWN" "[I") (.int 10)) (.int 0)) (by decide +kernel))
    | 11, _ => exact va_eqt (hf (Cond.eq (.elem (.static "OneHandEach$Bodies" "OWN" "[I") (.int 11)) (.int 0)) (by decide +kernel))
    | 12, _ => exact va_eqt (hf (Cond.eq (.elem (.static "OneHandEach$Bodies" "OWN" "[I") (.int 12)) (.int 0)) (by decide +kernel))
    | 13, _ => exact va_eqt (hf (Cond.eq (.elem (.static "OneHandEach$Bodies" "OWN" "[I") (.int 13)) (.int 41)) (by decide +kernel))
    | 14, _ => exact va_eqt (hf (Cond.eq (.elem (.static "OneHandEach$Bodies" "OWN" "[I") (.int 14)) (.int 40)) (by decide +kernel))
    | 15, _ => exact va_eqt (hf (Cond.eq (.elem (.static "OneHandEach$Bodies" "OWN" "[I") (.int 15)) (.int 0)) (by decide +kernel))
    | 16, _ => exact va_eqt (hf (Cond.eq (.elem (.static "OneHandEach$Bodies" "OWN" "[I") (.int 16)) (.int 0)) (by decide +kernel))
    | 17, _ => exact va_eqt (hf (Cond.eq (.elem (.static "OneHandEach$Bodies" "OWN" "[I") (.int 17)) (.int 0)) (by decide +kernel))
    | 18, _ => exact va_eqt (hf (Cond.eq (.elem (.static "OneHandEach$Bodies" "OWN" "[I") (.int 18)) (.int 0)) (by decide +kernel))
    | 19, _ => exact va_eqt (hf (Cond.eq (.elem (.static "OneHandEach$Bodies" "OWN" "[I") (.int 19)) (.int 50)) (by decide +kernel))
    | 20, _ => exact va_eqt (hf (Cond.eq (.elem (.static "OneHandEach$Bodies" "OWN" "[I") (.int 20)) (.int 0)) (by decide +kernel))
    | 21, _ => exact va_eqt (hf (Cond.eq (.elem (.static "OneHandEach$Bodies" "OWN" "[I") (.int 21)) (.int 0)) (by decide +kernel))
    | 22, _ => exact va_eqt (hf (Cond.eq (.elem (.static "OneHandEach$Bodies" "OWN" "[I") (.int 22)) (.int 60)) (by decide +kernel))
    | 23, _ => exact va_eqt (hf (Cond.eq (.elem (.static "OneHandEach$Bodies" "OWN" "[I") (.int 23)) (.int 61)) (by decide +kernel))
    | 24, _ => exact va_eqt (hf (Cond.eq (.elem (.static "OneHandEach$Bodies" "OWN" "[I") (.int 24)) (.int 70)) (by decide +kernel))
    | 25, _ => exact va_eqt (hf (Cond.eq (.elem (.static "OneHandEach$Bodies" "OWN" "[I") (.int 25)) (.int 0)) (by decide +kernel))
    | 26, _ => exact va_eqt (hf (Cond.eq (.elem (.static "OneHandEach$Bodies" "OWN" "[I") (.int 26)) (.int 0)) (by decide +kernel))
    | 27, _ => exact va_eqt (hf (Cond.eq (.elem (.static "OneHandEach$Bodies" "OWN" "[I") (.int 27)) (.int 0)) (by decide +kernel))
    | 28, _ => exact va_eqt (hf (Cond.eq (.elem (.static "OneHandEach$Bodies" "OWN" "[I") (.int 28)) (.int 81)) (by decide +kernel))
    | 29, _ => exact va_eqt (hf (Cond.eq (.elem (.static "OneHandEach$Bodies" "OWN" "[I") (.int 29)) (.int 80)) (by decide +kernel))
    | 30, _ => exact va_eqt (hf (Cond.eq (.elem (.static "OneHandEach$Bodies" "OWN" "[I") (.int 30)) (.int 0)) (by decide +kernel))
    | 31, _ => exact va_eqt (hf (Cond.eq (.elem (.static "OneHandEach$Bodies" "OWN" "[I") (.int 31)) (.int 0)) (by decide +kernel))
    | j + 32, hj => omega
  have e2 : ∀ j : Nat, j < 8 → (Term.elem (.static "OneHandEach$Bodies" "ABOVE" "[I") (.int (Int32.ofNat j))).eval #[Value.ref b] s none [] s = some (.int (m_abv j)) := by
    intro j hj
    match j, hj with
    | 0, _ => exact va_eqt (hf (Cond.eq (.elem (.static "OneHandEach$Bodies" "ABOVE" "[I") (.int 0)) (.int (-1))) (by decide +kernel))
    | 1, _ => exact va_eqt (hf (Cond.eq (.elem (.static "OneHandEach$Bodies" "ABOVE" "[I") (.int 1)) (.int 0)) (by decide +kernel))
    | 2, _ => exact va_eqt (hf (Cond.eq (.elem (.static "OneHandEach$Bodies" "ABOVE" "[I") (.int 2)) (.int 0)) (by decide +kernel))
    | 3, _ => exact va_eqt (hf (Cond.eq (.elem (.static "OneHandEach$Bodies" "ABOVE" "[I") (.int 3)) (.int 2)) (by decide +kernel))
    | 4, _ => exact va_eqt (hf (Cond.eq (.elem (.static "OneHandEach$Bodies" "ABOVE" "[I") (.int 4)) (.int 1)) (by decide +kernel))
    | 5, _ => exact va_eqt (hf (Cond.eq (.elem (.static "OneHandEach$Bodies" "ABOVE" "[I") (.int 5)) (.int 3)) (by decide +kernel))
    | 6, _ => exact va_eqt (hf (Cond.eq (.elem (.static "OneHandEach$Bodies" "ABOVE" "[I") (.int 6)) (.int 0)) (by decide +kernel))
    | 7, _ => exact va_eqt (hf (Cond.eq (.elem (.static "OneHandEach$Bodies" "ABOVE" "[I") (.int 7)) (.int 6)) (by decide +kernel))
    | j + 8, hj => omega
  obtain ⟨u1, h1, h2⟩ := va_Tof (N := 32) (f := fun j => .int (m_own j)) (by decide) (hf (Cond.arrayOf (.static "OneHandEach$Bodies" "OWN" "[I") .int) (by decide +kernel)) (va_eqt (hf (Cond.eq (.length (.static "OneHandEach$Bodies" "OWN" "[I")) (.int 32)) (by decide +kernel))) e1 hA
  obtain ⟨u2, h3, h4⟩ := va_Tof (N := 8) (f := fun j => .int (m_abv j)) (by decide) (hf (Cond.arrayOf (.static "OneHandEach$Bodies" "ABOVE" "[I") .int) (by decide +kernel)) (va_eqt (hf (Cond.eq (.length (.static "OneHandEach$Bodies" "ABOVE" "[I")) (.int 8)) (by decide +kernel))) e2 hA
  have hini := hts (Cond.initialized "OneHandEach$Bodies") (List.mem_of_getElem? (i := 79) rfl)
  exact ⟨u1, u2, ⟨va_Zref (hts (Cond.laysStatic "OneHandEach$Bodies" "OWN" "[I") (List.mem_of_getElem? (i := 813) rfl)) hini h1 hA, h2⟩, ⟨va_Zref (hts (Cond.laysStatic "OneHandEach$Bodies" "ABOVE" "[I") (List.mem_of_getElem? (i := 815) rfl)) hini h3 hA, h4⟩⟩

/-! THE CLAIM OUT OF ONE WALK OF THE LAW'S BODY. Your part is whole_start (and what it stands on); all else here is the same for every law, but numbers. -/
def R_law : String := "OneHandEachLaw"
def lw_P (b : Addr) (xs : List Int32) (args : Array Value) (s : State) : Prop := args = #[.ref b] ∧ s.IntsAt b xs ∧ xs.length ≤ 3072 ∧ (Jvm.Cond.and given_1 narrow_1).before args s = true
def lw_Q (_ : Array Value) (s : State) (o : Outcome) (t : State) : Prop := o = .returned (some (.int 1)) ∧ Framed s o t [] 600000 7302250
def lw_Z (below : List Frame) (a : Array Value) (s : State) : State → Prop := fun t => ∃ o, t.status = .running ∧ Ended t below o ∧ lw_Q a s o t
/-- the law's own end, with 1 on the stack, nothing written that was there before, its room as the claim has it -/
theorem lw_ret {p : Program} {l : Launch} {e : Env} {s : State} {m : MethodId} {below : List Frame} {meth : Method} {c : Code} {b : Nat} (hx : p.tables.exec = Jvm.exec) (hb : c.code = code) (hr : meth.sig.returnType = ret) (hlocks : meth.locks = false) {pc : Nat} {H : Heap} {ls : Array Slot} (hdg : decode code pc = .ok (.ireturn, 1)) : W p l e room_1 s m #[Value.ref b] below meth c H [] 600000 7302250 (lw_Z below #[Value.ref b] s) (F0 m pc ls [.int 1]) := by
  intro T hT X
  obtain ⟨fs, hret, hrun, hended, hW, hframe⟩ := X.leave (v := some (.int 1)) (hlocks := hlocks) (fun h => by rw [hr] at h; cases h)
  have hmeth' : T.vm.method? m = some meth := X.method'
  refine ⟨T.setFrames fs, ?_, .returned (some (.int 1)), hrun, hended, rfl, ⟨_, rfl⟩, hW, hframe⟩
  jvm_step X.here [X.here.top, hx, hb, hdg, hmeth', hr, ret, narrow_b1]
  (try refine ⟨rfl, ?_⟩); (try refine ⟨rfl, ?_⟩)
  first | (intro acts; rw [hret _ acts rfl rfl rfl]) | rw [hret _ _ rfl rfl rfl]
  exact Steps.refl _
/-- what holds at the law's entry: the machine, the code, the tables' words (any of lw_tbl by 'hts w (by decide +kernel)'), the script of L ints xs at the cell b, what the Statement gives of the start (any of its parts by flat_of_before) -/
def lw_At (p : Program) (s : State) (m : MethodId) (meth : Method) (c : Code) (b L : Nat) (xs : Nat → Int32) : Prop :=
  p.tables.exec = Jvm.exec ∧ c.code = code ∧ meth.sig.returnType = ret ∧ c.maxLocals = 4 ∧ s.vm.findClass R_law = some m.cls ∧ (∀ w ∈ lw_tbl, w.before #[Value.ref b] s = true) ∧ va_X b L xs s s.heap ∧ b < s.heap.size ∧ meth.locks = false ∧ (Jvm.Cond.and given_1 narrow_1).before #[Value.ref b] s = true

set_option maxRecDepth 100000 in
/-- the start of the law, out of what must hold of the contents alone -/
theorem m_start (hpure : ∀ (L : Nat) (xs : Nat → Int32), L ≤ 3072 → ∀ h : mH, w_L_pre h (fun h1 => (∀ q ∈ m_rl, gi h1 q.1 q.2.1 = nI q.2.2) ∧ w_L_main L xs h1 (fun x _ => x = 1)))
    {p : Program} {e : Env} {s : State} {m : MethodId} {below : List Frame} {meth : Method} {c : Code} (l : Launch) {b L : Nat} {xs : Nat → Int32} (hL : L ≤ 3072) (C0 : lw_At p s m meth c b L xs) : W p l e room_1 s m #[Value.ref b] below meth c s.heap [] 0 0 (lw_Z below #[Value.ref b] s) (entryFrame m ([Value.ref b] : List Value).toArray 4) := by
  obtain ⟨hx, hb, hr, hml, hown, hts, hX, hbl, hlocks, hgv⟩ := C0
  obtain ⟨dC, dI, hKn⟩ := m_known l hts
  obtain ⟨t, hKt⟩ := m_arr hts
  obtain ⟨u1, u2, hu1, hu2⟩ := m_stat hts hgv
  obtain ⟨G, hG⟩ : ∃ G : mG, G = (l, (dC, dI), t, s.heap.size, (u1, u2), (b, L, xs)) := ⟨_, rfl⟩
  have hE : mEnv G 0 s := by
    subst hG
    exact ⟨rfl, ⟨hKn, hKt⟩, hu1, hu2, ⟨hX, hbl⟩, fun w hw => va_Nw.of (m_nw_on hw) (hts w (m_nw_in w hw)), va_AO.of (hts (Cond.arrayOver (.object "OneHandEach$Shelf")) (List.mem_of_getElem? (i := 309) rfl))⟩
  have hGb : ad G 1000 = b := by subst hG; rfl
  have hGl : G.1 = l := by subst hG; rfl
  have hGL : G.2.2.2.2.2.2.1 = L := by subst hG; rfl
  have hGx : G.2.2.2.2.2.2.2 = xs := by subst hG; rfl
  subst hGl
  have hl := lv_entry ([.ref b]) (n := 4) (Nat.le_of_ble_eq_true rfl)
  rw [lg_entry_eq]
  have K := s_L_pre (G := G) (h := (fun _ _ => 0, fun _ _ => 0)) (Q := mQi fun x _ => x = 1) (fun h1 hk => m_switch (Q := fun x => x = 1) hk.1 (s_L_main hGL hGx hk.2)) (hpure L xs hL _) p e room_1 s m #[Value.ref b] below meth c s.heap _ [] (lw_Z below #[Value.ref b] s)
    ⟨hx, hb, hr, hlocks, hml, hown, fun w hw => hts w (m_good w hw).1, fun q => absurd (show false = true from q) (by decide), hE, ⟨by decide, by decide⟩, ⟨by decide, by decide⟩, by decide⟩ ⟨by decide, by decide⟩
    ⟨fun k q h => by simp [mWs] at h, ⟨fun i j p q h => by simp [mWs] at h, fun k q h => by simp [mWs] at h⟩, by decide⟩ va_S.rf
    (lv_mono hl (fun q hq => by
      have h1 : q ∈ [(0, tr G (.ref 1000))] := hq
      rw [show tr G (.ref 1000) = .ref b from congrArg Value.ref hGb] at h1
      exact h1))
    (fun v h1 H1 locs1 pc1 la1 hQ hW1 hS1 hRI => by
      obtain ⟨x, rfl, rfl⟩ := hQ
      obtain ⟨-, hd⟩ := hRI
      refine va_forget (fun q hq => ?_) (W.widen (k := 600000) (n := 7302250) (by decide) (by decide) (lw_ret hx hb hr hlocks hd))
      have h2 : mA G q.base := hS1.2.2 q hq
      have h3 := hE.1
      unfold mA at h2
      omega)
  exact K
