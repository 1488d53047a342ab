/-! contracts of the small machine: calls, returns, what is made -/
abbrev mRoom (E : mEn) : Room := { frames := mHt E, cells := mC1 E - mC0 E, slots := m_sl (mC1 E) - m_sl (mC0 E), locals := 64 * mHt E }
abbrev mWsY (y : MethodName) (E : mEn) : List Cond := Cond.code y (mCode E) (mMax E) (mRt E) :: m_ws
def mPre (G : mG) (E : mEn) (h : mH) : State → Prop := fun U => mWorld G E.1 h (mC0 E) U.heap ∧ mEnv G (mC0 E) U
abbrev mPost (G : mG) (E : mEn) : mH → State → Prop := fun h' t => mWorld G E.1 h' (mC1 E) t.heap
theorem Met_ofWF {l : Launch} {y : MethodName} {ws ws' : List Cond} {rm : Room} {Pc : Array Value → State → Prop} {Qc : Array Value → State → Outcome → State → Prop} {mc ms : Nat} {free : Addr → Prop} {cc : ByteArray} {maxL : Nat} {ret : Option FieldType}
    (hy : plainFor y = true) (hw : ws = Cond.code y cc maxL ret :: ws')
    (body : ∀ p e s m args below meth c s₁, BodyLoose p l y (headSpec ws rm) cc maxL ret e s m args below meth c s₁ → c.maxLocals = maxL → Pc args s →
      W p l e (headSpec ws rm).room s m args below meth c s.heap [] 0 0 (MQ below Qc args s mc ms free) (entryFrame m args maxL)) : Met l y ws rm Pc Qc mc ms free := by
  refine MetFree.of_bodySF (code := cc) (maxLocals := maxL) (ret := ret) hy (fun args s m h hn => ?_) (fun p e s m args below meth c s₁ B hml hP _ => ?_)
  · obtain ⟨meth, c, h1, h2, h3, h4, h5, h6, -, -⟩ := Cond.code_spec hn (atoms_spec (ws := ws) h _ (by rw [hw]; exact List.mem_cons_self))
    exact ⟨meth, c, h1, h2, h3, h4, h5, h6⟩
  · have hh0 : s₁.heap = s.heap := by rw [B.state]; rfl
    obtain ⟨t, a1, o, b1, b2, b3⟩ := body p e s m args below meth c s₁ B hml hP s₁ hh0 (Stand.of_body B)
    exact ⟨t, o, a1, b1, b2, b3⟩
def mConI (G : mG) (y : MethodName) (E : mEn) (av : List Value) (h : mH) (Q : Int32 → mH → Prop) : Prop := Met G.1 y (mWsY y E) (mRoom E) (va_Pc (av.map (tr G)) (mPre G E h)) (va_Qi Q (mPost G E) (mA G)) (mC1 E - mC0 E) (m_sl (mC1 E) - m_sl (mC0 E)) (mA G)
def mConL (G : mG) (y : MethodName) (E : mEn) (av : List Value) (h : mH) (Q : Int64 → mH → Prop) : Prop := Met G.1 y (mWsY y E) (mRoom E) (va_Pc (av.map (tr G)) (mPre G E h)) (va_Ql Q (mPost G E) (mA G)) (mC1 E - mC0 E) (m_sl (mC1 E) - m_sl (mC0 E)) (mA G)
def mConV (G : mG) (y : MethodName) (E : mEn) (av : List Value) (h : mH) (Q : mH → Prop) : Prop := Met G.1 y (mWsY y E) (mRoom E) (va_Pc (av.map (tr G)) (mPre G E h)) (va_Qv Q (mPost G E) (mA G)) (mC1 E - mC0 E) (m_sl (mC1 E) - m_sl (mC0 E)) (mA G)
def mQi (Q : Int32 → mH → Prop) : Option Value → mH → Prop := fun v h => ∃ x, v = some (.int x) ∧ Q x h
def mQl (Q : Int64 → mH → Prop) : Option Value → mH → Prop := fun v h => ∃ x, v = some (.long x) ∧ Q x h
def mQv (Q : mH → Prop) : Option Value → mH → Prop := fun v h => v = none ∧ Q h
theorem mPre_blind {G : mG} {E : mEn} {h : mH} {av : List Value} : FrameBlind (va_Pc av (mPre G E h)) := fun a _ g mk q => ⟨q.1, q.2.1, mEnv_call g mk a q.2.2⟩
/-- what every call needs of its callee -/
def mCal (y : MethodName) (i : mI) (n : Nat) : Prop := (Cond.code y i.1 i.2.1 i.2.2.1 ∈ m_ws) ∧ (Cond.initialized y.cls ∈ m_ws) ∧ (y.cls ≠ "java/lang/invoke/MethodHandle" ∧ y.cls ≠ "java/lang/invoke/VarHandle" ∧ (parseMethodDescriptor y.desc).map (fun d => d.parameters.length) = some n) ∧ i.2.1 ≤ 45
def mCalV (y : MethodName) (i : mI) (n : Nat) : Prop := mCal y i n ∧ (Cond.instanceMethod y ∈ m_ws) ∧ (Cond.selects y.cls y y ∈ m_ws)
def mCalS (y : MethodName) (i : mI) (n : Nat) : Prop := mCal y i n ∧ (Cond.static y ∈ m_ws)
def mCalI (y : MethodName) (i : mI) (n : Nat) : Prop := mCal y i n ∧ (Cond.instanceMethod y ∈ m_ws) ∧ y.name = "<init>" ∧ i.2.2.1 = none
section RET
variable {G : mG} {E : mEn} {Q : Option Value → mH → Prop} {cn pc : Nat} {ls : List (Option Value)} {st : List Value} {h : mH}
theorem r_ireturn {x : Int32} {ty : FieldType} {Q : Int32 → mH → Prop} (hd : decode (mCode E) pc = .ok (.ireturn, 1)) (hc : cn = mC1 E) (hrt : mRt E = some ty) (hn : narrow ty (.int x) = .int x) (hQ : Q x h) : Sat G E (mQi Q) cn pc ls [.int x] h := by
  subst hc
  intro p e R s m args below meth c H la locs Qm C9 hcn hW hS hl9 hr
  exact hr (some (.int x)) h H locs pc la ⟨x, rfl, hQ⟩ hW hS ⟨⟨ty, hrt, hn⟩, hd⟩
theorem r_lreturn {x : Int64} {Q : Int64 → mH → Prop} (hd : decode (mCode E) pc = .ok (.lreturn, 1)) (hc : cn = mC1 E) (hrt : mRt E = some .long) (hQ : Q x h) : Sat G E (mQl Q) cn pc ls [.long x] h := by
  subst hc
  intro p e R s m args below meth c H la locs Qm C9 hcn hW hS hl9 hr
  exact hr (some (.long x)) h H locs pc la ⟨x, rfl, hQ⟩ hW hS ⟨hrt, hd⟩
theorem r_return {Q : mH → Prop} (hd : decode (mCode E) pc = .ok (.return_, 1)) (hc : cn = mC1 E) (hrt : mRt E = none) (hQ : Q h) : Sat G E (mQv Q) cn pc ls [] h := by
  subst hc
  intro p e R s m args below meth c H la locs Qm C9 hcn hW hS hl9 hr
  exact hr none h H locs pc la ⟨rfl, hQ⟩ hW hS ⟨hrt, hd⟩
end RET
theorem mConI_of {G : mG} {E : mEn} {y : MethodName} {av : List Value} {h : mH} {Q : Int32 → mH → Prop} {ls : List (Option Value)} (nn : Nat) (hy : plainFor y = true) (hyc : y.cls = mOwn E) (hini : mIni E = true → y.name = "<init>") (hlen : (lg_sl (av.map (tr G))).length ≤ mMax E) (hls : mL0 av ++ List.replicate nn none = ls) (hc : mC0 E ≤ mC1 E) (K : Sat G E (mQi Q) (mC0 E) 0 ls [] h) : mConI G y E av h Q := by
  refine Met_ofWF (cc := mCode E) (maxL := mMax E) (ret := mRt E) hy rfl ?_
  intro p e s m args below meth c s₁ B hml hv
  obtain ⟨rfl, hW, hE⟩ := hv
  have hts := atoms_spec (ws := mWsY y E) B.pre
  have hown : s.vm.findClass (mOwn E) = some m.cls := hyc ▸ findClass_of_methodNamed B.named
  have hl := lv_entry (av.map (tr G)) hlen
  have K1 := K p e (headSpec (mWsY y E) (mRoom E)).room s m _ below meth c s.heap _ [] (MQ below (va_Qi Q (mPost G E) (mA G)) (av.map (tr G)).toArray s (mC1 E - mC0 E) (m_sl (mC1 E) - m_sl (mC0 E)) (mA G))
    ⟨B.exec, B.bytes, B.returns, B.notSynchronized, hml, hown, fun w hw => hts w (List.mem_cons_of_mem _ hw), fun q => (name_of_methodNamed B.named B.method).1.trans (hini q), hE, ⟨Nat.le_refl _, Nat.le_refl _⟩, ⟨Nat.le_refl _, Nat.le_refl _⟩, hc⟩ ⟨Nat.le_refl _, hc⟩ hW va_S.rf
    (lv_mono hl (fun q hq => lA_args av 0 nn q (by rw [hls]; exact hq))) (fun v h1 H1 locs1 pc1 la1 hQ hW1 hS1 hRI => by
      obtain ⟨x, rfl, hQ⟩ := hQ
      obtain ⟨⟨ty, hrt, hn⟩, hdg⟩ := hRI
      exact W.zret B.exec B.bytes (B.returns.trans hrt) hn (fun t ht hWm => ⟨⟨x, h1, rfl, hQ, by show mWorld G E.1 h1 (mC1 E) t.heap; rw [ht]; exact hW1⟩, hS1.F ht⟩) hS1.2.2 hdg B.notSynchronized)
  rw [lg_entry_eq]
  rw [Nat.sub_self, Nat.sub_self] at K1
  exact K1
theorem mConL_of {G : mG} {E : mEn} {y : MethodName} {av : List Value} {h : mH} {Q : Int64 → mH → Prop} {ls : List (Option Value)} (nn : Nat) (hy : plainFor y = true) (hyc : y.cls = mOwn E) (hini : mIni E = true → y.name = "<init>") (hlen : (lg_sl (av.map (tr G))).length ≤ mMax E) (hls : mL0 av ++ List.replicate nn none = ls) (hc : mC0 E ≤ mC1 E) (K : Sat G E (mQl Q) (mC0 E) 0 ls [] h) : mConL G y E av h Q := by
  refine Met_ofWF (cc := mCode E) (maxL := mMax E) (ret := mRt E) hy rfl ?_
  intro p e s m args below meth c s₁ B hml hv
  obtain ⟨rfl, hW, hE⟩ := hv
  have hts := atoms_spec (ws := mWsY y E) B.pre
  have hown : s.vm.findClass (mOwn E) = some m.cls := hyc ▸ findClass_of_methodNamed B.named
  have hl := lv_entry (av.map (tr G)) hlen
  have K1 := K p e (headSpec (mWsY y E) (mRoom E)).room s m _ below meth c s.heap _ [] (MQ below (va_Ql Q (mPost G E) (mA G)) (av.map (tr G)).toArray s (mC1 E - mC0 E) (m_sl (mC1 E) - m_sl (mC0 E)) (mA G))
    ⟨B.exec, B.bytes, B.returns, B.notSynchronized, hml, hown, fun w hw => hts w (List.mem_cons_of_mem _ hw), fun q => (name_of_methodNamed B.named B.method).1.trans (hini q), hE, ⟨Nat.le_refl _, Nat.le_refl _⟩, ⟨Nat.le_refl _, Nat.le_refl _⟩, hc⟩ ⟨Nat.le_refl _, hc⟩ hW va_S.rf
    (lv_mono hl (fun q hq => lA_args av 0 nn q (by rw [hls]; exact hq))) (fun v h1 H1 locs1 pc1 la1 hQ hW1 hS1 hRI => by
      obtain ⟨x, rfl, hQ⟩ := hQ
      obtain ⟨hrt, hdg⟩ := hRI
      exact W.lret B.exec B.bytes (B.returns.trans hrt) (fun t ht hWm => ⟨⟨x, h1, rfl, hQ, by show mWorld G E.1 h1 (mC1 E) t.heap; rw [ht]; exact hW1⟩, hS1.F ht⟩) hS1.2.2 hdg B.notSynchronized)
  rw [lg_entry_eq]
  rw [Nat.sub_self, Nat.sub_self] at K1
  exact K1
theorem mConV_of {G : mG} {E : mEn} {y : MethodName} {av : List Value} {h : mH} {Q : mH → Prop} {ls : List (Option Value)} (nn : Nat) (hy : plainFor y = true) (hyc : y.cls = mOwn E) (hini : mIni E = true → y.name = "<init>") (hlen : (lg_sl (av.map (tr G))).length ≤ mMax E) (hls : mL0 av ++ List.replicate nn none = ls) (hc : mC0 E ≤ mC1 E) (K : Sat G E (mQv Q) (mC0 E) 0 ls [] h) : mConV G y E av h Q := by
  refine Met_ofWF (cc := mCode E) (maxL := mMax E) (ret := mRt E) hy rfl ?_
  intro p e s m args below meth c s₁ B hml hv
  obtain ⟨rfl, hW, hE⟩ := hv
  have hts := atoms_spec (ws := mWsY y E) B.pre
  have hown : s.vm.findClass (mOwn E) = some m.cls := hyc ▸ findClass_of_methodNamed B.named
  have hl := lv_entry (av.map (tr G)) hlen
  have K1 := K p e (headSpec (mWsY y E) (mRoom E)).room s m _ below meth c s.heap _ [] (MQ below (va_Qv Q (mPost G E) (mA G)) (av.map (tr G)).toArray s (mC1 E - mC0 E) (m_sl (mC1 E) - m_sl (mC0 E)) (mA G))
    ⟨B.exec, B.bytes, B.returns, B.notSynchronized, hml, hown, fun w hw => hts w (List.mem_cons_of_mem _ hw), fun q => (name_of_methodNamed B.named B.method).1.trans (hini q), hE, ⟨Nat.le_refl _, Nat.le_refl _⟩, ⟨Nat.le_refl _, Nat.le_refl _⟩, hc⟩ ⟨Nat.le_refl _, hc⟩ hW va_S.rf
    (lv_mono hl (fun q hq => lA_args av 0 nn q (by rw [hls]; exact hq))) (fun v h1 H1 locs1 pc1 la1 hQ hW1 hS1 hRI => by
      obtain ⟨rfl, hQ⟩ := hQ
      obtain ⟨hrt, hdg⟩ := hRI
      exact W.vret B.exec B.bytes (B.returns.trans hrt) (fun t ht hWm => ⟨⟨h1, rfl, hQ, by show mWorld G E.1 h1 (mC1 E) t.heap; rw [ht]; exact hW1⟩, hS1.F ht⟩) hS1.2.2 hdg B.notSynchronized)
  rw [lg_entry_eq]
  rw [Nat.sub_self, Nat.sub_self] at K1
  exact K1
section CALLS
variable {G : mG} {E E2 : mEn} {Q : Option Value → mH → Prop} {cn pc ix n : Nat} {ls : List (Option Value)} {st stk As : List Value} {h : mH} {y : MethodName}
theorem r_callVi {Q1 : Int32 → mH → Prop} (q : Nat) {o ci N : Nat} {T : u_T} (hs : m_sh o = (ci, N)) (hcl : vwCl[ci]? = some (y.cls, T, N)) (hci : ci < 100) (ho : o < cn) (hd : decode (mCode E) pc = .ok (.invokevirtual ix, 3)) (hq : pc + 3 = q) (hl : Cond.methodLink (mOwn E) ix y ∈ m_ws) (hy : mCalV y E2.2.1 n) (hst : stk = As.reverse ++ .ref o :: st) (hn : As.length = n) (hc8 : (st.map fun v => v.category).sum ≤ 8) (hht : mHt E2 + 1 ≤ mHt E) (hsr : E2.1 = E.1) (h0 : mC0 E2 = cn) (h1 : mC1 E2 ≤ mC1 E) (h2 : mC0 E2 ≤ mC1 E2)
    (hcon : mConI G y E2 (.ref o :: As) h Q1) (K : ∀ (x : Int32) (h1 : mH), Q1 x h1 → Sat G E Q (mC1 E2) q ls (.int x :: st) h1) : Sat G E Q cn pc ls stk h := by
  subst hq
  subst hst
  intro p e R s m args below meth c H la locs Qm C9 hcn hW hS hl9 hr T hT X
  have hE := C9.2.2.2.2.2.2.2.2.1
  have hts := C9.2.2.2.2.2.2.1
  obtain ⟨hR1, hR2⟩ := C9.2.2.2.2.2.2.2.2.2.1
  obtain ⟨hR3, hR4⟩ := C9.2.2.2.2.2.2.2.2.2.2.1
  have hz := mW_size hW hT X hE.1 hcn.1
  have h8 := m_sum8 (G := G) hc8
  have hm45 : mMax E2 ≤ 45 := hy.1.2.2.2
  have hRA : (mRoom E2).frames + 1 ≤ R.frames := by show mHt E2 + 1 ≤ R.frames; omega
  have hRB : 8 + (mMax E2 + 11) + (mRoom E2).locals ≤ R.locals := by show 8 + (mMax E2 + 11) + 64 * mHt E2 ≤ R.locals; omega
  have s1 := m_sl_mono hcn.1
  have s2 := m_sl_mono h1
  have s3 := m_sl_mono h2
  rw [h0] at s3
  have hc0 : cn ≤ mC1 E2 := h0 ▸ h2
  have hmon : 2 * (F0 m pc la ((As.reverse ++ .ref o :: st).map (tr G))).monitorRoom + ((st.map (tr G)).map fun v => v.category).sum ≤ 8 := lv_room h8
  refine va_calli (va_runV (As := As.map (tr G)) (rest := st.map (tr G)) (b := ad G o) ⟨C9.1, C9.2.1, C9.2.2.2.2.1, C9.2.2.2.2.2.1, hts⟩ hcon ⟨callB_of n hts (m_goodC hy.1.1) rfl rfl rfl (hts _ hy.1.2.1) (hts _ hl) hy.1.2.2.1 ⟨hRA, hRB⟩, hts _ hy.2.1, hts _ hy.2.2⟩ ⟨mPre_blind, va_recv hE.2.1 hW.1 hcl (by have he := mWs_get (G := G) (sr := E.1) (h := h) ho; rw [mE_obj hs hci] at he; exact he), fun U hU hWm => ⟨rfl, by rw [hU, hsr, h0]; exact hW, by rw [h0]; exact mEnv_moved hE hS hU hWm hz⟩⟩ rfl (by rw [List.length_map]; exact hn) hl9.1 (by show (As.reverse ++ .ref o :: st).map (tr G) = _; rw [List.map_append, List.map_reverse] <;> rfl) hmon hd ⟨by rw [h0]; omega, by rw [h0]; omega⟩) hS (fun q _ z => z) (fun q z => z) (fun r u t H1 locs1 ht hvm hw hB hz1 hk1 hS1 => ?_) T hT X
  have hB : mWorld G E2.1 u (mC1 E2) t.heap := hB
  rw [ht, hsr] at hB
  have K1 := K r u hw p e R s m args below meth c H1 la locs1 Qm C9 ⟨by omega, h1⟩ hB hS1 hl9 hr
  rw [h0]
  rw [show cn - mC0 E + (mC1 E2 - cn) = mC1 E2 - mC0 E by omega, show m_sl cn - m_sl (mC0 E) + (m_sl (mC1 E2) - m_sl cn) = m_sl (mC1 E2) - m_sl (mC0 E) by omega]
  exact K1
theorem r_callVl {Q1 : Int64 → mH → Prop} (q : Nat) {o ci N : Nat} {T : u_T} (hs : m_sh o = (ci, N)) (hcl : vwCl[ci]? = some (y.cls, T, N)) (hci : ci < 100) (ho : o < cn) (hd : decode (mCode E) pc = .ok (.invokevirtual ix, 3)) (hq : pc + 3 = q) (hl : Cond.methodLink (mOwn E) ix y ∈ m_ws) (hy : mCalV y E2.2.1 n) (hst : stk = As.reverse ++ .ref o :: st) (hn : As.length = n) (hc8 : (st.map fun v => v.category).sum ≤ 8) (hht : mHt E2 + 1 ≤ mHt E) (hsr : E2.1 = E.1) (h0 : mC0 E2 = cn) (h1 : mC1 E2 ≤ mC1 E) (h2 : mC0 E2 ≤ mC1 E2)
    (hcon : mConL G y E2 (.ref o :: As) h Q1) (K : ∀ (x : Int64) (h1 : mH), Q1 x h1 → Sat G E Q (mC1 E2) q ls (.long x :: st) h1) : Sat G E Q cn pc ls stk h := by
  subst hq
  subst hst
  intro p e R s m args below meth c H la locs Qm C9 hcn hW hS hl9 hr T hT X
  have hE := C9.2.2.2.2.2.2.2.2.1
  have hts := C9.2.2.2.2.2.2.1
  obtain ⟨hR1, hR2⟩ := C9.2.2.2.2.2.2.2.2.2.1
  obtain ⟨hR3, hR4⟩ := C9.2.2.2.2.2.2.2.2.2.2.1
  have hz := mW_size hW hT X hE.1 hcn.1
  have h8 := m_sum8 (G := G) hc8
  have hm45 : mMax E2 ≤ 45 := hy.1.2.2.2
  have hRA : (mRoom E2).frames + 1 ≤ R.frames := by show mHt E2 + 1 ≤ R.frames; omega
  have hRB : 8 + (mMax E2 + 11) + (mRoom E2).locals ≤ R.locals := by show 8 + (mMax E2 + 11) + 64 * mHt E2 ≤ R.locals; omega
  have s1 := m_sl_mono hcn.1
  have s2 := m_sl_mono h1
  have s3 := m_sl_mono h2
  rw [h0] at s3
  have hc0 : cn ≤ mC1 E2 := h0 ▸ h2
  have hmon : 2 * (F0 m pc la ((As.reverse ++ .ref o :: st).map (tr G))).monitorRoom + ((st.map (tr G)).map fun v => v.category).sum ≤ 8 := lv_room h8
  refine va_calll (va_runV (As := As.map (tr G)) (rest := st.map (tr G)) (b := ad G o) ⟨C9.1, C9.2.1, C9.2.2.2.2.1, C9.2.2.2.2.2.1, hts⟩ hcon ⟨callB_of n hts (m_goodC hy.1.1) rfl rfl rfl (hts _ hy.1.2.1) (hts _ hl) hy.1.2.2.1 ⟨hRA, hRB⟩, hts _ hy.2.1, hts _ hy.2.2⟩ ⟨mPre_blind, va_recv hE.2.1 hW.1 hcl (by have he := mWs_get (G := G) (sr := E.1) (h := h) ho; rw [mE_obj hs hci] at he; exact he), fun U hU hWm => ⟨rfl, by rw [hU, hsr, h0]; exact hW, by rw [h0]; exact mEnv_moved hE hS hU hWm hz⟩⟩ rfl (by rw [List.length_map]; exact hn) hl9.1 (by show (As.reverse ++ .ref o :: st).map (tr G) = _; rw [List.map_append, List.map_reverse] <;> rfl) hmon hd ⟨by rw [h0]; omega, by rw [h0]; omega⟩) hS (fun q _ z => z) (fun q z => z) (fun r u t H1 locs1 ht hvm hw hB hz1 hk1 hS1 => ?_) T hT X
  have hB : mWorld G E2.1 u (mC1 E2) t.heap := hB
  rw [ht, hsr] at hB
  have K1 := K r u hw p e R s m args below meth c H1 la locs1 Qm C9 ⟨by omega, h1⟩ hB hS1 hl9 hr
  rw [h0]
  rw [show cn - mC0 E + (mC1 E2 - cn) = mC1 E2 - mC0 E by omega, show m_sl cn - m_sl (mC0 E) + (m_sl (mC1 E2) - m_sl cn) = m_sl (mC1 E2) - m_sl (mC0 E) by omega]
  exact K1
theorem r_callVv {Q1 : mH → Prop} (q : Nat) {o ci N : Nat} {T : u_T} (hs : m_sh o = (ci, N)) (hcl : vwCl[ci]? = some (y.cls, T, N)) (hci : ci < 100) (ho : o < cn) (hd : decode (mCode E) pc = .ok (.invokevirtual ix, 3)) (hq : pc + 3 = q) (hl : Cond.methodLink (mOwn E) ix y ∈ m_ws) (hy : mCalV y E2.2.1 n) (hst : stk = As.reverse ++ .ref o :: st) (hn : As.length = n) (hc8 : (st.map fun v => v.category).sum ≤ 8) (hht : mHt E2 + 1 ≤ mHt E) (hsr : E2.1 = E.1) (h0 : mC0 E2 = cn) (h1 : mC1 E2 ≤ mC1 E) (h2 : mC0 E2 ≤ mC1 E2)
    (hcon : mConV G y E2 (.ref o :: As) h Q1) (K : ∀ (h1 : mH), Q1 h1 → Sat G E Q (mC1 E2) q ls (st) h1) : Sat G E Q cn pc ls stk h := by
  subst hq
  subst hst
  intro p e R s m args below meth c H la locs Qm C9 hcn hW hS hl9 hr T hT X
  have hE := C9.2.2.2.2.2.2.2.2.1
  have hts := C9.2.2.2.2.2.2.1
  obtain ⟨hR1, hR2⟩ := C9.2.2.2.2.2.2.2.2.2.1
  obtain ⟨hR3, hR4⟩ := C9.2.2.2.2.2.2.2.2.2.2.1
  have hz := mW_size hW hT X hE.1 hcn.1
  have h8 := m_sum8 (G := G) hc8
  have hm45 : mMax E2 ≤ 45 := hy.1.2.2.2
  have hRA : (mRoom E2).frames + 1 ≤ R.frames := by show mHt E2 + 1 ≤ R.frames; omega
  have hRB : 8 + (mMax E2 + 11) + (mRoom E2).locals ≤ R.locals := by show 8 + (mMax E2 + 11) + 64 * mHt E2 ≤ R.locals; omega
  have s1 := m_sl_mono hcn.1
  have s2 := m_sl_mono h1
  have s3 := m_sl_mono h2
  rw [h0] at s3
  have hc0 : cn ≤ mC1 E2 := h0 ▸ h2
  have hmon : 2 * (F0 m pc la ((As.reverse ++ .ref o :: st).map (tr G))).monitorRoom + ((st.map (tr G)).map fun v => v.category).sum ≤ 8 := lv_room h8
  refine va_callv (va_runV (As := As.map (tr G)) (rest := st.map (tr G)) (b := ad G o) ⟨C9.1, C9.2.1, C9.2.2.2.2.1, C9.2.2.2.2.2.1, hts⟩ hcon ⟨callB_of n hts (m_goodC hy.1.1) rfl rfl rfl (hts _ hy.1.2.1) (hts _ hl) hy.1.2.2.1 ⟨hRA, hRB⟩, hts _ hy.2.1, hts _ hy.2.2⟩ ⟨mPre_blind, va_recv hE.2.1 hW.1 hcl (by have he := mWs_get (G := G) (sr := E.1) (h := h) ho; rw [mE_obj hs hci] at he; exact he), fun U hU hWm => ⟨rfl, by rw [hU, hsr, h0]; exact hW, by rw [h0]; exact mEnv_moved hE hS hU hWm hz⟩⟩ rfl (by rw [List.length_map]; exact hn) hl9.1 (by show (As.reverse ++ .ref o :: st).map (tr G) = _; rw [List.map_append, List.map_reverse] <;> rfl) hmon hd ⟨by rw [h0]; omega, by rw [h0]; omega⟩) hS (fun q _ z => z) (fun q z => z) (fun u t H1 locs1 ht hvm hw hB hz1 hk1 hS1 => ?_) T hT X
  have hB : mWorld G E2.1 u (mC1 E2) t.heap := hB
  rw [ht, hsr] at hB
  have K1 := K u hw p e R s m args below meth c H1 la locs1 Qm C9 ⟨by omega, h1⟩ hB hS1 hl9 hr
  rw [h0]
  rw [show cn - mC0 E + (mC1 E2 - cn) = mC1 E2 - mC0 E by omega, show m_sl cn - m_sl (mC0 E) + (m_sl (mC1 E2) - m_sl cn) = m_sl (mC1 E2) - m_sl (mC0 E) by omega]
  exact K1
theorem r_callSi {Q1 : Int32 → mH → Prop} (q : Nat) (hd : decode (mCode E) pc = .ok (.invokestatic ix, 3)) (hq : pc + 3 = q) (hl : Cond.methodLink (mOwn E) ix y ∈ m_ws) (hy : mCalS y E2.2.1 n) (hst : stk = As.reverse ++ st) (hn : As.length = n) (hc8 : (st.map fun v => v.category).sum ≤ 8) (hht : mHt E2 + 1 ≤ mHt E) (hsr : E2.1 = E.1) (h0 : mC0 E2 = cn) (h1 : mC1 E2 ≤ mC1 E) (h2 : mC0 E2 ≤ mC1 E2)
    (hcon : mConI G y E2 As h Q1) (K : ∀ (x : Int32) (h1 : mH), Q1 x h1 → Sat G E Q (mC1 E2) q ls (.int x :: st) h1) : Sat G E Q cn pc ls stk h := by
  subst hq
  subst hst
  intro p e R s m args below meth c H la locs Qm C9 hcn hW hS hl9 hr T hT X
  have hE := C9.2.2.2.2.2.2.2.2.1
  have hts := C9.2.2.2.2.2.2.1
  obtain ⟨hR1, hR2⟩ := C9.2.2.2.2.2.2.2.2.2.1
  obtain ⟨hR3, hR4⟩ := C9.2.2.2.2.2.2.2.2.2.2.1
  have hz := mW_size hW hT X hE.1 hcn.1
  have h8 := m_sum8 (G := G) hc8
  have hm45 : mMax E2 ≤ 45 := hy.1.2.2.2
  have hRA : (mRoom E2).frames + 1 ≤ R.frames := by show mHt E2 + 1 ≤ R.frames; omega
  have hRB : 8 + (mMax E2 + 11) + (mRoom E2).locals ≤ R.locals := by show 8 + (mMax E2 + 11) + 64 * mHt E2 ≤ R.locals; omega
  have s1 := m_sl_mono hcn.1
  have s2 := m_sl_mono h1
  have s3 := m_sl_mono h2
  rw [h0] at s3
  have hc0 : cn ≤ mC1 E2 := h0 ▸ h2
  have hmon : 2 * (F0 m pc la ((As.reverse ++ st).map (tr G))).monitorRoom + ((st.map (tr G)).map fun v => v.category).sum ≤ 8 := lv_room h8
  refine va_calli (va_runS (As := As.map (tr G)) (rest := st.map (tr G)) ⟨C9.1, C9.2.1, C9.2.2.2.2.1, C9.2.2.2.2.2.1, hts⟩ hcon ⟨callB_of n hts (m_goodC hy.1.1) rfl rfl rfl (hts _ hy.1.2.1) (hts _ hl) hy.1.2.2.1 ⟨hRA, hRB⟩, hts _ hy.2⟩ ⟨mPre_blind, fun U hU hWm => ⟨rfl, by rw [hU, hsr, h0]; exact hW, by rw [h0]; exact mEnv_moved hE hS hU hWm hz⟩⟩ rfl (by rw [List.length_map]; exact hn) hl9.1 (by show (As.reverse ++ st).map (tr G) = _; rw [List.map_append, List.map_reverse] <;> rfl) hmon hd ⟨by rw [h0]; omega, by rw [h0]; omega⟩) hS (fun q _ z => z) (fun q z => z) (fun r u t H1 locs1 ht hvm hw hB hz1 hk1 hS1 => ?_) T hT X
  have hB : mWorld G E2.1 u (mC1 E2) t.heap := hB
  rw [ht, hsr] at hB
  have K1 := K r u hw p e R s m args below meth c H1 la locs1 Qm C9 ⟨by omega, h1⟩ hB hS1 hl9 hr
  rw [h0]
  rw [show cn - mC0 E + (mC1 E2 - cn) = mC1 E2 - mC0 E by omega, show m_sl cn - m_sl (mC0 E) + (m_sl (mC1 E2) - m_sl cn) = m_sl (mC1 E2) - m_sl (mC0 E) by omega]
  exact K1
theorem r_callSl {Q1 : Int64 → mH → Prop} (q : Nat) (hd : decode (mCode E) pc = .ok (.invokestatic ix, 3)) (hq : pc + 3 = q) (hl : Cond.methodLink (mOwn E) ix y ∈ m_ws) (hy : mCalS y E2.2.1 n) (hst : stk = As.reverse ++ st) (hn : As.length = n) (hc8 : (st.map fun v => v.category).sum ≤ 8) (hht : mHt E2 + 1 ≤ mHt E) (hsr : E2.1 = E.1) (h0 : mC0 E2 = cn) (h1 : mC1 E2 ≤ mC1 E) (h2 : mC0 E2 ≤ mC1 E2)
    (hcon : mConL G y E2 As h Q1) (K : ∀ (x : Int64) (h1 : mH), Q1 x h1 → Sat G E Q (mC1 E2) q ls (.long x :: st) h1) : Sat G E Q cn pc ls stk h := by
  subst hq
  subst hst
  intro p e R s m args below meth c H la locs Qm C9 hcn hW hS hl9 hr T hT X
  have hE := C9.2.2.2.2.2.2.2.2.1
  have hts := C9.2.2.2.2.2.2.1
  obtain ⟨hR1, hR2⟩ := C9.2.2.2.2.2.2.2.2.2.1
  obtain ⟨hR3, hR4⟩ := C9.2.2.2.2.2.2.2.2.2.2.1
  have hz := mW_size hW hT X hE.1 hcn.1
  have h8 := m_sum8 (G := G) hc8
  have hm45 : mMax E2 ≤ 45 := hy.1.2.2.2
  have hRA : (mRoom E2).frames + 1 ≤ R.frames := by show mHt E2 + 1 ≤ R.frames; omega
  have hRB : 8 + (mMax E2 + 11) + (mRoom E2).locals ≤ R.locals := by show 8 + (mMax E2 + 11) + 64 * mHt E2 ≤ R.locals; omega
  have s1 := m_sl_mono hcn.1
  have s2 := m_sl_mono h1
  have s3 := m_sl_mono h2
  rw [h0] at s3
  have hc0 : cn ≤ mC1 E2 := h0 ▸ h2
  have hmon : 2 * (F0 m pc la ((As.reverse ++ st).map (tr G))).monitorRoom + ((st.map (tr G)).map fun v => v.category).sum ≤ 8 := lv_room h8
  refine va_calll (va_runS (As := As.map (tr G)) (rest := st.map (tr G)) ⟨C9.1, C9.2.1, C9.2.2.2.2.1, C9.2.2.2.2.2.1, hts⟩ hcon ⟨callB_of n hts (m_goodC hy.1.1) rfl rfl rfl (hts _ hy.1.2.1) (hts _ hl) hy.1.2.2.1 ⟨hRA, hRB⟩, hts _ hy.2⟩ ⟨mPre_blind, fun U hU hWm => ⟨rfl, by rw [hU, hsr, h0]; exact hW, by rw [h0]; exact mEnv_moved hE hS hU hWm hz⟩⟩ rfl (by rw [List.length_map]; exact hn) hl9.1 (by show (As.reverse ++ st).map (tr G) = _; rw [List.map_append, List.map_reverse] <;> rfl) hmon hd ⟨by rw [h0]; omega, by rw [h0]; omega⟩) hS (fun q _ z => z) (fun q z => z) (fun r u t H1 locs1 ht hvm hw hB hz1 hk1 hS1 => ?_) T hT X
  have hB : mWorld G E2.1 u (mC1 E2) t.heap := hB
  rw [ht, hsr] at hB
  have K1 := K r u hw p e R s m args below meth c H1 la locs1 Qm C9 ⟨by omega, h1⟩ hB hS1 hl9 hr
  rw [h0]
  rw [show cn - mC0 E + (mC1 E2 - cn) = mC1 E2 - mC0 E by omega, show m_sl cn - m_sl (mC0 E) + (m_sl (mC1 E2) - m_sl cn) = m_sl (mC1 E2) - m_sl (mC0 E) by omega]
  exact K1
theorem r_callSv {Q1 : mH → Prop} (q : Nat) (hd : decode (mCode E) pc = .ok (.invokestatic ix, 3)) (hq : pc + 3 = q) (hl : Cond.methodLink (mOwn E) ix y ∈ m_ws) (hy : mCalS y E2.2.1 n) (hst : stk = As.reverse ++ st) (hn : As.length = n) (hc8 : (st.map fun v => v.category).sum ≤ 8) (hht : mHt E2 + 1 ≤ mHt E) (hsr : E2.1 = E.1) (h0 : mC0 E2 = cn) (h1 : mC1 E2 ≤ mC1 E) (h2 : mC0 E2 ≤ mC1 E2)
    (hcon : mConV G y E2 As h Q1) (K : ∀ (h1 : mH), Q1 h1 → Sat G E Q (mC1 E2) q ls (st) h1) : Sat G E Q cn pc ls stk h := by
  subst hq
  subst hst
  intro p e R s m args below meth c H la locs Qm C9 hcn hW hS hl9 hr T hT X
  have hE := C9.2.2.2.2.2.2.2.2.1
  have hts := C9.2.2.2.2.2.2.1
  obtain ⟨hR1, hR2⟩ := C9.2.2.2.2.2.2.2.2.2.1
  obtain ⟨hR3, hR4⟩ := C9.2.2.2.2.2.2.2.2.2.2.1
  have hz := mW_size hW hT X hE.1 hcn.1
  have h8 := m_sum8 (G := G) hc8
  have hm45 : mMax E2 ≤ 45 := hy.1.2.2.2
  have hRA : (mRoom E2).frames + 1 ≤ R.frames := by show mHt E2 + 1 ≤ R.frames; omega
  have hRB : 8 + (mMax E2 + 11) + (mRoom E2).locals ≤ R.locals := by show 8 + (mMax E2 + 11) + 64 * mHt E2 ≤ R.locals; omega
  have s1 := m_sl_mono hcn.1
  have s2 := m_sl_mono h1
  have s3 := m_sl_mono h2
  rw [h0] at s3
  have hc0 : cn ≤ mC1 E2 := h0 ▸ h2
  have hmon : 2 * (F0 m pc la ((As.reverse ++ st).map (tr G))).monitorRoom + ((st.map (tr G)).map fun v => v.category).sum ≤ 8 := lv_room h8
  refine va_callv (va_runS (As := As.map (tr G)) (rest := st.map (tr G)) ⟨C9.1, C9.2.1, C9.2.2.2.2.1, C9.2.2.2.2.2.1, hts⟩ hcon ⟨callB_of n hts (m_goodC hy.1.1) rfl rfl rfl (hts _ hy.1.2.1) (hts _ hl) hy.1.2.2.1 ⟨hRA, hRB⟩, hts _ hy.2⟩ ⟨mPre_blind, fun U hU hWm => ⟨rfl, by rw [hU, hsr, h0]; exact hW, by rw [h0]; exact mEnv_moved hE hS hU hWm hz⟩⟩ rfl (by rw [List.length_map]; exact hn) hl9.1 (by show (As.reverse ++ st).map (tr G) = _; rw [List.map_append, List.map_reverse] <;> rfl) hmon hd ⟨by rw [h0]; omega, by rw [h0]; omega⟩) hS (fun q _ z => z) (fun q z => z) (fun u t H1 locs1 ht hvm hw hB hz1 hk1 hS1 => ?_) T hT X
  have hB : mWorld G E2.1 u (mC1 E2) t.heap := hB
  rw [ht, hsr] at hB
  have K1 := K u hw p e R s m args below meth c H1 la locs1 Qm C9 ⟨by omega, h1⟩ hB hS1 hl9 hr
  rw [h0]
  rw [show cn - mC0 E + (mC1 E2 - cn) = mC1 E2 - mC0 E by omega, show m_sl cn - m_sl (mC0 E) + (m_sl (mC1 E2) - m_sl cn) = m_sl (mC1 E2) - m_sl (mC0 E) by omega]
  exact K1
theorem r_callSNi {host : String} {Q1 : Int32 → mH → Prop} (q : Nat) (hd : decode (mCode E) pc = .ok (.invokestatic ix, 3)) (hq : pc + 3 = q) (hl : Cond.methodLinkNest (mOwn E) ix y host ∈ m_nw) (hy : mCalS y E2.2.1 n) (hst : stk = As.reverse ++ st) (hn : As.length = n) (hc8 : (st.map fun v => v.category).sum ≤ 8) (hht : mHt E2 + 1 ≤ mHt E) (hsr : E2.1 = E.1) (h0 : mC0 E2 = cn) (h1 : mC1 E2 ≤ mC1 E) (h2 : mC0 E2 ≤ mC1 E2)
    (hcon : mConI G y E2 As h Q1) (K : ∀ (x : Int32) (h1 : mH), Q1 x h1 → Sat G E Q (mC1 E2) q ls (.int x :: st) h1) : Sat G E Q cn pc ls stk h := by
  subst hq
  subst hst
  intro p e R s m args below meth c H la locs Qm C9 hcn hW hS hl9 hr T hT X
  have hE := C9.2.2.2.2.2.2.2.2.1
  have hts := C9.2.2.2.2.2.2.1
  obtain ⟨hR1, hR2⟩ := C9.2.2.2.2.2.2.2.2.2.1
  obtain ⟨hR3, hR4⟩ := C9.2.2.2.2.2.2.2.2.2.2.1
  have hz := mW_size hW hT X hE.1 hcn.1
  have h8 := m_sum8 (G := G) hc8
  have hm45 : mMax E2 ≤ 45 := hy.1.2.2.2
  have hRA : (mRoom E2).frames + 1 ≤ R.frames := by show mHt E2 + 1 ≤ R.frames; omega
  have hRB : 8 + (mMax E2 + 11) + (mRoom E2).locals ≤ R.locals := by show 8 + (mMax E2 + 11) + 64 * mHt E2 ≤ R.locals; omega
  have s1 := m_sl_mono hcn.1
  have s2 := m_sl_mono h1
  have s3 := m_sl_mono h2
  rw [h0] at s3
  have hc0 : cn ≤ mC1 E2 := h0 ▸ h2
  have hmon : 2 * (F0 m pc la ((As.reverse ++ st).map (tr G))).monitorRoom + ((st.map (tr G)).map fun v => v.category).sum ≤ 8 := lv_room h8
  refine va_calli (va_runSN (As := As.map (tr G)) (rest := st.map (tr G)) ⟨C9.1, C9.2.1, C9.2.2.2.2.1, C9.2.2.2.2.2.1, hts⟩ hcon ⟨va_cnB n hts (m_goodC hy.1.1) rfl rfl rfl (hE.2.2.2.2.2.1 _ hl) (hts _ hy.1.2.1) hy.1.2.2.1 ⟨hRA, hRB⟩, hts _ hy.2, trivial⟩ ⟨mPre_blind, fun U hU hWm => ⟨rfl, by rw [hU, hsr, h0]; exact hW, by rw [h0]; exact mEnv_moved hE hS hU hWm hz⟩⟩ rfl (by rw [List.length_map]; exact hn) hl9.1 (by show (As.reverse ++ st).map (tr G) = _; rw [List.map_append, List.map_reverse] <;> rfl) hmon hd ⟨by rw [h0]; omega, by rw [h0]; omega⟩) hS (fun q _ z => z) (fun q z => z) (fun r u t H1 locs1 ht hvm hw hB hz1 hk1 hS1 => ?_) T hT X
  have hB : mWorld G E2.1 u (mC1 E2) t.heap := hB
  rw [ht, hsr] at hB
  have K1 := K r u hw p e R s m args below meth c H1 la locs1 Qm C9 ⟨by omega, h1⟩ hB hS1 hl9 hr
  rw [h0]
  rw [show cn - mC0 E + (mC1 E2 - cn) = mC1 E2 - mC0 E by omega, show m_sl cn - m_sl (mC0 E) + (m_sl (mC1 E2) - m_sl cn) = m_sl (mC1 E2) - m_sl (mC0 E) by omega]
  exact K1
theorem r_callIv {Q1 : mH → Prop} (q : Nat) {o : Nat} (hd : decode (mCode E) pc = .ok (.invokespecial ix, 3)) (hq : pc + 3 = q) (hl : Cond.methodLink (mOwn E) ix y ∈ m_ws) (hy : mCalI y E2.2.1 n) (hst : stk = As.reverse ++ .ref o :: st) (hn : As.length = n) (hc8 : (st.map fun v => v.category).sum ≤ 8) (hht : mHt E2 + 1 ≤ mHt E) (hsr : E2.1 = E.1) (h0 : mC0 E2 = cn) (h1 : mC1 E2 ≤ mC1 E) (h2 : mC0 E2 ≤ mC1 E2)
    (hcon : mConV G y E2 (.ref o :: As) h Q1) (K : ∀ (h1 : mH), Q1 h1 → Sat G E Q (mC1 E2) q ls (st) h1) : Sat G E Q cn pc ls stk h := by
  subst hq
  subst hst
  intro p e R s m args below meth c H la locs Qm C9 hcn hW hS hl9 hr T hT X
  have hE := C9.2.2.2.2.2.2.2.2.1
  have hts := C9.2.2.2.2.2.2.1
  obtain ⟨hR1, hR2⟩ := C9.2.2.2.2.2.2.2.2.2.1
  obtain ⟨hR3, hR4⟩ := C9.2.2.2.2.2.2.2.2.2.2.1
  have hz := mW_size hW hT X hE.1 hcn.1
  have h8 := m_sum8 (G := G) hc8
  have hm45 : mMax E2 ≤ 45 := hy.1.2.2.2
  have hRA : (mRoom E2).frames + 1 ≤ R.frames := by show mHt E2 + 1 ≤ R.frames; omega
  have hRB : 8 + (mMax E2 + 11) + (mRoom E2).locals ≤ R.locals := by show 8 + (mMax E2 + 11) + 64 * mHt E2 ≤ R.locals; omega
  have s1 := m_sl_mono hcn.1
  have s2 := m_sl_mono h1
  have s3 := m_sl_mono h2
  rw [h0] at s3
  have hc0 : cn ≤ mC1 E2 := h0 ▸ h2
  have hmon : 2 * (F0 m pc la ((As.reverse ++ .ref o :: st).map (tr G))).monitorRoom + ((st.map (tr G)).map fun v => v.category).sum ≤ 8 := lv_room h8
  refine va_callv (va_runI (As := As.map (tr G)) (rest := st.map (tr G)) (b := ad G o) ⟨C9.1, C9.2.1, C9.2.2.2.2.1, C9.2.2.2.2.2.1, hts⟩ hcon ⟨callB_of n hts (m_goodC hy.1.1) (show mWsY y E2 = Cond.code y (mCode E2) (mMax E2) none :: m_ws by show Cond.code y (mCode E2) (mMax E2) (mRt E2) :: m_ws = _; rw [show mRt E2 = none from hy.2.2.2]) rfl rfl (hts _ hy.1.2.1) (hts _ hl) hy.1.2.2.1 ⟨hRA, hRB⟩, hy.2.2.1, hts _ hy.2.1⟩ ⟨mPre_blind, fun U hU hWm => ⟨rfl, by rw [hU, hsr, h0]; exact hW, by rw [h0]; exact mEnv_moved hE hS hU hWm hz⟩⟩ rfl (by rw [List.length_map]; exact hn) hl9.1 (by show (As.reverse ++ .ref o :: st).map (tr G) = _; rw [List.map_append, List.map_reverse] <;> rfl) hmon hd ⟨by rw [h0]; omega, by rw [h0]; omega⟩) hS (fun q _ z => z) (fun q z => z) (fun u t H1 locs1 ht hvm hw hB hz1 hk1 hS1 => ?_) T hT X
  have hB : mWorld G E2.1 u (mC1 E2) t.heap := hB
  rw [ht, hsr] at hB
  have K1 := K u hw p e R s m args below meth c H1 la locs1 Qm C9 ⟨by omega, h1⟩ hB hS1 hl9 hr
  rw [h0]
  rw [show cn - mC0 E + (mC1 E2 - cn) = mC1 E2 - mC0 E by omega, show m_sl cn - m_sl (mC0 E) + (m_sl (mC1 E2) - m_sl cn) = m_sl (mC1 E2) - m_sl (mC0 E) by omega]
  exact K1
end CALLS
theorem m_sl_succ {cn a n : Nat} (hs : m_sh cn = (a, n)) (ha : a ≠ 999) : m_sl (cn + 1) = m_sl cn + n := by
  have hl := m_lt hs ha
  unfold m_sl
  rw [List.take_add_one, List.map_append, List.sum_append, List.getElem?_eq_getElem hl]
  have h2 : m_shl[cn] = (a, n) := by
    unfold m_sh at hs
    rw [List.getD_eq_getElem?_getD, List.getElem?_eq_getElem hl] at hs
    exact hs
  rw [h2]
  simp
theorem zo_1 {h : mH} {o a : Nat} (ha : a ≠ o) : (zo h o).1 a = h.1 a := by
  funext b
  simp [zo, ha]
theorem zo_2 {h : mH} {o a : Nat} (ha : a ≠ o) : (zo h o).2 a = h.2 a := by
  funext b
  simp [zo, ha]
/-- where a new cell lies -/
theorem m_addr {G : mG} {sr : Nat → Nat → Nat} {h : mH} {cn c0 q1 sl0 : Nat} {e1 : va_E} {H1 : Heap} {p : Program} {e : Env} {R : Room} {s : State} {m : MethodId} {args : Array Value} {below : List Frame} {meth : Method} {c : Code} {T : State} {locs : List Loc} (hP1 : va_P G.2.1 vwCl (mWs G sr h cn ++ [(q1, e1)]) H1) (hD1 : va_D (mA G) (mWs G sr h cn ++ [(q1, e1)])) (hT : T.heap = H1) (X : Stand p G.1 e R s m args below meth c T locs (cn - c0 + 1) sl0) (hs : s.heap.size = G.2.2.2.1 + c0) (hc : c0 ≤ cn) (hcn : cn < 999) : q1 = ad G cn := by
  have h1 : T.heap.size ≤ s.heap.size + (cn - c0 + 1) := X.same.2.2.1
  rw [hT] at h1
  have hlast : (mWs G sr h cn ++ [(q1, e1)])[cn]? = some (q1, e1) := by
    rw [List.getElem?_append_right (by rw [mWs_len]; omega), mWs_len, Nat.sub_self]
    rfl
  have h2 : q1 < H1.size := (hP1 cn _ hlast).lt
  have h3 : G.2.2.2.1 ≤ q1 := hD1.2 cn _ hlast
  rw [ad_lt (by omega)]
  by_cases h4 : q1 < G.2.2.2.1 + cn
  · have h5 : (mWs G sr h cn ++ [(q1, e1)])[q1 - G.2.2.2.1]? = some (ad G (q1 - G.2.2.2.1), mE G sr h (q1 - G.2.2.2.1)) := by
      rw [List.getElem?_append_left (by rw [mWs_len]; omega)]
      exact mWs_get (by omega)
    have h6 := hD1.1 _ _ _ _ h5 hlast (by show ad G (q1 - G.2.2.2.1) = q1; rw [ad_lt (by omega)]; omega)
    omega
  · omega
section NEW
variable {G : mG} {E : mEn} {Q : Option Value → mH → Prop} {cn pc ix : Nat} {ls : List (Option Value)} {st : List Value} {h : mH}
theorem m_new {q1 : Nat} {e1 : va_E} {H1 : Heap} {p : Program} {e : Env} {R : Room} {s : State} {m : MethodId} {args : Array Value} {below : List Frame} {meth : Method} {c : Code} {la : Array Slot} {locs : List Loc} {Qm : State → Prop} {q a n : Nat} (hs : m_sh cn = (a, n)) (ha : a ≠ 999) (hlt : cn < mC1 E) (hcn9 : cn < 999)
    (K : Sat G E Q (cn + 1) q ls (.ref cn :: st) (zo h cn)) (C9 : mCtx G E p R s m args meth c) (hcn : mC0 E ≤ cn ∧ cn ≤ mC1 E) (hl9 : lv_has la (mMax E) (lA G 0 ls)) (hr : mRet G E Q p e R s m args below meth c Qm)
    (he : mE G E.1 (zo h cn) cn = e1) (hP1 : va_P G.2.1 vwCl (mWs G E.1 h cn ++ [(q1, e1)]) H1) (hD1 : va_D (mA G) (mWs G E.1 h cn ++ [(q1, e1)])) (hS1 : va_S (mA G) s.heap H1 locs) :
    W p G.1 e R s m args below meth c H1 locs (cn - mC0 E + 1) (m_sl cn - m_sl (mC0 E) + n) Qm (F0 m q la (.ref q1 :: st.map (tr G))) := by
  intro T hT X
  have hq := m_addr hP1 hD1 hT X C9.2.2.2.2.2.2.2.2.1.1 hcn.1 hcn9
  subst hq
  have e2 : mWs G E.1 h cn ++ [(ad G cn, e1)] = mWs G E.1 (zo h cn) (cn + 1) := by
    rw [← mWs_push, he, mWs_congr (h := h) (h' := zo h cn) (fun a ha => mE_congr (zo_1 (by omega)) (zo_2 (by omega)))]
  rw [e2] at hP1 hD1
  have s1 := m_sl_succ hs ha
  have s2 := m_sl_mono hcn.1
  have K1 := K p e R s m args below meth c H1 la locs Qm C9 ⟨by omega, by omega⟩ ⟨hP1, hD1, by omega⟩ hS1 hl9 hr
  rw [show cn + 1 - mC0 E = cn - mC0 E + 1 by omega, show m_sl (cn + 1) - m_sl (mC0 E) = m_sl cn - m_sl (mC0 E) + n by omega] at K1
  exact K1 T hT X
theorem r_new {ci N : Nat} {C : String} {T : u_T} {ty0 : Nat → FieldType} (q : Nat) (hd : decode (mCode E) pc = .ok (.new ix, 3)) (hq : pc + 3 = q) (hC : mCl ci N C T ty0) (hw : Cond.classLink (mOwn E) ix C ∈ m_ws) (hi : Cond.instantiable C N ∈ m_ws) (hini : Cond.initialized C ∈ m_ws) (hs : m_sh cn = (ci, N)) (hlt : cn < mC1 E) (hcn9 : cn < 999) (hsr : E.1 = m_s0)
    (hdf : ∀ k, k < N → defaultValue (ty0 k) = if m_ft ci k = 2 then .null else .int 0) (K : Sat G E Q (cn + 1) q ls (.ref cn :: st) (zo h cn)) : Sat G E Q cn pc ls st h := by
  subst hq
  intro p e R s m args below meth c H la locs Qm C9 hcn hW hS hl9 hr
  have hE := C9.2.2.2.2.2.2.2.2.1
  have hts := C9.2.2.2.2.2.2.1
  obtain ⟨hR3, hR4⟩ := C9.2.2.2.2.2.2.2.2.2.2.1
  obtain ⟨hc, hin, hty, hnm, hci⟩ := hC
  have s1 := m_sl_succ hs (by omega)
  have s2 := m_sl_mono hcn.1
  have s3 := m_sl_mono (show cn + 1 ≤ mC1 E from hlt)
  refine va_new (fs := (List.range N).map fun k => tr G (fv E.1 (zo h cn) cn k)) C9.1 C9.2.1 hts hin ty0 hty C9.2.2.2.2.2.1 (hts _ hw) (hts _ hi) (hts _ hini) hE.2.1 hW.1 hW.2.1 hS (fun q hq => by have h9 := hE.1; show G.2.2.2.1 ≤ q; omega) hc (fun j hj => ?_) (by omega) (by omega) hd (fun q1 H1 hP1 hD1 hS1 => m_new hs (by omega) hlt hcn9 K C9 hcn hl9 hr (mE_obj hs hci) hP1 hD1 hS1)
  rw [hdf j hj]
  show _ = vp_V _ j
  unfold vp_V
  rw [List.getD_eq_getElem?_getD, m_fget hj, Option.getD_some]
  unfold fv
  rw [hs, hsr]
  by_cases h2 : m_ft ci j = 2
  · rw [if_pos h2]
    simp only [h2, if_true]
    have z9 : rc (m_s0 cn j) ((zo h cn).1 cn j) = 0 := by simp [zo, rc, m_s0]
    rw [z9]
    rfl
  · rw [if_neg h2]
    simp only [h2, if_false]
    simp [zo, tr]
theorem r_newai {N : Nat} {n9 : Int32} (q : Nat) (hd : decode (mCode E) pc = .ok (.newarray .int, 2)) (hq : pc + 2 = q) (hw : Cond.arrayClass .int ∈ m_ws) (hs : m_sh cn = (100, N)) (hlt : cn < mC1 E) (hcn9 : cn < 999) (hn : ¬ n9 < 0) (hN : n9.toNatClampNeg = N) (hb : N < 10000)
    (K : Sat G E Q (cn + 1) q ls (.ref cn :: st) (zo h cn)) : Sat G E Q cn pc ls (.int n9 :: st) h := by
  subst hq
  intro p e R s m args below meth c H la locs Qm C9 hcn hW hS hl9 hr
  have hE := C9.2.2.2.2.2.2.2.2.1
  have hts := C9.2.2.2.2.2.2.1
  obtain ⟨hR3, hR4⟩ := C9.2.2.2.2.2.2.2.2.2.2.1
  have s1 := m_sl_succ hs (by decide)
  have s2 := m_sl_mono hcn.1
  have s3 := m_sl_mono (show cn + 1 ≤ mC1 E from hlt)
  refine va_newa (atype := .int) (ty := .int) (N' := N) (a0 := (N, .inl (fun _ => 0))) C9.1 C9.2.1 (hts _ hw) rfl hE.2.1 hW.1 hW.2.1 hS (fun q hq => by have h9 := hE.1; show G.2.2.2.1 ≤ q; omega) (fun _ => rfl) hn hN (by show N * 4 ≤ 536870912; omega) (by omega) (by omega) hd (fun q1 cA H1 hK1 hP1 hD1 hS1 => ?_)
  have e1 : s.vm.findClass ("[" ++ (.int : FieldType).toString) = some cA := (hK1.2 6 _ rfl).2
  have e2 : s.vm.findClass ("[" ++ (.int : FieldType).toString) = some (G.2.2.1 0) := (hE.2.1.2 0 _ rfl).2
  have e3 : cA = G.2.2.1 0 := Option.some.inj (e1.symm.trans e2)
  subst e3
  exact m_new hs (by decide) hlt hcn9 K C9 hcn hl9 hr (by rw [mE_int (t := 0) hs (by decide)]; simp [zo]) hP1 hD1 hS1
theorem r_newaz {N : Nat} {n9 : Int32} (q : Nat) (hd : decode (mCode E) pc = .ok (.newarray .boolean, 2)) (hq : pc + 2 = q) (hw : Cond.arrayClass .boolean ∈ m_ws) (hs : m_sh cn = (101, N)) (hlt : cn < mC1 E) (hcn9 : cn < 999) (hn : ¬ n9 < 0) (hN : n9.toNatClampNeg = N) (hb : N < 10000)
    (K : Sat G E Q (cn + 1) q ls (.ref cn :: st) (zo h cn)) : Sat G E Q cn pc ls (.int n9 :: st) h := by
  subst hq
  intro p e R s m args below meth c H la locs Qm C9 hcn hW hS hl9 hr
  have hE := C9.2.2.2.2.2.2.2.2.1
  have hts := C9.2.2.2.2.2.2.1
  obtain ⟨hR3, hR4⟩ := C9.2.2.2.2.2.2.2.2.2.2.1
  have s1 := m_sl_succ hs (by decide)
  have s2 := m_sl_mono hcn.1
  have s3 := m_sl_mono (show cn + 1 ≤ mC1 E from hlt)
  refine va_newa (atype := .boolean) (ty := .boolean) (N' := N) (a0 := (N, .inl (fun _ => 0))) C9.1 C9.2.1 (hts _ hw) rfl hE.2.1 hW.1 hW.2.1 hS (fun q hq => by have h9 := hE.1; show G.2.2.2.1 ≤ q; omega) (fun _ => rfl) hn hN (by show N * 1 ≤ 536870912; omega) (by omega) (by omega) hd (fun q1 cA H1 hK1 hP1 hD1 hS1 => ?_)
  have e1 : s.vm.findClass ("[" ++ (.boolean : FieldType).toString) = some cA := (hK1.2 6 _ rfl).2
  have e2 : s.vm.findClass ("[" ++ (.boolean : FieldType).toString) = some (G.2.2.1 1) := (hE.2.1.2 1 _ rfl).2
  have e3 : cA = G.2.2.1 1 := Option.some.inj (e1.symm.trans e2)
  subst e3
  exact m_new hs (by decide) hlt hcn9 K C9 hcn hl9 hr (by rw [mE_int (t := 1) hs (by decide)]; simp [zo]) hP1 hD1 hS1
theorem r_newab {N : Nat} {n9 : Int32} (q : Nat) (hd : decode (mCode E) pc = .ok (.newarray .byte, 2)) (hq : pc + 2 = q) (hw : Cond.arrayClass .byte ∈ m_ws) (hs : m_sh cn = (102, N)) (hlt : cn < mC1 E) (hcn9 : cn < 999) (hn : ¬ n9 < 0) (hN : n9.toNatClampNeg = N) (hb : N < 10000)
    (K : Sat G E Q (cn + 1) q ls (.ref cn :: st) (zo h cn)) : Sat G E Q cn pc ls (.int n9 :: st) h := by
  subst hq
  intro p e R s m args below meth c H la locs Qm C9 hcn hW hS hl9 hr
  have hE := C9.2.2.2.2.2.2.2.2.1
  have hts := C9.2.2.2.2.2.2.1
  obtain ⟨hR3, hR4⟩ := C9.2.2.2.2.2.2.2.2.2.2.1
  have s1 := m_sl_succ hs (by decide)
  have s2 := m_sl_mono hcn.1
  have s3 := m_sl_mono (show cn + 1 ≤ mC1 E from hlt)
  refine va_newa (atype := .byte) (ty := .byte) (N' := N) (a0 := (N, .inl (fun _ => 0))) C9.1 C9.2.1 (hts _ hw) rfl hE.2.1 hW.1 hW.2.1 hS (fun q hq => by have h9 := hE.1; show G.2.2.2.1 ≤ q; omega) (fun _ => rfl) hn hN (by show N * 1 ≤ 536870912; omega) (by omega) (by omega) hd (fun q1 cA H1 hK1 hP1 hD1 hS1 => ?_)
  have e1 : s.vm.findClass ("[" ++ (.byte : FieldType).toString) = some cA := (hK1.2 6 _ rfl).2
  have e2 : s.vm.findClass ("[" ++ (.byte : FieldType).toString) = some (G.2.2.1 2) := (hE.2.1.2 2 _ rfl).2
  have e3 : cA = G.2.2.1 2 := Option.some.inj (e1.symm.trans e2)
  subst e3
  exact m_new hs (by decide) hlt hcn9 K C9 hcn hl9 hr (by rw [mE_int (t := 2) hs (by decide)]; simp [zo]) hP1 hD1 hS1
theorem r_newas {N : Nat} {n9 : Int32} (q : Nat) (hd : decode (mCode E) pc = .ok (.newarray .short, 2)) (hq : pc + 2 = q) (hw : Cond.arrayClass .short ∈ m_ws) (hs : m_sh cn = (103, N)) (hlt : cn < mC1 E) (hcn9 : cn < 999) (hn : ¬ n9 < 0) (hN : n9.toNatClampNeg = N) (hb : N < 10000)
    (K : Sat G E Q (cn + 1) q ls (.ref cn :: st) (zo h cn)) : Sat G E Q cn pc ls (.int n9 :: st) h := by
  subst hq
  intro p e R s m args below meth c H la locs Qm C9 hcn hW hS hl9 hr
  have hE := C9.2.2.2.2.2.2.2.2.1
  have hts := C9.2.2.2.2.2.2.1
  obtain ⟨hR3, hR4⟩ := C9.2.2.2.2.2.2.2.2.2.2.1
  have s1 := m_sl_succ hs (by decide)
  have s2 := m_sl_mono hcn.1
  have s3 := m_sl_mono (show cn + 1 ≤ mC1 E from hlt)
  refine va_newa (atype := .short) (ty := .short) (N' := N) (a0 := (N, .inl (fun _ => 0))) C9.1 C9.2.1 (hts _ hw) rfl hE.2.1 hW.1 hW.2.1 hS (fun q hq => by have h9 := hE.1; show G.2.2.2.1 ≤ q; omega) (fun _ => rfl) hn hN (by show N * 2 ≤ 536870912; omega) (by omega) (by omega) hd (fun q1 cA H1 hK1 hP1 hD1 hS1 => ?_)
  have e1 : s.vm.findClass ("[" ++ (.short : FieldType).toString) = some cA := (hK1.2 6 _ rfl).2
  have e2 : s.vm.findClass ("[" ++ (.short : FieldType).toString) = some (G.2.2.1 3) := (hE.2.1.2 3 _ rfl).2
  have e3 : cA = G.2.2.1 3 := Option.some.inj (e1.symm.trans e2)
  subst e3
  exact m_new hs (by decide) hlt hcn9 K C9 hcn hl9 hr (by rw [mE_int (t := 3) hs (by decide)]; simp [zo]) hP1 hD1 hS1
theorem r_newal {N : Nat} {n9 : Int32} (q : Nat) (hd : decode (mCode E) pc = .ok (.newarray .long, 2)) (hq : pc + 2 = q) (hw : Cond.arrayClass .long ∈ m_ws) (hs : m_sh cn = (104, N)) (hlt : cn < mC1 E) (hcn9 : cn < 999) (hn : ¬ n9 < 0) (hN : n9.toNatClampNeg = N) (hb : N < 10000)
    (K : Sat G E Q (cn + 1) q ls (.ref cn :: st) (zo h cn)) : Sat G E Q cn pc ls (.int n9 :: st) h := by
  subst hq
  intro p e R s m args below meth c H la locs Qm C9 hcn hW hS hl9 hr
  have hE := C9.2.2.2.2.2.2.2.2.1
  have hts := C9.2.2.2.2.2.2.1
  obtain ⟨hR3, hR4⟩ := C9.2.2.2.2.2.2.2.2.2.2.1
  have s1 := m_sl_succ hs (by decide)
  have s2 := m_sl_mono hcn.1
  have s3 := m_sl_mono (show cn + 1 ≤ mC1 E from hlt)
  refine va_newa (atype := .long) (ty := .long) (N' := N) (a0 := (N, .inr (.inl (fun _ => 0)))) C9.1 C9.2.1 (hts _ hw) rfl hE.2.1 hW.1 hW.2.1 hS (fun q hq => by have h9 := hE.1; show G.2.2.2.1 ≤ q; omega) (fun _ => rfl) hn hN (by show N * 8 ≤ 536870912; omega) (by omega) (by omega) hd (fun q1 cA H1 hK1 hP1 hD1 hS1 => ?_)
  have e1 : s.vm.findClass ("[" ++ (.long : FieldType).toString) = some cA := (hK1.2 6 _ rfl).2
  have e2 : s.vm.findClass ("[" ++ (.long : FieldType).toString) = some (G.2.2.1 4) := (hE.2.1.2 4 _ rfl).2
  have e3 : cA = G.2.2.1 4 := Option.some.inj (e1.symm.trans e2)
  subst e3
  exact m_new hs (by decide) hlt hcn9 K C9 hcn hl9 hr (by rw [mE_long hs]; simp [zo]) hP1 hD1 hS1
theorem r_newq {N : Nat} {n9 : Int32} (q : Nat) (hd : decode (mCode E) pc = .ok (.anewarray ix, 3)) (hq : pc + 3 = q) (hw : Cond.classLink (mOwn E) ix "OneHandEach$Shelf" ∈ m_ws) (hs : m_sh cn = (105, N)) (hlt : cn < mC1 E) (hcn9 : cn < 999) (hsr : E.1 = m_s0) (hn : ¬ n9 < 0) (hN : n9.toNatClampNeg = N) (hb : N < 10000)
    (K : Sat G E Q (cn + 1) q ls (.ref cn :: st) (zo h cn)) : Sat G E Q cn pc ls (.int n9 :: st) h := by
  subst hq
  intro p e R s m args below meth c H la locs Qm C9 hcn hW hS hl9 hr
  have hE := C9.2.2.2.2.2.2.2.2.1
  have hts := C9.2.2.2.2.2.2.1
  obtain ⟨hR3, hR4⟩ := C9.2.2.2.2.2.2.2.2.2.2.1
  have s1 := m_sl_succ hs (by decide)
  have s2 := m_sl_mono hcn.1
  have s3 := m_sl_mono (show cn + 1 ≤ mC1 E from hlt)
  refine va_newq (N' := N) C9.1 C9.2.1 C9.2.2.2.2.2.1 (hts _ hw) hE.2.2.2.2.2.2 hE.2.1 hW.1 hW.2.1 hS (fun q hq => by have h9 := hE.1; show G.2.2.2.1 ≤ q; omega) hn hN (by omega) (by omega) (by omega) hd (fun q1 cA H1 hK1 hP1 hD1 hS1 => ?_)
  obtain ⟨_, _, -, -, -, e1⟩ := (hK1.2 6 _ rfl).2
  obtain ⟨_, _, -, -, -, e2⟩ := (hE.2.1.2 5 _ rfl).2
  have e3 : cA = G.2.2.1 5 := Option.some.inj (e1.symm.trans e2)
  subst e3
  exact m_new hs (by decide) hlt hcn9 K C9 hcn hl9 hr (by rw [mE_ref hs, hsr]; simp [zo, rc, m_s0, rO]) hP1 hD1 hS1
end NEW
