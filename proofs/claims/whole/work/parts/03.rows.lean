/-! rows of the small machine: one an instruction (printed by wip/gen/rows.py) -/
theorem r_iconst {G : mG} {E : mEn} {Q : Option Value → mH → Prop} {cn pc : Nat} {ls : List (Option Value)} {st : List Value} {h : mH} {n : Int} {v : Int32} (q : Nat) (hd : decode (mCode E) pc = .ok (.iconst n, 1)) (hq : pc + 1 = q) (hv : Int32.ofInt n = v) (K : Sat G E Q cn q ls (.int v :: st) h) : Sat G E Q cn pc ls (st) h := by
  subst hq
  intro p e R s m args below meth c H la locs Qm C hcn hW hS hl hr
  exact lv_iconst C.1 C.2.1 hd hv (K p e R s m args below meth c H la locs Qm C hcn hW hS hl hr)
theorem r_bipush {G : mG} {E : mEn} {Q : Option Value → mH → Prop} {cn pc : Nat} {ls : List (Option Value)} {st : List Value} {h : mH} {n : Int} {v : Int32} (q : Nat) (hd : decode (mCode E) pc = .ok (.bipush n, 2)) (hq : pc + 2 = q) (hv : (Int8.ofInt n).toInt32 = v) (K : Sat G E Q cn q ls (.int v :: st) h) : Sat G E Q cn pc ls (st) h := by
  subst hq
  intro p e R s m args below meth c H la locs Qm C hcn hW hS hl hr
  exact lv_bipush C.1 C.2.1 hd hv (K p e R s m args below meth c H la locs Qm C hcn hW hS hl hr)
theorem r_sipush {G : mG} {E : mEn} {Q : Option Value → mH → Prop} {cn pc : Nat} {ls : List (Option Value)} {st : List Value} {h : mH} {n : Int} {v : Int32} (q : Nat) (hd : decode (mCode E) pc = .ok (.sipush n, 3)) (hq : pc + 3 = q) (hv : (Int16.ofInt n).toInt32 = v) (K : Sat G E Q cn q ls (.int v :: st) h) : Sat G E Q cn pc ls (st) h := by
  subst hq
  intro p e R s m args below meth c H la locs Qm C hcn hW hS hl hr
  exact lv_sipush C.1 C.2.1 hd hv (K p e R s m args below meth c H la locs Qm C hcn hW hS hl hr)
theorem r_lconst {G : mG} {E : mEn} {Q : Option Value → mH → Prop} {cn pc : Nat} {ls : List (Option Value)} {st : List Value} {h : mH} {n : Fin 2} {v : Int64} (q : Nat) (hd : decode (mCode E) pc = .ok (.lconst n, 1)) (hq : pc + 1 = q) (hv : Int64.ofNat (n : Nat) = v) (K : Sat G E Q cn q ls (.long v :: st) h) : Sat G E Q cn pc ls (st) h := by
  subst hq
  intro p e R s m args below meth c H la locs Qm C hcn hW hS hl hr
  exact lv_lconst C.1 C.2.1 hd hv (K p e R s m args below meth c H la locs Qm C hcn hW hS hl hr)
theorem r_ldc {G : mG} {E : mEn} {Q : Option Value → mH → Prop} {cn pc : Nat} {ls : List (Option Value)} {st : List Value} {h : mH} {ix : Nat} {v : Int32} (q : Nat) (hd : decode (mCode E) pc = .ok (.ldc ix, 2)) (hq : pc + 2 = q) (hw : Cond.constant (mOwn E) ix v ∈ m_ws) (K : Sat G E Q cn q ls (.int v :: st) h) : Sat G E Q cn pc ls (st) h := by
  subst hq
  intro p e R s m args below meth c H la locs Qm C hcn hW hS hl hr
  exact lv_ldc C.1 C.2.1 C.2.2.2.2.2.1 (C.2.2.2.2.2.2.1 _ hw) hd (K p e R s m args below meth c H la locs Qm C hcn hW hS hl hr)
theorem r_ldcw {G : mG} {E : mEn} {Q : Option Value → mH → Prop} {cn pc : Nat} {ls : List (Option Value)} {st : List Value} {h : mH} {ix : Nat} {v : Int32} (q : Nat) (hd : decode (mCode E) pc = .ok (.ldc_w ix, 3)) (hq : pc + 3 = q) (hw : Cond.constant (mOwn E) ix v ∈ m_ws) (K : Sat G E Q cn q ls (.int v :: st) h) : Sat G E Q cn pc ls (st) h := by
  subst hq
  intro p e R s m args below meth c H la locs Qm C hcn hW hS hl hr
  exact lv_ldcw C.1 C.2.1 C.2.2.2.2.2.1 (C.2.2.2.2.2.2.1 _ hw) hd (K p e R s m args below meth c H la locs Qm C hcn hW hS hl hr)
theorem r_ldc2 {G : mG} {E : mEn} {Q : Option Value → mH → Prop} {cn pc : Nat} {ls : List (Option Value)} {st : List Value} {h : mH} {ix : Nat} {v : Int64} (q : Nat) (hd : decode (mCode E) pc = .ok (.ldc2_w ix, 3)) (hq : pc + 3 = q) (hw : Cond.constantLong (mOwn E) ix v ∈ m_ws) (K : Sat G E Q cn q ls (.long v :: st) h) : Sat G E Q cn pc ls (st) h := by
  subst hq
  intro p e R s m args below meth c H la locs Qm C hcn hW hS hl hr
  exact lv_ldc2 C.1 C.2.1 C.2.2.2.2.2.1 (C.2.2.2.2.2.2.1 _ hw) hd (K p e R s m args below meth c H la locs Qm C hcn hW hS hl hr)
theorem r_iload_n {G : mG} {E : mEn} {Q : Option Value → mH → Prop} {cn pc : Nat} {ls : List (Option Value)} {st : List Value} {h : mH} {f : Fin 4} {x : Int32} (q : Nat) (hd : decode (mCode E) pc = .ok (.iload_n f, 1)) (hq : pc + 1 = q) (hl : lg ls f = some (.int x)) (K : Sat G E Q cn q ls (.int x :: st) h) : Sat G E Q cn pc ls (st) h := by
  subst hq
  intro p e R s m args below meth c H la locs Qm C hcn hW hS hl9 hr
  exact lv_iload_n C.1 C.2.1 hd rfl (lA_at hl9 hl) (K p e R s m args below meth c H la locs Qm C hcn hW hS hl9 hr)
theorem r_iload {G : mG} {E : mEn} {Q : Option Value → mH → Prop} {cn pc : Nat} {ls : List (Option Value)} {st : List Value} {h : mH} {f : Nat} {x : Int32} (q : Nat) (hd : decode (mCode E) pc = .ok (.iload f, 2)) (hq : pc + 2 = q) (hl : lg ls f = some (.int x)) (K : Sat G E Q cn q ls (.int x :: st) h) : Sat G E Q cn pc ls (st) h := by
  subst hq
  intro p e R s m args below meth c H la locs Qm C hcn hW hS hl9 hr
  exact lv_iload C.1 C.2.1 hd (lA_at hl9 hl) (K p e R s m args below meth c H la locs Qm C hcn hW hS hl9 hr)
theorem r_lload_n {G : mG} {E : mEn} {Q : Option Value → mH → Prop} {cn pc : Nat} {ls : List (Option Value)} {st : List Value} {h : mH} {f : Fin 4} {x : Int64} (q : Nat) (hd : decode (mCode E) pc = .ok (.lload_n f, 1)) (hq : pc + 1 = q) (hl : lg ls f = some (.long x)) (K : Sat G E Q cn q ls (.long x :: st) h) : Sat G E Q cn pc ls (st) h := by
  subst hq
  intro p e R s m args below meth c H la locs Qm C hcn hW hS hl9 hr
  exact lv_lload_n C.1 C.2.1 hd rfl (lA_at hl9 hl) (K p e R s m args below meth c H la locs Qm C hcn hW hS hl9 hr)
theorem r_lload {G : mG} {E : mEn} {Q : Option Value → mH → Prop} {cn pc : Nat} {ls : List (Option Value)} {st : List Value} {h : mH} {f : Nat} {x : Int64} (q : Nat) (hd : decode (mCode E) pc = .ok (.lload f, 2)) (hq : pc + 2 = q) (hl : lg ls f = some (.long x)) (K : Sat G E Q cn q ls (.long x :: st) h) : Sat G E Q cn pc ls (st) h := by
  subst hq
  intro p e R s m args below meth c H la locs Qm C hcn hW hS hl9 hr
  exact lv_lload C.1 C.2.1 hd (lA_at hl9 hl) (K p e R s m args below meth c H la locs Qm C hcn hW hS hl9 hr)
theorem r_aload_n {G : mG} {E : mEn} {Q : Option Value → mH → Prop} {cn pc : Nat} {ls : List (Option Value)} {st : List Value} {h : mH} {f : Fin 4} {x : Nat} (q : Nat) (hd : decode (mCode E) pc = .ok (.aload_n f, 1)) (hq : pc + 1 = q) (hl : lg ls f = some (.ref x)) (K : Sat G E Q cn q ls (.ref x :: st) h) : Sat G E Q cn pc ls (st) h := by
  subst hq
  intro p e R s m args below meth c H la locs Qm C hcn hW hS hl9 hr
  exact lv_aload_n C.1 C.2.1 hd rfl (lA_at hl9 hl) (K p e R s m args below meth c H la locs Qm C hcn hW hS hl9 hr)
theorem r_aload {G : mG} {E : mEn} {Q : Option Value → mH → Prop} {cn pc : Nat} {ls : List (Option Value)} {st : List Value} {h : mH} {f : Nat} {x : Nat} (q : Nat) (hd : decode (mCode E) pc = .ok (.aload f, 2)) (hq : pc + 2 = q) (hl : lg ls f = some (.ref x)) (K : Sat G E Q cn q ls (.ref x :: st) h) : Sat G E Q cn pc ls (st) h := by
  subst hq
  intro p e R s m args below meth c H la locs Qm C hcn hW hS hl9 hr
  exact lv_aload C.1 C.2.1 hd (lA_at hl9 hl) (K p e R s m args below meth c H la locs Qm C hcn hW hS hl9 hr)
theorem r_istore_n {G : mG} {E : mEn} {Q : Option Value → mH → Prop} {cn pc : Nat} {ls : List (Option Value)} {st : List Value} {h : mH} {f : Fin 4} {x : Int32} (q : Nat) (ls1 : List (Option Value)) (hd : decode (mCode E) pc = .ok (.istore_n f, 1)) (hq : pc + 1 = q) (hm : (f : Nat) < mMax E) (hn : mnl ls f = true) (hs : lset ls f (some (.int x)) = ls1) (K : Sat G E Q cn q ls1 st h) : Sat G E Q cn pc ls (.int x :: st) h := by
  subst hq
  subst hs
  intro p e R s m args below meth c H la locs Qm C hcn hW hS hl hr
  exact lv_istore_n C.1 C.2.1 hd rfl hl hm rfl (fun la1 hl1 => K p e R s m args below meth c H la1 locs Qm C hcn hW hS (lv_mono hl1 (lA_set hn)) hr)
theorem r_istore {G : mG} {E : mEn} {Q : Option Value → mH → Prop} {cn pc : Nat} {ls : List (Option Value)} {st : List Value} {h : mH} {f : Nat} {x : Int32} (q : Nat) (ls1 : List (Option Value)) (hd : decode (mCode E) pc = .ok (.istore f, 2)) (hq : pc + 2 = q) (hm : (f : Nat) < mMax E) (hn : mnl ls f = true) (hs : lset ls f (some (.int x)) = ls1) (K : Sat G E Q cn q ls1 st h) : Sat G E Q cn pc ls (.int x :: st) h := by
  subst hq
  subst hs
  intro p e R s m args below meth c H la locs Qm C hcn hW hS hl hr
  exact lv_istore C.1 C.2.1 hd hl hm rfl (fun la1 hl1 => K p e R s m args below meth c H la1 locs Qm C hcn hW hS (lv_mono hl1 (lA_set hn)) hr)
theorem r_astore_n {G : mG} {E : mEn} {Q : Option Value → mH → Prop} {cn pc : Nat} {ls : List (Option Value)} {st : List Value} {h : mH} {f : Fin 4} {x : Nat} (q : Nat) (ls1 : List (Option Value)) (hd : decode (mCode E) pc = .ok (.astore_n f, 1)) (hq : pc + 1 = q) (hm : (f : Nat) < mMax E) (hn : mnl ls f = true) (hs : lset ls f (some (.ref x)) = ls1) (K : Sat G E Q cn q ls1 st h) : Sat G E Q cn pc ls (.ref x :: st) h := by
  subst hq
  subst hs
  intro p e R s m args below meth c H la locs Qm C hcn hW hS hl hr
  exact lv_astore_n C.1 C.2.1 hd rfl hl hm rfl (fun la1 hl1 => K p e R s m args below meth c H la1 locs Qm C hcn hW hS (lv_mono hl1 (lA_set hn)) hr)
theorem r_astore {G : mG} {E : mEn} {Q : Option Value → mH → Prop} {cn pc : Nat} {ls : List (Option Value)} {st : List Value} {h : mH} {f : Nat} {x : Nat} (q : Nat) (ls1 : List (Option Value)) (hd : decode (mCode E) pc = .ok (.astore f, 2)) (hq : pc + 2 = q) (hm : (f : Nat) < mMax E) (hn : mnl ls f = true) (hs : lset ls f (some (.ref x)) = ls1) (K : Sat G E Q cn q ls1 st h) : Sat G E Q cn pc ls (.ref x :: st) h := by
  subst hq
  subst hs
  intro p e R s m args below meth c H la locs Qm C hcn hW hS hl hr
  exact lv_astore C.1 C.2.1 hd hl hm rfl (fun la1 hl1 => K p e R s m args below meth c H la1 locs Qm C hcn hW hS (lv_mono hl1 (lA_set hn)) hr)
theorem r_lstore_n {G : mG} {E : mEn} {Q : Option Value → mH → Prop} {cn pc : Nat} {ls : List (Option Value)} {st : List Value} {h : mH} {f : Fin 4} {x : Int64} (q : Nat) (ls1 : List (Option Value)) (hd : decode (mCode E) pc = .ok (.lstore_n f, 1)) (hq : pc + 1 = q) (hm : (f : Nat) + 1 < mMax E) (hn : mnl ls f = true) (h1 : lg ls ((f : Nat) + 1) = none) (hs : lset ls f (some (.long x)) = ls1) (K : Sat G E Q cn q ls1 st h) : Sat G E Q cn pc ls (.long x :: st) h := by
  subst hq
  subst hs
  intro p e R s m args below meth c H la locs Qm C hcn hW hS hl hr
  exact lv_lstore_n C.1 C.2.1 hd rfl hl hm rfl (fun la1 hl1 => K p e R s m args below meth c H la1 locs Qm C hcn hW hS (lv_mono hl1 (lA_setL hn h1)) hr)
theorem r_lstore {G : mG} {E : mEn} {Q : Option Value → mH → Prop} {cn pc : Nat} {ls : List (Option Value)} {st : List Value} {h : mH} {f : Nat} {x : Int64} (q : Nat) (ls1 : List (Option Value)) (hd : decode (mCode E) pc = .ok (.lstore f, 2)) (hq : pc + 2 = q) (hm : (f : Nat) + 1 < mMax E) (hn : mnl ls f = true) (h1 : lg ls ((f : Nat) + 1) = none) (hs : lset ls f (some (.long x)) = ls1) (K : Sat G E Q cn q ls1 st h) : Sat G E Q cn pc ls (.long x :: st) h := by
  subst hq
  subst hs
  intro p e R s m args below meth c H la locs Qm C hcn hW hS hl hr
  exact lv_lstore C.1 C.2.1 hd hl hm rfl (fun la1 hl1 => K p e R s m args below meth c H la1 locs Qm C hcn hW hS (lv_mono hl1 (lA_setL hn h1)) hr)
theorem r_iinc {G : mG} {E : mEn} {Q : Option Value → mH → Prop} {cn pc : Nat} {ls : List (Option Value)} {st : List Value} {h : mH} {f : Nat} {n : Int} {x v : Int32} (q : Nat) (ls1 : List (Option Value)) (hd : decode (mCode E) pc = .ok (.iinc f n, 3)) (hq : pc + 3 = q) (hg : lg ls f = some (.int x)) (hv : x + Int32.ofInt n = v) (hm : f < mMax E) (hn : mnl ls f = true) (hs : lset ls f (some (.int v)) = ls1) (K : Sat G E Q cn q ls1 st h) : Sat G E Q cn pc ls st h := by
  subst hq
  subst hs
  intro p e R s m args below meth c H la locs Qm C hcn hW hS hl hr
  have h1 := lA_get (G := G) ls 0 f _ hg
  rw [Nat.zero_add] at h1
  obtain ⟨k, hk⟩ := List.getElem?_of_mem h1
  exact lv_iinc C.1 C.2.1 hd hl (k := k) hk hv hm rfl (fun la1 hl1 => K p e R s m args below meth c H la1 locs Qm C hcn hW hS (lv_mono hl1 (lA_set hn)) hr)
theorem r_iincW {G : mG} {E : mEn} {Q : Option Value → mH → Prop} {cn pc : Nat} {ls : List (Option Value)} {st : List Value} {h : mH} {f : Nat} {n : Int} {x v : Int32} (q : Nat) (ls1 : List (Option Value)) (hd : decode (mCode E) pc = .ok (.iinc f n, 6)) (hq : pc + 6 = q) (hg : lg ls f = some (.int x)) (hv : x + Int32.ofInt n = v) (hm : f < mMax E) (hn : mnl ls f = true) (hs : lset ls f (some (.int v)) = ls1) (K : Sat G E Q cn q ls1 st h) : Sat G E Q cn pc ls st h := by
  subst hq
  subst hs
  intro p e R s m args below meth c H la locs Qm C hcn hW hS hl hr
  have h1 := lA_get (G := G) ls 0 f _ hg
  rw [Nat.zero_add] at h1
  obtain ⟨k, hk⟩ := List.getElem?_of_mem h1
  exact lv_iincW C.1 C.2.1 hd hl (k := k) hk hv hm rfl (fun la1 hl1 => K p e R s m args below meth c H la1 locs Qm C hcn hW hS (lv_mono hl1 (lA_set hn)) hr)
theorem r_iadd {G : mG} {E : mEn} {Q : Option Value → mH → Prop} {cn pc : Nat} {ls : List (Option Value)} {st : List Value} {h : mH} {x y : Int32} (q : Nat) (hd : decode (mCode E) pc = .ok (.iadd, 1)) (hq : pc + 1 = q) (K : Sat G E Q cn q ls (.int (x + y) :: st) h) : Sat G E Q cn pc ls (.int y :: .int x :: st) h := by
  subst hq
  intro p e R s m args below meth c H la locs Qm C hcn hW hS hl hr
  exact lv_iadd C.1 C.2.1 hd (K p e R s m args below meth c H la locs Qm C hcn hW hS hl hr)
theorem r_isub {G : mG} {E : mEn} {Q : Option Value → mH → Prop} {cn pc : Nat} {ls : List (Option Value)} {st : List Value} {h : mH} {x y : Int32} (q : Nat) (hd : decode (mCode E) pc = .ok (.isub, 1)) (hq : pc + 1 = q) (K : Sat G E Q cn q ls (.int (x - y) :: st) h) : Sat G E Q cn pc ls (.int y :: .int x :: st) h := by
  subst hq
  intro p e R s m args below meth c H la locs Qm C hcn hW hS hl hr
  exact lv_isub C.1 C.2.1 hd (K p e R s m args below meth c H la locs Qm C hcn hW hS hl hr)
theorem r_imul {G : mG} {E : mEn} {Q : Option Value → mH → Prop} {cn pc : Nat} {ls : List (Option Value)} {st : List Value} {h : mH} {x y : Int32} (q : Nat) (hd : decode (mCode E) pc = .ok (.imul, 1)) (hq : pc + 1 = q) (K : Sat G E Q cn q ls (.int (x * y) :: st) h) : Sat G E Q cn pc ls (.int y :: .int x :: st) h := by
  subst hq
  intro p e R s m args below meth c H la locs Qm C hcn hW hS hl hr
  exact lv_imul C.1 C.2.1 hd (K p e R s m args below meth c H la locs Qm C hcn hW hS hl hr)
theorem r_iand {G : mG} {E : mEn} {Q : Option Value → mH → Prop} {cn pc : Nat} {ls : List (Option Value)} {st : List Value} {h : mH} {x y : Int32} (q : Nat) (hd : decode (mCode E) pc = .ok (.iand, 1)) (hq : pc + 1 = q) (K : Sat G E Q cn q ls (.int (x &&& y) :: st) h) : Sat G E Q cn pc ls (.int y :: .int x :: st) h := by
  subst hq
  intro p e R s m args below meth c H la locs Qm C hcn hW hS hl hr
  exact lv_iand C.1 C.2.1 hd (K p e R s m args below meth c H la locs Qm C hcn hW hS hl hr)
theorem r_ior {G : mG} {E : mEn} {Q : Option Value → mH → Prop} {cn pc : Nat} {ls : List (Option Value)} {st : List Value} {h : mH} {x y : Int32} (q : Nat) (hd : decode (mCode E) pc = .ok (.ior, 1)) (hq : pc + 1 = q) (K : Sat G E Q cn q ls (.int (x ||| y) :: st) h) : Sat G E Q cn pc ls (.int y :: .int x :: st) h := by
  subst hq
  intro p e R s m args below meth c H la locs Qm C hcn hW hS hl hr
  exact lv_ior C.1 C.2.1 hd (K p e R s m args below meth c H la locs Qm C hcn hW hS hl hr)
theorem r_ixor {G : mG} {E : mEn} {Q : Option Value → mH → Prop} {cn pc : Nat} {ls : List (Option Value)} {st : List Value} {h : mH} {x y : Int32} (q : Nat) (hd : decode (mCode E) pc = .ok (.ixor, 1)) (hq : pc + 1 = q) (K : Sat G E Q cn q ls (.int (x ^^^ y) :: st) h) : Sat G E Q cn pc ls (.int y :: .int x :: st) h := by
  subst hq
  intro p e R s m args below meth c H la locs Qm C hcn hW hS hl hr
  exact lv_ixor C.1 C.2.1 hd (K p e R s m args below meth c H la locs Qm C hcn hW hS hl hr)
theorem r_ishl {G : mG} {E : mEn} {Q : Option Value → mH → Prop} {cn pc : Nat} {ls : List (Option Value)} {st : List Value} {h : mH} {x y : Int32} (q : Nat) (hd : decode (mCode E) pc = .ok (.ishl, 1)) (hq : pc + 1 = q) (K : Sat G E Q cn q ls (.int (x <<< (y &&& 31)) :: st) h) : Sat G E Q cn pc ls (.int y :: .int x :: st) h := by
  subst hq
  intro p e R s m args below meth c H la locs Qm C hcn hW hS hl hr
  exact lv_ishl C.1 C.2.1 hd (K p e R s m args below meth c H la locs Qm C hcn hW hS hl hr)
theorem r_iushr {G : mG} {E : mEn} {Q : Option Value → mH → Prop} {cn pc : Nat} {ls : List (Option Value)} {st : List Value} {h : mH} {x y : Int32} (q : Nat) (hd : decode (mCode E) pc = .ok (.iushr, 1)) (hq : pc + 1 = q) (K : Sat G E Q cn q ls (.int ((x.toUInt32 >>> (y.toUInt32 &&& Int32.toUInt32 31)).toInt32) :: st) h) : Sat G E Q cn pc ls (.int y :: .int x :: st) h := by
  subst hq
  intro p e R s m args below meth c H la locs Qm C hcn hW hS hl hr
  exact lv_iushr C.1 C.2.1 hd rfl (K p e R s m args below meth c H la locs Qm C hcn hW hS hl hr)
theorem r_idiv {G : mG} {E : mEn} {Q : Option Value → mH → Prop} {cn pc : Nat} {ls : List (Option Value)} {st : List Value} {h : mH} {x y : Int32} (q : Nat) (hd : decode (mCode E) pc = .ok (.idiv, 1)) (hq : pc + 1 = q) (hne : ¬ y = 0) (K : Sat G E Q cn q ls (.int (x / y) :: st) h) : Sat G E Q cn pc ls (.int y :: .int x :: st) h := by
  subst hq
  intro p e R s m args below meth c H la locs Qm C hcn hW hS hl hr
  exact lv_idiv C.1 C.2.1 hd hne (K p e R s m args below meth c H la locs Qm C hcn hW hS hl hr)
theorem r_irem {G : mG} {E : mEn} {Q : Option Value → mH → Prop} {cn pc : Nat} {ls : List (Option Value)} {st : List Value} {h : mH} {x y : Int32} (q : Nat) (hd : decode (mCode E) pc = .ok (.irem, 1)) (hq : pc + 1 = q) (hne : ¬ y = 0) (K : Sat G E Q cn q ls (.int (x - x / y * y) :: st) h) : Sat G E Q cn pc ls (.int y :: .int x :: st) h := by
  subst hq
  intro p e R s m args below meth c H la locs Qm C hcn hW hS hl hr
  exact lv_irem C.1 C.2.1 hd hne (K p e R s m args below meth c H la locs Qm C hcn hW hS hl hr)
theorem r_ineg {G : mG} {E : mEn} {Q : Option Value → mH → Prop} {cn pc : Nat} {ls : List (Option Value)} {st : List Value} {h : mH} {x : Int32} (q : Nat) (hd : decode (mCode E) pc = .ok (.ineg, 1)) (hq : pc + 1 = q) (K : Sat G E Q cn q ls (.int (-x) :: st) h) : Sat G E Q cn pc ls (.int x :: st) h := by
  subst hq
  intro p e R s m args below meth c H la locs Qm C hcn hW hS hl hr
  exact lv_ineg C.1 C.2.1 hd (K p e R s m args below meth c H la locs Qm C hcn hW hS hl hr)
theorem r_ladd {G : mG} {E : mEn} {Q : Option Value → mH → Prop} {cn pc : Nat} {ls : List (Option Value)} {st : List Value} {h : mH} {x y : Int64} (q : Nat) (hd : decode (mCode E) pc = .ok (.ladd, 1)) (hq : pc + 1 = q) (K : Sat G E Q cn q ls (.long (x + y) :: st) h) : Sat G E Q cn pc ls (.long y :: .long x :: st) h := by
  subst hq
  intro p e R s m args below meth c H la locs Qm C hcn hW hS hl hr
  exact lv_ladd C.1 C.2.1 hd (K p e R s m args below meth c H la locs Qm C hcn hW hS hl hr)
theorem r_land {G : mG} {E : mEn} {Q : Option Value → mH → Prop} {cn pc : Nat} {ls : List (Option Value)} {st : List Value} {h : mH} {x y : Int64} (q : Nat) (hd : decode (mCode E) pc = .ok (.land, 1)) (hq : pc + 1 = q) (K : Sat G E Q cn q ls (.long (x &&& y) :: st) h) : Sat G E Q cn pc ls (.long y :: .long x :: st) h := by
  subst hq
  intro p e R s m args below meth c H la locs Qm C hcn hW hS hl hr
  exact lv_land C.1 C.2.1 hd (K p e R s m args below meth c H la locs Qm C hcn hW hS hl hr)
theorem r_lor {G : mG} {E : mEn} {Q : Option Value → mH → Prop} {cn pc : Nat} {ls : List (Option Value)} {st : List Value} {h : mH} {x y : Int64} (q : Nat) (hd : decode (mCode E) pc = .ok (.lor, 1)) (hq : pc + 1 = q) (K : Sat G E Q cn q ls (.long (x ||| y) :: st) h) : Sat G E Q cn pc ls (.long y :: .long x :: st) h := by
  subst hq
  intro p e R s m args below meth c H la locs Qm C hcn hW hS hl hr
  exact lv_lor C.1 C.2.1 hd (K p e R s m args below meth c H la locs Qm C hcn hW hS hl hr)
theorem r_lshl {G : mG} {E : mEn} {Q : Option Value → mH → Prop} {cn pc : Nat} {ls : List (Option Value)} {st : List Value} {h : mH} {x : Int64} {y : Int32} (q : Nat) (hd : decode (mCode E) pc = .ok (.lshl, 1)) (hq : pc + 1 = q) (K : Sat G E Q cn q ls (.long (x <<< (y.toInt64 &&& 63)) :: st) h) : Sat G E Q cn pc ls (.int y :: .long x :: st) h := by
  subst hq
  intro p e R s m args below meth c H la locs Qm C hcn hW hS hl hr
  exact lv_lshl C.1 C.2.1 hd rfl (K p e R s m args below meth c H la locs Qm C hcn hW hS hl hr)
theorem r_lcmp {G : mG} {E : mEn} {Q : Option Value → mH → Prop} {cn pc : Nat} {ls : List (Option Value)} {st : List Value} {h : mH} {x y : Int64} (q : Nat) (hd : decode (mCode E) pc = .ok (.lcmp, 1)) (hq : pc + 1 = q) (K : Sat G E Q cn q ls (.int (lg_cmp x y) :: st) h) : Sat G E Q cn pc ls (.long y :: .long x :: st) h := by
  subst hq
  intro p e R s m args below meth c H la locs Qm C hcn hW hS hl hr
  exact W.lcmp C.1 C.2.1 hd (K p e R s m args below meth c H la locs Qm C hcn hW hS hl hr)
theorem r_i2l {G : mG} {E : mEn} {Q : Option Value → mH → Prop} {cn pc : Nat} {ls : List (Option Value)} {st : List Value} {h : mH} {x : Int32} (q : Nat) (hd : decode (mCode E) pc = .ok (.i2l, 1)) (hq : pc + 1 = q) (K : Sat G E Q cn q ls (.long x.toInt64 :: st) h) : Sat G E Q cn pc ls (.int x :: st) h := by
  subst hq
  intro p e R s m args below meth c H la locs Qm C hcn hW hS hl hr
  exact lv_i2l C.1 C.2.1 hd rfl (K p e R s m args below meth c H la locs Qm C hcn hW hS hl hr)
theorem r_l2i {G : mG} {E : mEn} {Q : Option Value → mH → Prop} {cn pc : Nat} {ls : List (Option Value)} {st : List Value} {h : mH} {x : Int64} (q : Nat) (hd : decode (mCode E) pc = .ok (.l2i, 1)) (hq : pc + 1 = q) (K : Sat G E Q cn q ls (.int x.toInt32 :: st) h) : Sat G E Q cn pc ls (.long x :: st) h := by
  subst hq
  intro p e R s m args below meth c H la locs Qm C hcn hW hS hl hr
  exact lv_l2i C.1 C.2.1 hd rfl (K p e R s m args below meth c H la locs Qm C hcn hW hS hl hr)
theorem r_i2b {G : mG} {E : mEn} {Q : Option Value → mH → Prop} {cn pc : Nat} {ls : List (Option Value)} {st : List Value} {h : mH} {x : Int32} (q : Nat) (hd : decode (mCode E) pc = .ok (.i2b, 1)) (hq : pc + 1 = q) (K : Sat G E Q cn q ls (.int x.toInt8.toInt32 :: st) h) : Sat G E Q cn pc ls (.int x :: st) h := by
  subst hq
  intro p e R s m args below meth c H la locs Qm C hcn hW hS hl hr
  exact lv_i2b C.1 C.2.1 hd rfl (K p e R s m args below meth c H la locs Qm C hcn hW hS hl hr)
theorem r_i2s {G : mG} {E : mEn} {Q : Option Value → mH → Prop} {cn pc : Nat} {ls : List (Option Value)} {st : List Value} {h : mH} {x : Int32} (q : Nat) (hd : decode (mCode E) pc = .ok (.i2s, 1)) (hq : pc + 1 = q) (K : Sat G E Q cn q ls (.int x.toInt16.toInt32 :: st) h) : Sat G E Q cn pc ls (.int x :: st) h := by
  subst hq
  intro p e R s m args below meth c H la locs Qm C hcn hW hS hl hr
  exact lv_i2s C.1 C.2.1 hd rfl (K p e R s m args below meth c H la locs Qm C hcn hW hS hl hr)
theorem r_dup {G : mG} {E : mEn} {Q : Option Value → mH → Prop} {cn pc : Nat} {ls : List (Option Value)} {st : List Value} {h : mH} {v : Value} (q : Nat) (hd : decode (mCode E) pc = .ok (.dup, 1)) (hq : pc + 1 = q) (hc : v.category = 1) (K : Sat G E Q cn q ls (v :: v :: st) h) : Sat G E Q cn pc ls (v :: st) h := by
  subst hq
  intro p e R s m args below meth c H la locs Qm C hcn hW hS hl hr
  exact lv_dup C.1 C.2.1 hd (by rw [tr_cat]; exact hc) (K p e R s m args below meth c H la locs Qm C hcn hW hS hl hr)
theorem r_pop {G : mG} {E : mEn} {Q : Option Value → mH → Prop} {cn pc : Nat} {ls : List (Option Value)} {st : List Value} {h : mH} {v : Value} (q : Nat) (hd : decode (mCode E) pc = .ok (.pop, 1)) (hq : pc + 1 = q) (hc : v.category = 1) (K : Sat G E Q cn q ls (st) h) : Sat G E Q cn pc ls (v :: st) h := by
  subst hq
  intro p e R s m args below meth c H la locs Qm C hcn hW hS hl hr
  exact lv_pop C.1 C.2.1 hd (by rw [tr_cat]; exact hc) (K p e R s m args below meth c H la locs Qm C hcn hW hS hl hr)
theorem r_dup2 {G : mG} {E : mEn} {Q : Option Value → mH → Prop} {cn pc : Nat} {ls : List (Option Value)} {st : List Value} {h : mH} {v w : Value} (q : Nat) (hd : decode (mCode E) pc = .ok (.dup2, 1)) (hq : pc + 1 = q) (hc : v.category = 1) (hc2 : w.category = 1) (K : Sat G E Q cn q ls (v :: w :: v :: w :: st) h) : Sat G E Q cn pc ls (v :: w :: st) h := by
  subst hq
  intro p e R s m args below meth c H la locs Qm C hcn hW hS hl hr
  exact lv_dup2_11 C.1 C.2.1 hd (by rw [tr_cat]; exact hc) (by rw [tr_cat]; exact hc2) (K p e R s m args below meth c H la locs Qm C hcn hW hS hl hr)
theorem r_if_eq {G : mG} {E : mEn} {Q : Option Value → mH → Prop} {cn pc : Nat} {ls : List (Option Value)} {st : List Value} {h : mH} {x : Int32} {off : Int} (t q : Nat) (hd : decode (mCode E) pc = .ok (.ifCond .eq off, 3)) (ht : (pc : Int) + off = (t : Int)) (hq : pc + 3 = q) (kt : x = 0 → Sat G E Q cn t ls st h) (kf : ¬ x = 0 → Sat G E Q cn q ls st h) : Sat G E Q cn pc ls (.int x :: st) h := by
  subst hq
  intro p e R s m args below meth c H la locs Qm C hcn hW hS hl hr
  exact lv_if_eq C.1 C.2.1 hd ht (fun z => kt z p e R s m args below meth c H la locs Qm C hcn hW hS hl hr) (fun z => kf z p e R s m args below meth c H la locs Qm C hcn hW hS hl hr)
theorem r_icmp_eq {G : mG} {E : mEn} {Q : Option Value → mH → Prop} {cn pc : Nat} {ls : List (Option Value)} {st : List Value} {h : mH} {x y : Int32} {off : Int} (t q : Nat) (hd : decode (mCode E) pc = .ok (.if_icmp .eq off, 3)) (ht : (pc : Int) + off = (t : Int)) (hq : pc + 3 = q) (kt : x = y → Sat G E Q cn t ls st h) (kf : ¬ x = y → Sat G E Q cn q ls st h) : Sat G E Q cn pc ls (.int y :: .int x :: st) h := by
  subst hq
  intro p e R s m args below meth c H la locs Qm C hcn hW hS hl hr
  exact lv_icmp_eq C.1 C.2.1 hd ht (fun z => kt z p e R s m args below meth c H la locs Qm C hcn hW hS hl hr) (fun z => kf z p e R s m args below meth c H la locs Qm C hcn hW hS hl hr)
theorem r_if_ne {G : mG} {E : mEn} {Q : Option Value → mH → Prop} {cn pc : Nat} {ls : List (Option Value)} {st : List Value} {h : mH} {x : Int32} {off : Int} (t q : Nat) (hd : decode (mCode E) pc = .ok (.ifCond .ne off, 3)) (ht : (pc : Int) + off = (t : Int)) (hq : pc + 3 = q) (kt : ¬ x = 0 → Sat G E Q cn t ls st h) (kf : x = 0 → Sat G E Q cn q ls st h) : Sat G E Q cn pc ls (.int x :: st) h := by
  subst hq
  intro p e R s m args below meth c H la locs Qm C hcn hW hS hl hr
  exact lv_if_ne C.1 C.2.1 hd ht (fun z => kt z p e R s m args below meth c H la locs Qm C hcn hW hS hl hr) (fun z => kf z p e R s m args below meth c H la locs Qm C hcn hW hS hl hr)
theorem r_icmp_ne {G : mG} {E : mEn} {Q : Option Value → mH → Prop} {cn pc : Nat} {ls : List (Option Value)} {st : List Value} {h : mH} {x y : Int32} {off : Int} (t q : Nat) (hd : decode (mCode E) pc = .ok (.if_icmp .ne off, 3)) (ht : (pc : Int) + off = (t : Int)) (hq : pc + 3 = q) (kt : ¬ x = y → Sat G E Q cn t ls st h) (kf : x = y → Sat G E Q cn q ls st h) : Sat G E Q cn pc ls (.int y :: .int x :: st) h := by
  subst hq
  intro p e R s m args below meth c H la locs Qm C hcn hW hS hl hr
  exact lv_icmp_ne C.1 C.2.1 hd ht (fun z => kt z p e R s m args below meth c H la locs Qm C hcn hW hS hl hr) (fun z => kf z p e R s m args below meth c H la locs Qm C hcn hW hS hl hr)
theorem r_if_lt {G : mG} {E : mEn} {Q : Option Value → mH → Prop} {cn pc : Nat} {ls : List (Option Value)} {st : List Value} {h : mH} {x : Int32} {off : Int} (t q : Nat) (hd : decode (mCode E) pc = .ok (.ifCond .lt off, 3)) (ht : (pc : Int) + off = (t : Int)) (hq : pc + 3 = q) (kt : x < 0 → Sat G E Q cn t ls st h) (kf : ¬ x < 0 → Sat G E Q cn q ls st h) : Sat G E Q cn pc ls (.int x :: st) h := by
  subst hq
  intro p e R s m args below meth c H la locs Qm C hcn hW hS hl hr
  exact lv_if_lt C.1 C.2.1 hd ht (fun z => kt z p e R s m args below meth c H la locs Qm C hcn hW hS hl hr) (fun z => kf z p e R s m args below meth c H la locs Qm C hcn hW hS hl hr)
theorem r_icmp_lt {G : mG} {E : mEn} {Q : Option Value → mH → Prop} {cn pc : Nat} {ls : List (Option Value)} {st : List Value} {h : mH} {x y : Int32} {off : Int} (t q : Nat) (hd : decode (mCode E) pc = .ok (.if_icmp .lt off, 3)) (ht : (pc : Int) + off = (t : Int)) (hq : pc + 3 = q) (kt : x < y → Sat G E Q cn t ls st h) (kf : ¬ x < y → Sat G E Q cn q ls st h) : Sat G E Q cn pc ls (.int y :: .int x :: st) h := by
  subst hq
  intro p e R s m args below meth c H la locs Qm C hcn hW hS hl hr
  exact lv_icmp_lt C.1 C.2.1 hd ht (fun z => kt z p e R s m args below meth c H la locs Qm C hcn hW hS hl hr) (fun z => kf z p e R s m args below meth c H la locs Qm C hcn hW hS hl hr)
theorem r_if_ge {G : mG} {E : mEn} {Q : Option Value → mH → Prop} {cn pc : Nat} {ls : List (Option Value)} {st : List Value} {h : mH} {x : Int32} {off : Int} (t q : Nat) (hd : decode (mCode E) pc = .ok (.ifCond .ge off, 3)) (ht : (pc : Int) + off = (t : Int)) (hq : pc + 3 = q) (kt : 0 ≤ x → Sat G E Q cn t ls st h) (kf : ¬ 0 ≤ x → Sat G E Q cn q ls st h) : Sat G E Q cn pc ls (.int x :: st) h := by
  subst hq
  intro p e R s m args below meth c H la locs Qm C hcn hW hS hl hr
  exact lv_if_ge C.1 C.2.1 hd ht (fun z => kt z p e R s m args below meth c H la locs Qm C hcn hW hS hl hr) (fun z => kf z p e R s m args below meth c H la locs Qm C hcn hW hS hl hr)
theorem r_icmp_ge {G : mG} {E : mEn} {Q : Option Value → mH → Prop} {cn pc : Nat} {ls : List (Option Value)} {st : List Value} {h : mH} {x y : Int32} {off : Int} (t q : Nat) (hd : decode (mCode E) pc = .ok (.if_icmp .ge off, 3)) (ht : (pc : Int) + off = (t : Int)) (hq : pc + 3 = q) (kt : y ≤ x → Sat G E Q cn t ls st h) (kf : ¬ y ≤ x → Sat G E Q cn q ls st h) : Sat G E Q cn pc ls (.int y :: .int x :: st) h := by
  subst hq
  intro p e R s m args below meth c H la locs Qm C hcn hW hS hl hr
  exact lv_icmp_ge C.1 C.2.1 hd ht (fun z => kt z p e R s m args below meth c H la locs Qm C hcn hW hS hl hr) (fun z => kf z p e R s m args below meth c H la locs Qm C hcn hW hS hl hr)
theorem r_if_gt {G : mG} {E : mEn} {Q : Option Value → mH → Prop} {cn pc : Nat} {ls : List (Option Value)} {st : List Value} {h : mH} {x : Int32} {off : Int} (t q : Nat) (hd : decode (mCode E) pc = .ok (.ifCond .gt off, 3)) (ht : (pc : Int) + off = (t : Int)) (hq : pc + 3 = q) (kt : 0 < x → Sat G E Q cn t ls st h) (kf : ¬ 0 < x → Sat G E Q cn q ls st h) : Sat G E Q cn pc ls (.int x :: st) h := by
  subst hq
  intro p e R s m args below meth c H la locs Qm C hcn hW hS hl hr
  exact lv_if_gt C.1 C.2.1 hd ht (fun z => kt z p e R s m args below meth c H la locs Qm C hcn hW hS hl hr) (fun z => kf z p e R s m args below meth c H la locs Qm C hcn hW hS hl hr)
theorem r_icmp_gt {G : mG} {E : mEn} {Q : Option Value → mH → Prop} {cn pc : Nat} {ls : List (Option Value)} {st : List Value} {h : mH} {x y : Int32} {off : Int} (t q : Nat) (hd : decode (mCode E) pc = .ok (.if_icmp .gt off, 3)) (ht : (pc : Int) + off = (t : Int)) (hq : pc + 3 = q) (kt : y < x → Sat G E Q cn t ls st h) (kf : ¬ y < x → Sat G E Q cn q ls st h) : Sat G E Q cn pc ls (.int y :: .int x :: st) h := by
  subst hq
  intro p e R s m args below meth c H la locs Qm C hcn hW hS hl hr
  exact lv_icmp_gt C.1 C.2.1 hd ht (fun z => kt z p e R s m args below meth c H la locs Qm C hcn hW hS hl hr) (fun z => kf z p e R s m args below meth c H la locs Qm C hcn hW hS hl hr)
theorem r_if_le {G : mG} {E : mEn} {Q : Option Value → mH → Prop} {cn pc : Nat} {ls : List (Option Value)} {st : List Value} {h : mH} {x : Int32} {off : Int} (t q : Nat) (hd : decode (mCode E) pc = .ok (.ifCond .le off, 3)) (ht : (pc : Int) + off = (t : Int)) (hq : pc + 3 = q) (kt : x ≤ 0 → Sat G E Q cn t ls st h) (kf : ¬ x ≤ 0 → Sat G E Q cn q ls st h) : Sat G E Q cn pc ls (.int x :: st) h := by
  subst hq
  intro p e R s m args below meth c H la locs Qm C hcn hW hS hl hr
  exact lv_if_le C.1 C.2.1 hd ht (fun z => kt z p e R s m args below meth c H la locs Qm C hcn hW hS hl hr) (fun z => kf z p e R s m args below meth c H la locs Qm C hcn hW hS hl hr)
theorem r_icmp_le {G : mG} {E : mEn} {Q : Option Value → mH → Prop} {cn pc : Nat} {ls : List (Option Value)} {st : List Value} {h : mH} {x y : Int32} {off : Int} (t q : Nat) (hd : decode (mCode E) pc = .ok (.if_icmp .le off, 3)) (ht : (pc : Int) + off = (t : Int)) (hq : pc + 3 = q) (kt : x ≤ y → Sat G E Q cn t ls st h) (kf : ¬ x ≤ y → Sat G E Q cn q ls st h) : Sat G E Q cn pc ls (.int y :: .int x :: st) h := by
  subst hq
  intro p e R s m args below meth c H la locs Qm C hcn hW hS hl hr
  exact lv_icmp_le C.1 C.2.1 hd ht (fun z => kt z p e R s m args below meth c H la locs Qm C hcn hW hS hl hr) (fun z => kf z p e R s m args below meth c H la locs Qm C hcn hW hS hl hr)
theorem r_goto {G : mG} {E : mEn} {Q : Option Value → mH → Prop} {cn pc : Nat} {ls : List (Option Value)} {st : List Value} {h : mH} {off : Int} (t : Nat) (hd : decode (mCode E) pc = .ok (.goto off, 3)) (ht : (pc : Int) + off = (t : Int)) (K : Sat G E Q cn t ls st h) : Sat G E Q cn pc ls st h := by
  intro p e R s m args below meth c H la locs Qm C hcn hW hS hl hr
  exact lv_goto C.1 C.2.1 hd ht (K p e R s m args below meth c H la locs Qm C hcn hW hS hl hr)
theorem r_lookup {G : mG} {E : mEn} {Q : Option Value → mH → Prop} {cn pc : Nat} {ls : List (Option Value)} {st : List Value} {h : mH} {dflt off : Int} {ps : Array (Int × Int)} {len : Nat} {x : Int32} (t : Nat) (hd : decode (mCode E) pc = .ok (.lookupswitch dflt ps, len)) (hp : (ps.toList.zip (ps.toList.drop 1)).all (fun (a, next) => a.1 < next.1) = true) (ho : Op.lookupswitch.offset ps.toList dflt x.toInt = off) (ht : (pc : Int) + off = (t : Int)) (K : Sat G E Q cn t ls st h) : Sat G E Q cn pc ls (.int x :: st) h := by
  intro p e R s m args below meth c H la locs Qm C hcn hW hS hl hr
  exact lv_lookup C.1 C.2.1 hd hp ho ht (K p e R s m args below meth c H la locs Qm C hcn hW hS hl hr)
theorem r_tableOut {G : mG} {E : mEn} {Q : Option Value → mH → Prop} {cn pc : Nat} {ls : List (Option Value)} {st : List Value} {h : mH} {dflt lo hi : Int} {offs : Array Int} {len : Nat} {x : Int32} (t : Nat) (hd : decode (mCode E) pc = .ok (.tableswitch dflt lo hi offs, len)) (hx : x.toInt < lo ∨ hi < x.toInt) (ht : (pc : Int) + dflt = (t : Int)) (K : Sat G E Q cn t ls st h) : Sat G E Q cn pc ls (.int x :: st) h := by
  intro p e R s m args below meth c H la locs Qm C hcn hW hS hl hr
  exact lv_tableOut C.1 C.2.1 hd hx ht (K p e R s m args below meth c H la locs Qm C hcn hW hS hl hr)
theorem r_tableIn {G : mG} {E : mEn} {Q : Option Value → mH → Prop} {cn pc : Nat} {ls : List (Option Value)} {st : List Value} {h : mH} {dflt lo hi off : Int} {offs : Array Int} {len : Nat} {x : Int32} (t : Nat) (hd : decode (mCode E) pc = .ok (.tableswitch dflt lo hi offs, len)) (h1 : ¬ x.toInt < lo) (h2 : ¬ hi < x.toInt) (ho : offs[(x.toInt - lo).toNat]? = some off) (ht : (pc : Int) + off = (t : Int)) (K : Sat G E Q cn t ls st h) : Sat G E Q cn pc ls (.int x :: st) h := by
  intro p e R s m args below meth c H la locs Qm C hcn hW hS hl hr
  exact lv_tableIn C.1 C.2.1 hd h1 h2 ho ht (K p e R s m args below meth c H la locs Qm C hcn hW hS hl hr)
