-- ===== X10_init at 2
theorem d_X10_init_0 : decode cX10_init 0 = .ok (.aload_n 0, 1) := by decide +kernel
theorem d_X10_init_1 : decode cX10_init 1 = .ok (.invokespecial 3, 3) := by decide +kernel
theorem d_X10_init_4 : decode cX10_init 4 = .ok (.aload_n 0, 1) := by decide +kernel
theorem d_X10_init_5 : decode cX10_init 5 = .ok (.bipush 7, 2) := by decide +kernel
theorem d_X10_init_7 : decode cX10_init 7 = .ok (.newarray .int, 2) := by decide +kernel
theorem d_X10_init_9 : decode cX10_init 9 = .ok (.putfield 9, 3) := by decide +kernel
theorem d_X10_init_12 : decode cX10_init 12 = .ok (.aload_n 0, 1) := by decide +kernel
theorem d_X10_init_13 : decode cX10_init 13 = .ok (.getfield 9, 3) := by decide +kernel
theorem d_X10_init_16 : decode cX10_init 16 = .ok (.iconst 5, 1) := by decide +kernel
theorem d_X10_init_17 : decode cX10_init 17 = .ok (.bipush 10, 2) := by decide +kernel
theorem d_X10_init_19 : decode cX10_init 19 = .ok (.iastore, 1) := by decide +kernel
theorem d_X10_init_20 : decode cX10_init 20 = .ok (.aload_n 0, 1) := by decide +kernel
theorem d_X10_init_21 : decode cX10_init 21 = .ok (.getfield 9, 3) := by decide +kernel
theorem d_X10_init_24 : decode cX10_init 24 = .ok (.bipush 6, 2) := by decide +kernel
theorem d_X10_init_26 : decode cX10_init 26 = .ok (.bipush 20, 2) := by decide +kernel
theorem d_X10_init_28 : decode cX10_init 28 = .ok (.iastore, 1) := by decide +kernel
theorem d_X10_init_29 : decode cX10_init 29 = .ok (.aload_n 0, 1) := by decide +kernel
theorem d_X10_init_30 : decode cX10_init 30 = .ok (.iconst 2, 1) := by decide +kernel
theorem d_X10_init_31 : decode cX10_init 31 = .ok (.newarray .int, 2) := by decide +kernel
theorem d_X10_init_33 : decode cX10_init 33 = .ok (.putfield 15, 3) := by decide +kernel
theorem d_X10_init_36 : decode cX10_init 36 = .ok (.aload_n 0, 1) := by decide +kernel
theorem d_X10_init_37 : decode cX10_init 37 = .ok (.iconst 2, 1) := by decide +kernel
theorem d_X10_init_38 : decode cX10_init 38 = .ok (.newarray .int, 2) := by decide +kernel
theorem d_X10_init_40 : decode cX10_init 40 = .ok (.putfield 18, 3) := by decide +kernel
theorem d_X10_init_43 : decode cX10_init 43 = .ok (.return_, 1) := by decide +kernel
def e_X10_init_2 : mEn := (m_s0, (cX10_init, 1, none, "OneHandEach$Town", true), 1, 2, 5)
theorem k_X10_init_2 : mCalI yX10_init (cX10_init, 1, none, "OneHandEach$Town", true) 0 := ⟨⟨q_97, q_70, ⟨by decide +kernel, by decide +kernel, by decide +kernel⟩, by decide⟩, q_96, rfl, rfl⟩
def w_X10_init_2 (h : mH) (Q : mH → Prop) : Prop :=
  ∀ h1 : mH, h1 = zo h 2 → ∀ h2 : mH, h2 = si h1 1 0 (nI (2 + 1)) → gi h2 1 0 = nI 3 ∧ ∀ h3 : mH, h3 = si h2 2 5 10 → gi h3 1 0 = nI 3 ∧ ∀ h4 : mH, h4 = si h3 2 6 20 → ∀ h5 : mH, h5 = zo h4 3 → ∀ h6 : mH, h6 = si h5 1 1 (nI (3 + 1)) → ∀ h7 : mH, h7 = zo h6 4 → ∀ h8 : mH, h8 = si h7 1 2 (nI (4 + 1)) → Q h8
set_option maxRecDepth 100000 in
theorem s_X10_init_2 {G : mG} {h : mH} {Q : mH → Prop} (hw : w_X10_init_2 h Q) : mConV G yX10_init e_X10_init_2 [.ref 1] h Q := by
  refine mConV_of (ls := [some (.ref 1)]) 0 (plainFor_of_name (by decide +kernel)) rfl (fun _ => rfl) (Nat.le_of_ble_eq_true rfl) rfl (Nat.le_of_ble_eq_true rfl) ?_
  unfold w_X10_init_2 at hw
  refine r_aload_n 1 d_X10_init_0 rfl rfl ?_
  refine r_oinit 4 d_X10_init_1 rfl q_98 q_91 q_92 (Nat.le_of_ble_eq_true rfl) (Nat.le_of_ble_eq_true rfl) ?_
  refine r_aload_n 5 d_X10_init_4 rfl rfl ?_
  refine r_bipush (v := 7) 7 d_X10_init_5 rfl (by decide) ?_
  refine r_newai 9 d_X10_init_7 rfl q_114 sh_2 (by decide) (by decide) (by decide) (by decide) (by decide) ?_
  refine m_nmh (fun h1 eh1 => ?_)
  have hw := hw h1 eh1
  refine r_putD (k := 0) 12 d_X10_init_9 rfl cl_10 sh_1 (show 1 < 3 by decide) (Nat.le_of_ble_eq_true rfl) rfl q_99 (Or.inr ⟨rfl, rfl, rfl⟩) rfl rfl (by decide) (fun _ => rfl) (fun _ => rfl) ?_
  refine m_nmh (fun h2 eh2 => ?_)
  have hw := hw h2 eh2
  refine r_aload_n 13 d_X10_init_12 rfl rfl ?_
  obtain ⟨hg, hw⟩ := hw
  refine r_getD (k := 0) (j := 2) 16 d_X10_init_13 rfl cl_10 sh_1 (show 1 < 3 by decide) (Nat.le_of_ble_eq_true rfl) rfl q_99 rfl rfl hg (by decide) ?_
  refine r_iconst (v := 5) 17 d_X10_init_16 rfl (by decide) ?_
  refine r_bipush (v := 10) 19 d_X10_init_17 rfl (by decide) ?_
  refine r_iast 20 d_X10_init_19 rfl sh_2 (show 2 < 3 by decide) (k9 := 5) (vpd (by decide)) (by decide) ?_
  refine m_nmh (fun h3 eh3 => ?_)
  have hw := hw h3 eh3
  refine r_aload_n 21 d_X10_init_20 rfl rfl ?_
  obtain ⟨hg, hw⟩ := hw
  refine r_getD (k := 0) (j := 2) 24 d_X10_init_21 rfl cl_10 sh_1 (show 1 < 3 by decide) (Nat.le_of_ble_eq_true rfl) rfl q_99 rfl rfl hg (by decide) ?_
  refine r_bipush (v := 6) 26 d_X10_init_24 rfl (by decide) ?_
  refine r_bipush (v := 20) 28 d_X10_init_26 rfl (by decide) ?_
  refine r_iast 29 d_X10_init_28 rfl sh_2 (show 2 < 3 by decide) (k9 := 6) (vpd (by decide)) (by decide) ?_
  refine m_nmh (fun h4 eh4 => ?_)
  have hw := hw h4 eh4
  refine r_aload_n 30 d_X10_init_29 rfl rfl ?_
  refine r_iconst (v := 2) 31 d_X10_init_30 rfl (by decide) ?_
  refine r_newai 33 d_X10_init_31 rfl q_114 sh_3 (by decide) (by decide) (by decide) (by decide) (by decide) ?_
  refine m_nmh (fun h5 eh5 => ?_)
  have hw := hw h5 eh5
  refine r_putD (k := 1) 36 d_X10_init_33 rfl cl_10 sh_1 (show 1 < 4 by decide) (Nat.le_of_ble_eq_true rfl) rfl q_103 (Or.inr ⟨rfl, rfl, rfl⟩) rfl rfl (by decide) (fun _ => rfl) (fun _ => rfl) ?_
  refine m_nmh (fun h6 eh6 => ?_)
  have hw := hw h6 eh6
  refine r_aload_n 37 d_X10_init_36 rfl rfl ?_
  refine r_iconst (v := 2) 38 d_X10_init_37 rfl (by decide) ?_
  refine r_newai 40 d_X10_init_38 rfl q_114 sh_4 (by decide) (by decide) (by decide) (by decide) (by decide) ?_
  refine m_nmh (fun h7 eh7 => ?_)
  have hw := hw h7 eh7
  refine r_putD (k := 2) 43 d_X10_init_40 rfl cl_10 sh_1 (show 1 < 5 by decide) (Nat.le_of_ble_eq_true rfl) rfl q_105 (Or.inr ⟨rfl, rfl, rfl⟩) rfl rfl (by decide) (fun _ => rfl) (fun _ => rfl) ?_
  refine m_nmh (fun h8 eh8 => ?_)
  have hw := hw h8 eh8
  exact r_return d_X10_init_43 rfl rfl hw
-- ===== X2_init at 6
theorem d_X2_init_0 : decode cX2_init 0 = .ok (.aload_n 0, 1) := by decide +kernel
theorem d_X2_init_1 : decode cX2_init 1 = .ok (.invokespecial 3, 3) := by decide +kernel
theorem d_X2_init_4 : decode cX2_init 4 = .ok (.aload_n 0, 1) := by decide +kernel
theorem d_X2_init_5 : decode cX2_init 5 = .ok (.iload_n 1, 1) := by decide +kernel
theorem d_X2_init_6 : decode cX2_init 6 = .ok (.putfield 9, 3) := by decide +kernel
theorem d_X2_init_9 : decode cX2_init 9 = .ok (.aload_n 0, 1) := by decide +kernel
theorem d_X2_init_10 : decode cX2_init 10 = .ok (.iload_n 2, 1) := by decide +kernel
theorem d_X2_init_11 : decode cX2_init 11 = .ok (.putfield 15, 3) := by decide +kernel
theorem d_X2_init_14 : decode cX2_init 14 = .ok (.aload_n 0, 1) := by decide +kernel
theorem d_X2_init_15 : decode cX2_init 15 = .ok (.iload_n 1, 1) := by decide +kernel
theorem d_X2_init_16 : decode cX2_init 16 = .ok (.iload_n 2, 1) := by decide +kernel
theorem d_X2_init_17 : decode cX2_init 17 = .ok (.imul, 1) := by decide +kernel
theorem d_X2_init_18 : decode cX2_init 18 = .ok (.newarray .int, 2) := by decide +kernel
theorem d_X2_init_20 : decode cX2_init 20 = .ok (.putfield 18, 3) := by decide +kernel
theorem d_X2_init_23 : decode cX2_init 23 = .ok (.return_, 1) := by decide +kernel
def e_X2_init_6 : mEn := (m_s0, (cX2_init, 3, none, "OneHandEach$Entries", true), 1, 6, 7)
theorem k_X2_init_6 : mCalI yX2_init (cX2_init, 3, none, "OneHandEach$Entries", true) 2 := ⟨⟨q_119, q_71, ⟨by decide +kernel, by decide +kernel, by decide +kernel⟩, by decide⟩, q_118, rfl, rfl⟩
def w_X2_init_6 (h : mH) (Q : mH → Prop) : Prop :=
  ∀ h1 : mH, h1 = si h 5 0 8 → ∀ h2 : mH, h2 = si h1 5 1 4 → ∀ h3 : mH, h3 = zo h2 6 → ∀ h4 : mH, h4 = si h3 5 2 (nI (6 + 1)) → Q h4
set_option maxRecDepth 100000 in
theorem s_X2_init_6 {G : mG} {h : mH} {Q : mH → Prop} (hw : w_X2_init_6 h Q) : mConV G yX2_init e_X2_init_6 [.ref 5, .int 8, .int 4] h Q := by
  refine mConV_of (ls := [some (.ref 5), some (.int 8), some (.int 4)]) 0 (plainFor_of_name (by decide +kernel)) rfl (fun _ => rfl) (Nat.le_of_ble_eq_true rfl) rfl (Nat.le_of_ble_eq_true rfl) ?_
  unfold w_X2_init_6 at hw
  refine r_aload_n 1 d_X2_init_0 rfl rfl ?_
  refine r_oinit 4 d_X2_init_1 rfl q_120 q_91 q_92 (Nat.le_of_ble_eq_true rfl) (Nat.le_of_ble_eq_true rfl) ?_
  refine r_aload_n 5 d_X2_init_4 rfl rfl ?_
  refine r_iload_n 6 d_X2_init_5 rfl rfl ?_
  refine r_putI (k := 0) 9 d_X2_init_6 rfl cl_2 sh_5 (show 5 < 6 by decide) (Nat.le_of_ble_eq_true rfl) rfl q_121 (Or.inr ⟨rfl, rfl, rfl⟩) rfl rfl rfl ?_
  refine m_nmh (fun h1 eh1 => ?_)
  have hw := hw h1 eh1
  refine r_aload_n 10 d_X2_init_9 rfl rfl ?_
  refine r_iload_n 11 d_X2_init_10 rfl rfl ?_
  refine r_putI (k := 1) 14 d_X2_init_11 rfl cl_2 sh_5 (show 5 < 6 by decide) (Nat.le_of_ble_eq_true rfl) rfl q_122 (Or.inr ⟨rfl, rfl, rfl⟩) rfl rfl rfl ?_
  refine m_nmh (fun h2 eh2 => ?_)
  have hw := hw h2 eh2
  refine r_aload_n 15 d_X2_init_14 rfl rfl ?_
  refine r_iload_n 16 d_X2_init_15 rfl rfl ?_
  refine r_iload_n 17 d_X2_init_16 rfl rfl ?_
  refine r_imul 18 d_X2_init_17 rfl ?_
  refine r_newai 20 d_X2_init_18 rfl q_114 sh_6 (by decide) (by decide) (by decide) (by decide) (by decide) ?_
  refine m_nmh (fun h3 eh3 => ?_)
  have hw := hw h3 eh3
  refine r_putD (k := 2) 23 d_X2_init_20 rfl cl_2 sh_5 (show 5 < 7 by decide) (Nat.le_of_ble_eq_true rfl) rfl q_123 (Or.inr ⟨rfl, rfl, rfl⟩) rfl rfl (by decide) (fun _ => rfl) (fun _ => rfl) ?_
  refine m_nmh (fun h4 eh4 => ?_)
  have hw := hw h4 eh4
  exact r_return d_X2_init_23 rfl rfl hw
-- ===== X2_init at 8
def e_X2_init_8 : mEn := (m_s0, (cX2_init, 3, none, "OneHandEach$Entries", true), 1, 8, 9)
theorem k_X2_init_8 : mCalI yX2_init (cX2_init, 3, none, "OneHandEach$Entries", true) 2 := ⟨⟨q_119, q_71, ⟨by decide +kernel, by decide +kernel, by decide +kernel⟩, by decide⟩, q_118, rfl, rfl⟩
def w_X2_init_8 (h : mH) (Q : mH → Prop) : Prop :=
  ∀ h1 : mH, h1 = si h 7 0 10 → ∀ h2 : mH, h2 = si h1 7 1 3 → ∀ h3 : mH, h3 = zo h2 8 → ∀ h4 : mH, h4 = si h3 7 2 (nI (8 + 1)) → Q h4
set_option maxRecDepth 100000 in
theorem s_X2_init_8 {G : mG} {h : mH} {Q : mH → Prop} (hw : w_X2_init_8 h Q) : mConV G yX2_init e_X2_init_8 [.ref 7, .int 10, .int 3] h Q := by
  refine mConV_of (ls := [some (.ref 7), some (.int 10), some (.int 3)]) 0 (plainFor_of_name (by decide +kernel)) rfl (fun _ => rfl) (Nat.le_of_ble_eq_true rfl) rfl (Nat.le_of_ble_eq_true rfl) ?_
  unfold w_X2_init_8 at hw
  refine r_aload_n 1 d_X2_init_0 rfl rfl ?_
  refine r_oinit 4 d_X2_init_1 rfl q_120 q_91 q_92 (Nat.le_of_ble_eq_true rfl) (Nat.le_of_ble_eq_true rfl) ?_
  refine r_aload_n 5 d_X2_init_4 rfl rfl ?_
  refine r_iload_n 6 d_X2_init_5 rfl rfl ?_
  refine r_putI (k := 0) 9 d_X2_init_6 rfl cl_2 sh_7 (show 7 < 8 by decide) (Nat.le_of_ble_eq_true rfl) rfl q_121 (Or.inr ⟨rfl, rfl, rfl⟩) rfl rfl rfl ?_
  refine m_nmh (fun h1 eh1 => ?_)
  have hw := hw h1 eh1
  refine r_aload_n 10 d_X2_init_9 rfl rfl ?_
  refine r_iload_n 11 d_X2_init_10 rfl rfl ?_
  refine r_putI (k := 1) 14 d_X2_init_11 rfl cl_2 sh_7 (show 7 < 8 by decide) (Nat.le_of_ble_eq_true rfl) rfl q_122 (Or.inr ⟨rfl, rfl, rfl⟩) rfl rfl rfl ?_
  refine m_nmh (fun h2 eh2 => ?_)
  have hw := hw h2 eh2
  refine r_aload_n 15 d_X2_init_14 rfl rfl ?_
  refine r_iload_n 16 d_X2_init_15 rfl rfl ?_
  refine r_iload_n 17 d_X2_init_16 rfl rfl ?_
  refine r_imul 18 d_X2_init_17 rfl ?_
  refine r_newai 20 d_X2_init_18 rfl q_114 sh_8 (by decide) (by decide) (by decide) (by decide) (by decide) ?_
  refine m_nmh (fun h3 eh3 => ?_)
  have hw := hw h3 eh3
  refine r_putD (k := 2) 23 d_X2_init_20 rfl cl_2 sh_7 (show 7 < 9 by decide) (Nat.le_of_ble_eq_true rfl) rfl q_123 (Or.inr ⟨rfl, rfl, rfl⟩) rfl rfl (by decide) (fun _ => rfl) (fun _ => rfl) ?_
  refine m_nmh (fun h4 eh4 => ?_)
  have hw := hw h4 eh4
  exact r_return d_X2_init_23 rfl rfl hw
-- ===== X7_init at 14
theorem d_X7_init_0 : decode cX7_init 0 = .ok (.aload_n 0, 1) := by decide +kernel
theorem d_X7_init_1 : decode cX7_init 1 = .ok (.invokespecial 1, 3) := by decide +kernel
theorem d_X7_init_4 : decode cX7_init 4 = .ok (.aload_n 0, 1) := by decide +kernel
theorem d_X7_init_5 : decode cX7_init 5 = .ok (.bipush 121, 2) := by decide +kernel
theorem d_X7_init_7 : decode cX7_init 7 = .ok (.newarray .int, 2) := by decide +kernel
theorem d_X7_init_9 : decode cX7_init 9 = .ok (.putfield 9, 3) := by decide +kernel
theorem d_X7_init_12 : decode cX7_init 12 = .ok (.aload_n 0, 1) := by decide +kernel
theorem d_X7_init_13 : decode cX7_init 13 = .ok (.bipush 121, 2) := by decide +kernel
theorem d_X7_init_15 : decode cX7_init 15 = .ok (.newarray .int, 2) := by decide +kernel
theorem d_X7_init_17 : decode cX7_init 17 = .ok (.putfield 13, 3) := by decide +kernel
theorem d_X7_init_20 : decode cX7_init 20 = .ok (.return_, 1) := by decide +kernel
def e_X7_init_14 : mEn := (m_s0, (cX7_init, 1, none, "OneHandEach$Program", true), 1, 14, 16)
theorem k_X7_init_14 : mCalI yX7_init (cX7_init, 1, none, "OneHandEach$Program", true) 0 := ⟨⟨q_153, q_74, ⟨by decide +kernel, by decide +kernel, by decide +kernel⟩, by decide⟩, q_152, rfl, rfl⟩
def w_X7_init_14 (h : mH) (Q : mH → Prop) : Prop :=
  ∀ h1 : mH, h1 = zo h 14 → ∀ h2 : mH, h2 = si h1 13 0 (nI (14 + 1)) → ∀ h3 : mH, h3 = zo h2 15 → ∀ h4 : mH, h4 = si h3 13 1 (nI (15 + 1)) → Q h4
set_option maxRecDepth 100000 in
theorem s_X7_init_14 {G : mG} {h : mH} {Q : mH → Prop} (hw : w_X7_init_14 h Q) : mConV G yX7_init e_X7_init_14 [.ref 13] h Q := by
  refine mConV_of (ls := [some (.ref 13)]) 0 (plainFor_of_name (by decide +kernel)) rfl (fun _ => rfl) (Nat.le_of_ble_eq_true rfl) rfl (Nat.le_of_ble_eq_true rfl) ?_
  unfold w_X7_init_14 at hw
  refine r_aload_n 1 d_X7_init_0 rfl rfl ?_
  refine r_oinit 4 d_X7_init_1 rfl q_154 q_91 q_92 (Nat.le_of_ble_eq_true rfl) (Nat.le_of_ble_eq_true rfl) ?_
  refine r_aload_n 5 d_X7_init_4 rfl rfl ?_
  refine r_bipush (v := 121) 7 d_X7_init_5 rfl (by decide) ?_
  refine r_newai 9 d_X7_init_7 rfl q_114 sh_14 (by decide) (by decide) (by decide) (by decide) (by decide) ?_
  refine m_nmh (fun h1 eh1 => ?_)
  have hw := hw h1 eh1
  refine r_putD (k := 0) 12 d_X7_init_9 rfl cl_7 sh_13 (show 13 < 15 by decide) (Nat.le_of_ble_eq_true rfl) rfl q_155 (Or.inr ⟨rfl, rfl, rfl⟩) rfl rfl (by decide) (fun _ => rfl) (fun _ => rfl) ?_
  refine m_nmh (fun h2 eh2 => ?_)
  have hw := hw h2 eh2
  refine r_aload_n 13 d_X7_init_12 rfl rfl ?_
  refine r_bipush (v := 121) 15 d_X7_init_13 rfl (by decide) ?_
  refine r_newai 17 d_X7_init_15 rfl q_114 sh_15 (by decide) (by decide) (by decide) (by decide) (by decide) ?_
  refine m_nmh (fun h3 eh3 => ?_)
  have hw := hw h3 eh3
  refine r_putD (k := 1) 20 d_X7_init_17 rfl cl_7 sh_13 (show 13 < 16 by decide) (Nat.le_of_ble_eq_true rfl) rfl q_157 (Or.inr ⟨rfl, rfl, rfl⟩) rfl rfl (by decide) (fun _ => rfl) (fun _ => rfl) ?_
  refine m_nmh (fun h4 eh4 => ?_)
  have hw := hw h4 eh4
  exact r_return d_X7_init_20 rfl rfl hw
-- ===== X8_init at 12
theorem d_X8_init_0 : decode cX8_init 0 = .ok (.aload_n 0, 1) := by decide +kernel
theorem d_X8_init_1 : decode cX8_init 1 = .ok (.invokespecial 3, 3) := by decide +kernel
theorem d_X8_init_4 : decode cX8_init 4 = .ok (.aload_n 0, 1) := by decide +kernel
theorem d_X8_init_5 : decode cX8_init 5 = .ok (.bipush 120, 2) := by decide +kernel
theorem d_X8_init_7 : decode cX8_init 7 = .ok (.newarray .int, 2) := by decide +kernel
theorem d_X8_init_9 : decode cX8_init 9 = .ok (.putfield 11, 3) := by decide +kernel
theorem d_X8_init_12 : decode cX8_init 12 = .ok (.aload_n 0, 1) := by decide +kernel
theorem d_X8_init_13 : decode cX8_init 13 = .ok (.new 15, 3) := by decide +kernel
theorem d_X8_init_16 : decode cX8_init 16 = .ok (.dup, 1) := by decide +kernel
theorem d_X8_init_17 : decode cX8_init 17 = .ok (.invokespecial 17, 3) := by decide +kernel
theorem d_X8_init_20 : decode cX8_init 20 = .ok (.putfield 18, 3) := by decide +kernel
theorem d_X8_init_23 : decode cX8_init 23 = .ok (.return_, 1) := by decide +kernel
def e_X8_init_12 : mEn := (m_s0, (cX8_init, 1, none, "OneHandEach$Reader", true), 2, 12, 16)
theorem k_X8_init_12 : mCalI yX8_init (cX8_init, 1, none, "OneHandEach$Reader", true) 0 := ⟨⟨q_147, q_73, ⟨by decide +kernel, by decide +kernel, by decide +kernel⟩, by decide⟩, q_146, rfl, rfl⟩
def w_X8_init_12 (h : mH) (Q : mH → Prop) : Prop :=
  ∀ h1 : mH, h1 = zo h 12 → ∀ h2 : mH, h2 = si h1 11 0 (nI (12 + 1)) → ∀ h3 : mH, h3 = zo h2 13 → w_X7_init_14 h3 (fun h4 => ∀ h5 : mH, h5 = si h4 11 4 (nI (13 + 1)) → Q h5)
set_option maxRecDepth 100000 in
theorem s_X8_init_12 {G : mG} {h : mH} {Q : mH → Prop} (hw : w_X8_init_12 h Q) : mConV G yX8_init e_X8_init_12 [.ref 11] h Q := by
  refine mConV_of (ls := [some (.ref 11)]) 0 (plainFor_of_name (by decide +kernel)) rfl (fun _ => rfl) (Nat.le_of_ble_eq_true rfl) rfl (Nat.le_of_ble_eq_true rfl) ?_
  unfold w_X8_init_12 at hw
  refine r_aload_n 1 d_X8_init_0 rfl rfl ?_
  refine r_oinit 4 d_X8_init_1 rfl q_148 q_91 q_92 (Nat.le_of_ble_eq_true rfl) (Nat.le_of_ble_eq_true rfl) ?_
  refine r_aload_n 5 d_X8_init_4 rfl rfl ?_
  refine r_bipush (v := 120) 7 d_X8_init_5 rfl (by decide) ?_
  refine r_newai 9 d_X8_init_7 rfl q_114 sh_12 (by decide) (by decide) (by decide) (by decide) (by decide) ?_
  refine m_nmh (fun h1 eh1 => ?_)
  have hw := hw h1 eh1
  refine r_putD (k := 0) 12 d_X8_init_9 rfl cl_8 sh_11 (show 11 < 13 by decide) (Nat.le_of_ble_eq_true rfl) rfl q_169 (Or.inr ⟨rfl, rfl, rfl⟩) rfl rfl (by decide) (fun _ => rfl) (fun _ => rfl) ?_
  refine m_nmh (fun h2 eh2 => ?_)
  have hw := hw h2 eh2
  refine r_aload_n 13 d_X8_init_12 rfl rfl ?_
  refine r_new 16 d_X8_init_13 rfl cl_7 q_149 q_150 q_74 sh_13 (by decide) (by decide) rfl (by decide) ?_
  refine m_nmh (fun h3 eh3 => ?_)
  have hw := hw h3 eh3
  refine r_dup 17 d_X8_init_16 rfl rfl ?_
  refine r_callIv (E2 := e_X7_init_14) (As := []) 20 d_X8_init_17 rfl q_151 k_X7_init_14 rfl rfl (Nat.le_of_ble_eq_true rfl) (Nat.le_of_ble_eq_true rfl) rfl rfl (Nat.le_of_ble_eq_true rfl) (Nat.le_of_ble_eq_true rfl) (s_X7_init_14 hw) ?_
  intro h4 hw
  refine r_putD (k := 4) 23 d_X8_init_20 rfl cl_8 sh_11 (show 11 < 16 by decide) (Nat.le_of_ble_eq_true rfl) rfl q_174 (Or.inl rfl) rfl rfl (by decide) (fun _ => rfl) (fun _ => rfl) ?_
  refine m_nmh (fun h5 eh5 => ?_)
  have hw := hw h5 eh5
  exact r_return d_X8_init_23 rfl rfl hw
-- ===== X7_init at 17
def e_X7_init_17 : mEn := (m_s0, (cX7_init, 1, none, "OneHandEach$Program", true), 1, 17, 19)
theorem k_X7_init_17 : mCalI yX7_init (cX7_init, 1, none, "OneHandEach$Program", true) 0 := ⟨⟨q_153, q_74, ⟨by decide +kernel, by decide +kernel, by decide +kernel⟩, by decide⟩, q_152, rfl, rfl⟩
def w_X7_init_17 (h : mH) (Q : mH → Prop) : Prop :=
  ∀ h1 : mH, h1 = zo h 17 → ∀ h2 : mH, h2 = si h1 16 0 (nI (17 + 1)) → ∀ h3 : mH, h3 = zo h2 18 → ∀ h4 : mH, h4 = si h3 16 1 (nI (18 + 1)) → Q h4
set_option maxRecDepth 100000 in
theorem s_X7_init_17 {G : mG} {h : mH} {Q : mH → Prop} (hw : w_X7_init_17 h Q) : mConV G yX7_init e_X7_init_17 [.ref 16] h Q := by
  refine mConV_of (ls := [some (.ref 16)]) 0 (plainFor_of_name (by decide +kernel)) rfl (fun _ => rfl) (Nat.le_of_ble_eq_true rfl) rfl (Nat.le_of_ble_eq_true rfl) ?_
  unfold w_X7_init_17 at hw
  refine r_aload_n 1 d_X7_init_0 rfl rfl ?_
  refine r_oinit 4 d_X7_init_1 rfl q_154 q_91 q_92 (Nat.le_of_ble_eq_true rfl) (Nat.le_of_ble_eq_true rfl) ?_
  refine r_aload_n 5 d_X7_init_4 rfl rfl ?_
  refine r_bipush (v := 121) 7 d_X7_init_5 rfl (by decide) ?_
  refine r_newai 9 d_X7_init_7 rfl q_114 sh_17 (by decide) (by decide) (by decide) (by decide) (by decide) ?_
  refine m_nmh (fun h1 eh1 => ?_)
  have hw := hw h1 eh1
  refine r_putD (k := 0) 12 d_X7_init_9 rfl cl_7 sh_16 (show 16 < 18 by decide) (Nat.le_of_ble_eq_true rfl) rfl q_155 (Or.inr ⟨rfl, rfl, rfl⟩) rfl rfl (by decide) (fun _ => rfl) (fun _ => rfl) ?_
  refine m_nmh (fun h2 eh2 => ?_)
  have hw := hw h2 eh2
  refine r_aload_n 13 d_X7_init_12 rfl rfl ?_
  refine r_bipush (v := 121) 15 d_X7_init_13 rfl (by decide) ?_
  refine r_newai 17 d_X7_init_15 rfl q_114 sh_18 (by decide) (by decide) (by decide) (by decide) (by decide) ?_
  refine m_nmh (fun h3 eh3 => ?_)
  have hw := hw h3 eh3
  refine r_putD (k := 1) 20 d_X7_init_17 rfl cl_7 sh_16 (show 16 < 19 by decide) (Nat.le_of_ble_eq_true rfl) rfl q_157 (Or.inr ⟨rfl, rfl, rfl⟩) rfl rfl (by decide) (fun _ => rfl) (fun _ => rfl) ?_
  refine m_nmh (fun h4 eh4 => ?_)
  have hw := hw h4 eh4
  exact r_return d_X7_init_20 rfl rfl hw
-- ===== X6_init at 10
theorem d_X6_init_0 : decode cX6_init 0 = .ok (.aload_n 0, 1) := by decide +kernel
theorem d_X6_init_1 : decode cX6_init 1 = .ok (.invokespecial 1, 3) := by decide +kernel
theorem d_X6_init_4 : decode cX6_init 4 = .ok (.aload_n 0, 1) := by decide +kernel
theorem d_X6_init_5 : decode cX6_init 5 = .ok (.bipush 121, 2) := by decide +kernel
theorem d_X6_init_7 : decode cX6_init 7 = .ok (.newarray .int, 2) := by decide +kernel
theorem d_X6_init_9 : decode cX6_init 9 = .ok (.putfield 9, 3) := by decide +kernel
theorem d_X6_init_12 : decode cX6_init 12 = .ok (.aload_n 0, 1) := by decide +kernel
theorem d_X6_init_13 : decode cX6_init 13 = .ok (.new 15, 3) := by decide +kernel
theorem d_X6_init_16 : decode cX6_init 16 = .ok (.dup, 1) := by decide +kernel
theorem d_X6_init_17 : decode cX6_init 17 = .ok (.invokespecial 17, 3) := by decide +kernel
theorem d_X6_init_20 : decode cX6_init 20 = .ok (.putfield 18, 3) := by decide +kernel
theorem d_X6_init_23 : decode cX6_init 23 = .ok (.aload_n 0, 1) := by decide +kernel
theorem d_X6_init_24 : decode cX6_init 24 = .ok (.new 7, 3) := by decide +kernel
theorem d_X6_init_27 : decode cX6_init 27 = .ok (.dup, 1) := by decide +kernel
theorem d_X6_init_28 : decode cX6_init 28 = .ok (.invokespecial 22, 3) := by decide +kernel
theorem d_X6_init_31 : decode cX6_init 31 = .ok (.putfield 23, 3) := by decide +kernel
theorem d_X6_init_34 : decode cX6_init 34 = .ok (.return_, 1) := by decide +kernel
def e_X6_init_10 : mEn := (m_s0, (cX6_init, 1, none, "OneHandEach$Law", true), 3, 10, 19)
theorem k_X6_init_10 : mCalI yX6_init (cX6_init, 1, none, "OneHandEach$Law", true) 0 := ⟨⟨q_141, q_72, ⟨by decide +kernel, by decide +kernel, by decide +kernel⟩, by decide⟩, q_140, rfl, rfl⟩
def w_X6_init_10 (h : mH) (Q : mH → Prop) : Prop :=
  ∀ h1 : mH, h1 = zo h 10 → ∀ h2 : mH, h2 = si h1 9 0 (nI (10 + 1)) → ∀ h3 : mH, h3 = zo h2 11 → w_X8_init_12 h3 (fun h4 => ∀ h5 : mH, h5 = si h4 9 1 (nI (11 + 1)) → ∀ h6 : mH, h6 = zo h5 16 → w_X7_init_17 h6 (fun h7 => ∀ h8 : mH, h8 = si h7 9 2 (nI (16 + 1)) → Q h8))
set_option maxRecDepth 100000 in
theorem s_X6_init_10 {G : mG} {h : mH} {Q : mH → Prop} (hw : w_X6_init_10 h Q) : mConV G yX6_init e_X6_init_10 [.ref 9] h Q := by
  refine mConV_of (ls := [some (.ref 9)]) 0 (plainFor_of_name (by decide +kernel)) rfl (fun _ => rfl) (Nat.le_of_ble_eq_true rfl) rfl (Nat.le_of_ble_eq_true rfl) ?_
  unfold w_X6_init_10 at hw
  refine r_aload_n 1 d_X6_init_0 rfl rfl ?_
  refine r_oinit 4 d_X6_init_1 rfl q_142 q_91 q_92 (Nat.le_of_ble_eq_true rfl) (Nat.le_of_ble_eq_true rfl) ?_
  refine r_aload_n 5 d_X6_init_4 rfl rfl ?_
  refine r_bipush (v := 121) 7 d_X6_init_5 rfl (by decide) ?_
  refine r_newai 9 d_X6_init_7 rfl q_114 sh_10 (by decide) (by decide) (by decide) (by decide) (by decide) ?_
  refine m_nmh (fun h1 eh1 => ?_)
  have hw := hw h1 eh1
  refine r_putD (k := 0) 12 d_X6_init_9 rfl cl_6 sh_9 (show 9 < 11 by decide) (Nat.le_of_ble_eq_true rfl) rfl q_189 (Or.inr ⟨rfl, rfl, rfl⟩) rfl rfl (by decide) (fun _ => rfl) (fun _ => rfl) ?_
  refine m_nmh (fun h2 eh2 => ?_)
  have hw := hw h2 eh2
  refine r_aload_n 13 d_X6_init_12 rfl rfl ?_
  refine r_new 16 d_X6_init_13 rfl cl_8 q_143 q_144 q_73 sh_11 (by decide) (by decide) rfl (by decide) ?_
  refine m_nmh (fun h3 eh3 => ?_)
  have hw := hw h3 eh3
  refine r_dup 17 d_X6_init_16 rfl rfl ?_
  refine r_callIv (E2 := e_X8_init_12) (As := []) 20 d_X6_init_17 rfl q_145 k_X8_init_12 rfl rfl (Nat.le_of_ble_eq_true rfl) (Nat.le_of_ble_eq_true rfl) rfl rfl (Nat.le_of_ble_eq_true rfl) (Nat.le_of_ble_eq_true rfl) (s_X8_init_12 hw) ?_
  intro h4 hw
  refine r_putD (k := 1) 23 d_X6_init_20 rfl cl_6 sh_9 (show 9 < 16 by decide) (Nat.le_of_ble_eq_true rfl) rfl q_190 (Or.inr ⟨rfl, rfl, rfl⟩) rfl rfl (by decide) (fun _ => rfl) (fun _ => rfl) ?_
  refine m_nmh (fun h5 eh5 => ?_)
  have hw := hw h5 eh5
  refine r_aload_n 24 d_X6_init_23 rfl rfl ?_
  refine r_new 27 d_X6_init_24 rfl cl_7 q_187 q_150 q_74 sh_16 (by decide) (by decide) rfl (by decide) ?_
  refine m_nmh (fun h6 eh6 => ?_)
  have hw := hw h6 eh6
  refine r_dup 28 d_X6_init_27 rfl rfl ?_
  refine r_callIv (E2 := e_X7_init_17) (As := []) 31 d_X6_init_28 rfl q_188 k_X7_init_17 rfl rfl (Nat.le_of_ble_eq_true rfl) (Nat.le_of_ble_eq_true rfl) rfl rfl (Nat.le_of_ble_eq_true rfl) (Nat.le_of_ble_eq_true rfl) (s_X7_init_17 hw) ?_
  intro h7 hw
  refine r_putD (k := 2) 34 d_X6_init_31 rfl cl_6 sh_9 (show 9 < 19 by decide) (Nat.le_of_ble_eq_true rfl) rfl q_191 (Or.inl rfl) rfl rfl (by decide) (fun _ => rfl) (fun _ => rfl) ?_
  refine m_nmh (fun h8 eh8 => ?_)
  have hw := hw h8 eh8
  exact r_return d_X6_init_34 rfl rfl hw
-- ===== X3_init at 20
theorem d_X3_init_0 : decode cX3_init 0 = .ok (.aload_n 0, 1) := by decide +kernel
theorem d_X3_init_1 : decode cX3_init 1 = .ok (.invokespecial 3, 3) := by decide +kernel
theorem d_X3_init_4 : decode cX3_init 4 = .ok (.aload_n 0, 1) := by decide +kernel
theorem d_X3_init_5 : decode cX3_init 5 = .ok (.sipush 720, 3) := by decide +kernel
theorem d_X3_init_8 : decode cX3_init 8 = .ok (.newarray .boolean, 2) := by decide +kernel
theorem d_X3_init_10 : decode cX3_init 10 = .ok (.putfield 9, 3) := by decide +kernel
theorem d_X3_init_13 : decode cX3_init 13 = .ok (.aload_n 0, 1) := by decide +kernel
theorem d_X3_init_14 : decode cX3_init 14 = .ok (.sipush 820, 3) := by decide +kernel
theorem d_X3_init_17 : decode cX3_init 17 = .ok (.newarray .int, 2) := by decide +kernel
theorem d_X3_init_19 : decode cX3_init 19 = .ok (.putfield 15, 3) := by decide +kernel
theorem d_X3_init_22 : decode cX3_init 22 = .ok (.aload_n 0, 1) := by decide +kernel
theorem d_X3_init_23 : decode cX3_init 23 = .ok (.bipush 60, 2) := by decide +kernel
theorem d_X3_init_25 : decode cX3_init 25 = .ok (.newarray .int, 2) := by decide +kernel
theorem d_X3_init_27 : decode cX3_init 27 = .ok (.putfield 19, 3) := by decide +kernel
theorem d_X3_init_30 : decode cX3_init 30 = .ok (.return_, 1) := by decide +kernel
def e_X3_init_20 : mEn := (m_s0, (cX3_init, 1, none, "OneHandEach$Fitting", true), 1, 20, 23)
theorem k_X3_init_20 : mCalI yX3_init (cX3_init, 1, none, "OneHandEach$Fitting", true) 0 := ⟨⟨q_206, q_75, ⟨by decide +kernel, by decide +kernel, by decide +kernel⟩, by decide⟩, q_205, rfl, rfl⟩
def w_X3_init_20 (h : mH) (Q : mH → Prop) : Prop :=
  ∀ h1 : mH, h1 = zo h 20 → ∀ h2 : mH, h2 = si h1 19 0 (nI (20 + 1)) → ∀ h3 : mH, h3 = zo h2 21 → ∀ h4 : mH, h4 = si h3 19 1 (nI (21 + 1)) → ∀ h5 : mH, h5 = zo h4 22 → ∀ h6 : mH, h6 = si h5 19 2 (nI (22 + 1)) → Q h6
set_option maxRecDepth 100000 in
theorem s_X3_init_20 {G : mG} {h : mH} {Q : mH → Prop} (hw : w_X3_init_20 h Q) : mConV G yX3_init e_X3_init_20 [.ref 19] h Q := by
  refine mConV_of (ls := [some (.ref 19)]) 0 (plainFor_of_name (by decide +kernel)) rfl (fun _ => rfl) (Nat.le_of_ble_eq_true rfl) rfl (Nat.le_of_ble_eq_true rfl) ?_
  unfold w_X3_init_20 at hw
  refine r_aload_n 1 d_X3_init_0 rfl rfl ?_
  refine r_oinit 4 d_X3_init_1 rfl q_207 q_91 q_92 (Nat.le_of_ble_eq_true rfl) (Nat.le_of_ble_eq_true rfl) ?_
  refine r_aload_n 5 d_X3_init_4 rfl rfl ?_
  refine r_sipush (v := 720) 8 d_X3_init_5 rfl (by decide) ?_
  refine r_newaz 10 d_X3_init_8 rfl q_219 sh_20 (by decide) (by decide) (by decide) (by decide) (by decide) ?_
  refine m_nmh (fun h1 eh1 => ?_)
  have hw := hw h1 eh1
  refine r_putD (k := 0) 13 d_X3_init_10 rfl cl_3 sh_19 (show 19 < 21 by decide) (Nat.le_of_ble_eq_true rfl) rfl q_208 (Or.inr ⟨rfl, rfl, rfl⟩) rfl rfl (by decide) (fun _ => rfl) (fun _ => rfl) ?_
  refine m_nmh (fun h2 eh2 => ?_)
  have hw := hw h2 eh2
  refine r_aload_n 14 d_X3_init_13 rfl rfl ?_
  refine r_sipush (v := 820) 17 d_X3_init_14 rfl (by decide) ?_
  refine r_newai 19 d_X3_init_17 rfl q_114 sh_21 (by decide) (by decide) (by decide) (by decide) (by decide) ?_
  refine m_nmh (fun h3 eh3 => ?_)
  have hw := hw h3 eh3
  refine r_putD (k := 1) 22 d_X3_init_19 rfl cl_3 sh_19 (show 19 < 22 by decide) (Nat.le_of_ble_eq_true rfl) rfl q_210 (Or.inr ⟨rfl, rfl, rfl⟩) rfl rfl (by decide) (fun _ => rfl) (fun _ => rfl) ?_
  refine m_nmh (fun h4 eh4 => ?_)
  have hw := hw h4 eh4
  refine r_aload_n 23 d_X3_init_22 rfl rfl ?_
  refine r_bipush (v := 60) 25 d_X3_init_23 rfl (by decide) ?_
  refine r_newai 27 d_X3_init_25 rfl q_114 sh_22 (by decide) (by decide) (by decide) (by decide) (by decide) ?_
  refine m_nmh (fun h5 eh5 => ?_)
  have hw := hw h5 eh5
  refine r_putD (k := 2) 30 d_X3_init_27 rfl cl_3 sh_19 (show 19 < 23 by decide) (Nat.le_of_ble_eq_true rfl) rfl q_211 (Or.inr ⟨rfl, rfl, rfl⟩) rfl rfl (by decide) (fun _ => rfl) (fun _ => rfl) ?_
  refine m_nmh (fun h6 eh6 => ?_)
  have hw := hw h6 eh6
  exact r_return d_X3_init_30 rfl rfl hw
-- ===== X4_init at 24
theorem d_X4_init_0 : decode cX4_init 0 = .ok (.aload_n 0, 1) := by decide +kernel
theorem d_X4_init_1 : decode cX4_init 1 = .ok (.invokespecial 3, 3) := by decide +kernel
theorem d_X4_init_4 : decode cX4_init 4 = .ok (.aload_n 0, 1) := by decide +kernel
theorem d_X4_init_5 : decode cX4_init 5 = .ok (.bipush 7, 2) := by decide +kernel
theorem d_X4_init_7 : decode cX4_init 7 = .ok (.newarray .int, 2) := by decide +kernel
theorem d_X4_init_9 : decode cX4_init 9 = .ok (.putfield 9, 3) := by decide +kernel
theorem d_X4_init_12 : decode cX4_init 12 = .ok (.return_, 1) := by decide +kernel
def e_X4_init_24 : mEn := (m_s0, (cX4_init, 1, none, "OneHandEach$Guesses", true), 1, 24, 25)
theorem k_X4_init_24 : mCalI yX4_init (cX4_init, 1, none, "OneHandEach$Guesses", true) 0 := ⟨⟨q_224, q_76, ⟨by decide +kernel, by decide +kernel, by decide +kernel⟩, by decide⟩, q_223, rfl, rfl⟩
def w_X4_init_24 (h : mH) (Q : mH → Prop) : Prop :=
  ∀ h1 : mH, h1 = zo h 24 → ∀ h2 : mH, h2 = si h1 23 0 (nI (24 + 1)) → Q h2
set_option maxRecDepth 100000 in
theorem s_X4_init_24 {G : mG} {h : mH} {Q : mH → Prop} (hw : w_X4_init_24 h Q) : mConV G yX4_init e_X4_init_24 [.ref 23] h Q := by
  refine mConV_of (ls := [some (.ref 23)]) 0 (plainFor_of_name (by decide +kernel)) rfl (fun _ => rfl) (Nat.le_of_ble_eq_true rfl) rfl (Nat.le_of_ble_eq_true rfl) ?_
  unfold w_X4_init_24 at hw
  refine r_aload_n 1 d_X4_init_0 rfl rfl ?_
  refine r_oinit 4 d_X4_init_1 rfl q_225 q_91 q_92 (Nat.le_of_ble_eq_true rfl) (Nat.le_of_ble_eq_true rfl) ?_
  refine r_aload_n 5 d_X4_init_4 rfl rfl ?_
  refine r_bipush (v := 7) 7 d_X4_init_5 rfl (by decide) ?_
  refine r_newai 9 d_X4_init_7 rfl q_114 sh_24 (by decide) (by decide) (by decide) (by decide) (by decide) ?_
  refine m_nmh (fun h1 eh1 => ?_)
  have hw := hw h1 eh1
  refine r_putD (k := 0) 12 d_X4_init_9 rfl cl_4 sh_23 (show 23 < 25 by decide) (Nat.le_of_ble_eq_true rfl) rfl q_226 (Or.inr ⟨rfl, rfl, rfl⟩) rfl rfl (by decide) (fun _ => rfl) (fun _ => rfl) ?_
  refine m_nmh (fun h2 eh2 => ?_)
  have hw := hw h2 eh2
  exact r_return d_X4_init_12 rfl rfl hw
-- ===== X1_init at 26
theorem d_X1_init_0 : decode cX1_init 0 = .ok (.aload_n 0, 1) := by decide +kernel
theorem d_X1_init_1 : decode cX1_init 1 = .ok (.invokespecial 3, 3) := by decide +kernel
theorem d_X1_init_4 : decode cX1_init 4 = .ok (.aload_n 0, 1) := by decide +kernel
theorem d_X1_init_5 : decode cX1_init 5 = .ok (.bipush 40, 2) := by decide +kernel
theorem d_X1_init_7 : decode cX1_init 7 = .ok (.newarray .int, 2) := by decide +kernel
theorem d_X1_init_9 : decode cX1_init 9 = .ok (.putfield 11, 3) := by decide +kernel
theorem d_X1_init_12 : decode cX1_init 12 = .ok (.aload_n 0, 1) := by decide +kernel
theorem d_X1_init_13 : decode cX1_init 13 = .ok (.bipush 40, 2) := by decide +kernel
theorem d_X1_init_15 : decode cX1_init 15 = .ok (.newarray .int, 2) := by decide +kernel
theorem d_X1_init_17 : decode cX1_init 17 = .ok (.putfield 15, 3) := by decide +kernel
theorem d_X1_init_20 : decode cX1_init 20 = .ok (.aload_n 0, 1) := by decide +kernel
theorem d_X1_init_21 : decode cX1_init 21 = .ok (.bipush 40, 2) := by decide +kernel
theorem d_X1_init_23 : decode cX1_init 23 = .ok (.newarray .int, 2) := by decide +kernel
theorem d_X1_init_25 : decode cX1_init 25 = .ok (.putfield 18, 3) := by decide +kernel
theorem d_X1_init_28 : decode cX1_init 28 = .ok (.return_, 1) := by decide +kernel
def e_X1_init_26 : mEn := (m_s0, (cX1_init, 1, none, "OneHandEach$Changes", true), 1, 26, 29)
theorem k_X1_init_26 : mCalI yX1_init (cX1_init, 1, none, "OneHandEach$Changes", true) 0 := ⟨⟨q_235, q_77, ⟨by decide +kernel, by decide +kernel, by decide +kernel⟩, by decide⟩, q_234, rfl, rfl⟩
def w_X1_init_26 (h : mH) (Q : mH → Prop) : Prop :=
  ∀ h1 : mH, h1 = zo h 26 → ∀ h2 : mH, h2 = si h1 25 0 (nI (26 + 1)) → ∀ h3 : mH, h3 = zo h2 27 → ∀ h4 : mH, h4 = si h3 25 1 (nI (27 + 1)) → ∀ h5 : mH, h5 = zo h4 28 → ∀ h6 : mH, h6 = si h5 25 2 (nI (28 + 1)) → Q h6
set_option maxRecDepth 100000 in
theorem s_X1_init_26 {G : mG} {h : mH} {Q : mH → Prop} (hw : w_X1_init_26 h Q) : mConV G yX1_init e_X1_init_26 [.ref 25] h Q := by
  refine mConV_of (ls := [some (.ref 25)]) 0 (plainFor_of_name (by decide +kernel)) rfl (fun _ => rfl) (Nat.le_of_ble_eq_true rfl) rfl (Nat.le_of_ble_eq_true rfl) ?_
  unfold w_X1_init_26 at hw
  refine r_aload_n 1 d_X1_init_0 rfl rfl ?_
  refine r_oinit 4 d_X1_init_1 rfl q_236 q_91 q_92 (Nat.le_of_ble_eq_true rfl) (Nat.le_of_ble_eq_true rfl) ?_
  refine r_aload_n 5 d_X1_init_4 rfl rfl ?_
  refine r_bipush (v := 40) 7 d_X1_init_5 rfl (by decide) ?_
  refine r_newai 9 d_X1_init_7 rfl q_114 sh_26 (by decide) (by decide) (by decide) (by decide) (by decide) ?_
  refine m_nmh (fun h1 eh1 => ?_)
  have hw := hw h1 eh1
  refine r_putD (k := 0) 12 d_X1_init_9 rfl cl_1 sh_25 (show 25 < 27 by decide) (Nat.le_of_ble_eq_true rfl) rfl q_237 (Or.inr ⟨rfl, rfl, rfl⟩) rfl rfl (by decide) (fun _ => rfl) (fun _ => rfl) ?_
  refine m_nmh (fun h2 eh2 => ?_)
  have hw := hw h2 eh2
  refine r_aload_n 13 d_X1_init_12 rfl rfl ?_
  refine r_bipush (v := 40) 15 d_X1_init_13 rfl (by decide) ?_
  refine r_newai 17 d_X1_init_15 rfl q_114 sh_27 (by decide) (by decide) (by decide) (by decide) (by decide) ?_
  refine m_nmh (fun h3 eh3 => ?_)
  have hw := hw h3 eh3
  refine r_putD (k := 1) 20 d_X1_init_17 rfl cl_1 sh_25 (show 25 < 28 by decide) (Nat.le_of_ble_eq_true rfl) rfl q_238 (Or.inr ⟨rfl, rfl, rfl⟩) rfl rfl (by decide) (fun _ => rfl) (fun _ => rfl) ?_
  refine m_nmh (fun h4 eh4 => ?_)
  have hw := hw h4 eh4
  refine r_aload_n 21 d_X1_init_20 rfl rfl ?_
  refine r_bipush (v := 40) 23 d_X1_init_21 rfl (by decide) ?_
  refine r_newai 25 d_X1_init_23 rfl q_114 sh_28 (by decide) (by decide) (by decide) (by decide) (by decide) ?_
  refine m_nmh (fun h5 eh5 => ?_)
  have hw := hw h5 eh5
  refine r_putD (k := 2) 28 d_X1_init_25 rfl cl_1 sh_25 (show 25 < 29 by decide) (Nat.le_of_ble_eq_true rfl) rfl q_239 (Or.inr ⟨rfl, rfl, rfl⟩) rfl rfl (by decide) (fun _ => rfl) (fun _ => rfl) ?_
  refine m_nmh (fun h6 eh6 => ?_)
  have hw := hw h6 eh6
  exact r_return d_X1_init_28 rfl rfl hw
-- ===== X2_init at 31
def e_X2_init_31 : mEn := (m_s0, (cX2_init, 3, none, "OneHandEach$Entries", true), 1, 31, 32)
theorem k_X2_init_31 : mCalI yX2_init (cX2_init, 3, none, "OneHandEach$Entries", true) 2 := ⟨⟨q_119, q_71, ⟨by decide +kernel, by decide +kernel, by decide +kernel⟩, by decide⟩, q_118, rfl, rfl⟩
def w_X2_init_31 (h : mH) (Q : mH → Prop) : Prop :=
  ∀ h1 : mH, h1 = si h 30 0 8 → ∀ h2 : mH, h2 = si h1 30 1 4 → ∀ h3 : mH, h3 = zo h2 31 → ∀ h4 : mH, h4 = si h3 30 2 (nI (31 + 1)) → Q h4
set_option maxRecDepth 100000 in
theorem s_X2_init_31 {G : mG} {h : mH} {Q : mH → Prop} (hw : w_X2_init_31 h Q) : mConV G yX2_init e_X2_init_31 [.ref 30, .int 8, .int 4] h Q := by
  refine mConV_of (ls := [some (.ref 30), some (.int 8), some (.int 4)]) 0 (plainFor_of_name (by decide +kernel)) rfl (fun _ => rfl) (Nat.le_of_ble_eq_true rfl) rfl (Nat.le_of_ble_eq_true rfl) ?_
  unfold w_X2_init_31 at hw
  refine r_aload_n 1 d_X2_init_0 rfl rfl ?_
  refine r_oinit 4 d_X2_init_1 rfl q_120 q_91 q_92 (Nat.le_of_ble_eq_true rfl) (Nat.le_of_ble_eq_true rfl) ?_
  refine r_aload_n 5 d_X2_init_4 rfl rfl ?_
  refine r_iload_n 6 d_X2_init_5 rfl rfl ?_
  refine r_putI (k := 0) 9 d_X2_init_6 rfl cl_2 sh_30 (show 30 < 31 by decide) (Nat.le_of_ble_eq_true rfl) rfl q_121 (Or.inr ⟨rfl, rfl, rfl⟩) rfl rfl rfl ?_
  refine m_nmh (fun h1 eh1 => ?_)
  have hw := hw h1 eh1
  refine r_aload_n 10 d_X2_init_9 rfl rfl ?_
  refine r_iload_n 11 d_X2_init_10 rfl rfl ?_
  refine r_putI (k := 1) 14 d_X2_init_11 rfl cl_2 sh_30 (show 30 < 31 by decide) (Nat.le_of_ble_eq_true rfl) rfl q_122 (Or.inr ⟨rfl, rfl, rfl⟩) rfl rfl rfl ?_
  refine m_nmh (fun h2 eh2 => ?_)
  have hw := hw h2 eh2
  refine r_aload_n 15 d_X2_init_14 rfl rfl ?_
  refine r_iload_n 16 d_X2_init_15 rfl rfl ?_
  refine r_iload_n 17 d_X2_init_16 rfl rfl ?_
  refine r_imul 18 d_X2_init_17 rfl ?_
  refine r_newai 20 d_X2_init_18 rfl q_114 sh_31 (by decide) (by decide) (by decide) (by decide) (by decide) ?_
  refine m_nmh (fun h3 eh3 => ?_)
  have hw := hw h3 eh3
  refine r_putD (k := 2) 23 d_X2_init_20 rfl cl_2 sh_30 (show 30 < 32 by decide) (Nat.le_of_ble_eq_true rfl) rfl q_123 (Or.inr ⟨rfl, rfl, rfl⟩) rfl rfl (by decide) (fun _ => rfl) (fun _ => rfl) ?_
  refine m_nmh (fun h4 eh4 => ?_)
  have hw := hw h4 eh4
  exact r_return d_X2_init_23 rfl rfl hw
-- ===== X2_init at 33
def e_X2_init_33 : mEn := (m_s0, (cX2_init, 3, none, "OneHandEach$Entries", true), 1, 33, 34)
theorem k_X2_init_33 : mCalI yX2_init (cX2_init, 3, none, "OneHandEach$Entries", true) 2 := ⟨⟨q_119, q_71, ⟨by decide +kernel, by decide +kernel, by decide +kernel⟩, by decide⟩, q_118, rfl, rfl⟩
def w_X2_init_33 (h : mH) (Q : mH → Prop) : Prop :=
  ∀ h1 : mH, h1 = si h 32 0 10 → ∀ h2 : mH, h2 = si h1 32 1 3 → ∀ h3 : mH, h3 = zo h2 33 → ∀ h4 : mH, h4 = si h3 32 2 (nI (33 + 1)) → Q h4
set_option maxRecDepth 100000 in
theorem s_X2_init_33 {G : mG} {h : mH} {Q : mH → Prop} (hw : w_X2_init_33 h Q) : mConV G yX2_init e_X2_init_33 [.ref 32, .int 10, .int 3] h Q := by
  refine mConV_of (ls := [some (.ref 32), some (.int 10), some (.int 3)]) 0 (plainFor_of_name (by decide +kernel)) rfl (fun _ => rfl) (Nat.le_of_ble_eq_true rfl) rfl (Nat.le_of_ble_eq_true rfl) ?_
  unfold w_X2_init_33 at hw
  refine r_aload_n 1 d_X2_init_0 rfl rfl ?_
  refine r_oinit 4 d_X2_init_1 rfl q_120 q_91 q_92 (Nat.le_of_ble_eq_true rfl) (Nat.le_of_ble_eq_true rfl) ?_
  refine r_aload_n 5 d_X2_init_4 rfl rfl ?_
  refine r_iload_n 6 d_X2_init_5 rfl rfl ?_
  refine r_putI (k := 0) 9 d_X2_init_6 rfl cl_2 sh_32 (show 32 < 33 by decide) (Nat.le_of_ble_eq_true rfl) rfl q_121 (Or.inr ⟨rfl, rfl, rfl⟩) rfl rfl rfl ?_
  refine m_nmh (fun h1 eh1 => ?_)
  have hw := hw h1 eh1
  refine r_aload_n 10 d_X2_init_9 rfl rfl ?_
  refine r_iload_n 11 d_X2_init_10 rfl rfl ?_
  refine r_putI (k := 1) 14 d_X2_init_11 rfl cl_2 sh_32 (show 32 < 33 by decide) (Nat.le_of_ble_eq_true rfl) rfl q_122 (Or.inr ⟨rfl, rfl, rfl⟩) rfl rfl rfl ?_
  refine m_nmh (fun h2 eh2 => ?_)
  have hw := hw h2 eh2
  refine r_aload_n 15 d_X2_init_14 rfl rfl ?_
  refine r_iload_n 16 d_X2_init_15 rfl rfl ?_
  refine r_iload_n 17 d_X2_init_16 rfl rfl ?_
  refine r_imul 18 d_X2_init_17 rfl ?_
  refine r_newai 20 d_X2_init_18 rfl q_114 sh_33 (by decide) (by decide) (by decide) (by decide) (by decide) ?_
  refine m_nmh (fun h3 eh3 => ?_)
  have hw := hw h3 eh3
  refine r_putD (k := 2) 23 d_X2_init_20 rfl cl_2 sh_32 (show 32 < 34 by decide) (Nat.le_of_ble_eq_true rfl) rfl q_123 (Or.inr ⟨rfl, rfl, rfl⟩) rfl rfl (by decide) (fun _ => rfl) (fun _ => rfl) ?_
  refine m_nmh (fun h4 eh4 => ?_)
  have hw := hw h4 eh4
  exact r_return d_X2_init_23 rfl rfl hw
-- ===== X5_init at 30
theorem d_X5_init_0 : decode cX5_init 0 = .ok (.aload_n 0, 1) := by decide +kernel
theorem d_X5_init_1 : decode cX5_init 1 = .ok (.invokespecial 1, 3) := by decide +kernel
theorem d_X5_init_4 : decode cX5_init 4 = .ok (.aload_n 0, 1) := by decide +kernel
theorem d_X5_init_5 : decode cX5_init 5 = .ok (.new 7, 3) := by decide +kernel
theorem d_X5_init_8 : decode cX5_init 8 = .ok (.dup, 1) := by decide +kernel
theorem d_X5_init_9 : decode cX5_init 9 = .ok (.bipush 8, 2) := by decide +kernel
theorem d_X5_init_11 : decode cX5_init 11 = .ok (.iconst 4, 1) := by decide +kernel
theorem d_X5_init_12 : decode cX5_init 12 = .ok (.invokespecial 9, 3) := by decide +kernel
theorem d_X5_init_15 : decode cX5_init 15 = .ok (.putfield 12, 3) := by decide +kernel
theorem d_X5_init_18 : decode cX5_init 18 = .ok (.aload_n 0, 1) := by decide +kernel
theorem d_X5_init_19 : decode cX5_init 19 = .ok (.new 7, 3) := by decide +kernel
theorem d_X5_init_22 : decode cX5_init 22 = .ok (.dup, 1) := by decide +kernel
theorem d_X5_init_23 : decode cX5_init 23 = .ok (.bipush 10, 2) := by decide +kernel
theorem d_X5_init_25 : decode cX5_init 25 = .ok (.iconst 3, 1) := by decide +kernel
theorem d_X5_init_26 : decode cX5_init 26 = .ok (.invokespecial 9, 3) := by decide +kernel
theorem d_X5_init_29 : decode cX5_init 29 = .ok (.putfield 18, 3) := by decide +kernel
theorem d_X5_init_32 : decode cX5_init 32 = .ok (.aload_n 0, 1) := by decide +kernel
theorem d_X5_init_33 : decode cX5_init 33 = .ok (.iconst 2, 1) := by decide +kernel
theorem d_X5_init_34 : decode cX5_init 34 = .ok (.newarray .int, 2) := by decide +kernel
theorem d_X5_init_36 : decode cX5_init 36 = .ok (.putfield 21, 3) := by decide +kernel
theorem d_X5_init_39 : decode cX5_init 39 = .ok (.aload_n 0, 1) := by decide +kernel
theorem d_X5_init_40 : decode cX5_init 40 = .ok (.iconst 2, 1) := by decide +kernel
theorem d_X5_init_41 : decode cX5_init 41 = .ok (.newarray .int, 2) := by decide +kernel
theorem d_X5_init_43 : decode cX5_init 43 = .ok (.putfield 25, 3) := by decide +kernel
theorem d_X5_init_46 : decode cX5_init 46 = .ok (.aload_n 0, 1) := by decide +kernel
theorem d_X5_init_47 : decode cX5_init 47 = .ok (.iconst 2, 1) := by decide +kernel
theorem d_X5_init_48 : decode cX5_init 48 = .ok (.newarray .int, 2) := by decide +kernel
theorem d_X5_init_50 : decode cX5_init 50 = .ok (.putfield 28, 3) := by decide +kernel
theorem d_X5_init_53 : decode cX5_init 53 = .ok (.return_, 1) := by decide +kernel
def e_X5_init_30 : mEn := (m_s0, (cX5_init, 1, none, "OneHandEach$Image", true), 2, 30, 37)
theorem k_X5_init_30 : mCalI yX5_init (cX5_init, 1, none, "OneHandEach$Image", true) 0 := ⟨⟨q_258, q_78, ⟨by decide +kernel, by decide +kernel, by decide +kernel⟩, by decide⟩, q_257, rfl, rfl⟩
def w_X5_init_30 (h : mH) (Q : mH → Prop) : Prop :=
  ∀ h1 : mH, h1 = zo h 30 → w_X2_init_31 h1 (fun h2 => ∀ h3 : mH, h3 = si h2 29 0 (nI (30 + 1)) → ∀ h4 : mH, h4 = zo h3 32 → w_X2_init_33 h4 (fun h5 => ∀ h6 : mH, h6 = si h5 29 1 (nI (32 + 1)) → ∀ h7 : mH, h7 = zo h6 34 → ∀ h8 : mH, h8 = si h7 29 2 (nI (34 + 1)) → ∀ h9 : mH, h9 = zo h8 35 → ∀ h10 : mH, h10 = si h9 29 3 (nI (35 + 1)) → ∀ h11 : mH, h11 = zo h10 36 → ∀ h12 : mH, h12 = si h11 29 4 (nI (36 + 1)) → Q h12))
set_option maxRecDepth 100000 in
theorem s_X5_init_30 {G : mG} {h : mH} {Q : mH → Prop} (hw : w_X5_init_30 h Q) : mConV G yX5_init e_X5_init_30 [.ref 29] h Q := by
  refine mConV_of (ls := [some (.ref 29)]) 0 (plainFor_of_name (by decide +kernel)) rfl (fun _ => rfl) (Nat.le_of_ble_eq_true rfl) rfl (Nat.le_of_ble_eq_true rfl) ?_
  unfold w_X5_init_30 at hw
  refine r_aload_n 1 d_X5_init_0 rfl rfl ?_
  refine r_oinit 4 d_X5_init_1 rfl q_259 q_91 q_92 (Nat.le_of_ble_eq_true rfl) (Nat.le_of_ble_eq_true rfl) ?_
  refine r_aload_n 5 d_X5_init_4 rfl rfl ?_
  refine r_new 8 d_X5_init_5 rfl cl_2 q_260 q_116 q_71 sh_30 (by decide) (by decide) rfl (by decide) ?_
  refine m_nmh (fun h1 eh1 => ?_)
  have hw := hw h1 eh1
  refine r_dup 9 d_X5_init_8 rfl rfl ?_
  refine r_bipush (v := 8) 11 d_X5_init_9 rfl (by decide) ?_
  refine r_iconst (v := 4) 12 d_X5_init_11 rfl (by decide) ?_
  refine r_callIv (E2 := e_X2_init_31) (As := [.int 8, .int 4]) 15 d_X5_init_12 rfl q_261 k_X2_init_31 rfl rfl (Nat.le_of_ble_eq_true rfl) (Nat.le_of_ble_eq_true rfl) rfl rfl (Nat.le_of_ble_eq_true rfl) (Nat.le_of_ble_eq_true rfl) (s_X2_init_31 hw) ?_
  intro h2 hw
  refine r_putD (k := 0) 18 d_X5_init_15 rfl cl_5 sh_29 (show 29 < 32 by decide) (Nat.le_of_ble_eq_true rfl) rfl q_262 (Or.inr ⟨rfl, rfl, rfl⟩) rfl rfl (by decide) (fun _ => rfl) (fun _ => rfl) ?_
  refine m_nmh (fun h3 eh3 => ?_)
  have hw := hw h3 eh3
  refine r_aload_n 19 d_X5_init_18 rfl rfl ?_
  refine r_new 22 d_X5_init_19 rfl cl_2 q_260 q_116 q_71 sh_32 (by decide) (by decide) rfl (by decide) ?_
  refine m_nmh (fun h4 eh4 => ?_)
  have hw := hw h4 eh4
  refine r_dup 23 d_X5_init_22 rfl rfl ?_
  refine r_bipush (v := 10) 25 d_X5_init_23 rfl (by decide) ?_
  refine r_iconst (v := 3) 26 d_X5_init_25 rfl (by decide) ?_
  refine r_callIv (E2 := e_X2_init_33) (As := [.int 10, .int 3]) 29 d_X5_init_26 rfl q_261 k_X2_init_33 rfl rfl (Nat.le_of_ble_eq_true rfl) (Nat.le_of_ble_eq_true rfl) rfl rfl (Nat.le_of_ble_eq_true rfl) (Nat.le_of_ble_eq_true rfl) (s_X2_init_33 hw) ?_
  intro h5 hw
  refine r_putD (k := 1) 32 d_X5_init_29 rfl cl_5 sh_29 (show 29 < 34 by decide) (Nat.le_of_ble_eq_true rfl) rfl q_264 (Or.inr ⟨rfl, rfl, rfl⟩) rfl rfl (by decide) (fun _ => rfl) (fun _ => rfl) ?_
  refine m_nmh (fun h6 eh6 => ?_)
  have hw := hw h6 eh6
  refine r_aload_n 33 d_X5_init_32 rfl rfl ?_
  refine r_iconst (v := 2) 34 d_X5_init_33 rfl (by decide) ?_
  refine r_newai 36 d_X5_init_34 rfl q_114 sh_34 (by decide) (by decide) (by decide) (by decide) (by decide) ?_
  refine m_nmh (fun h7 eh7 => ?_)
  have hw := hw h7 eh7
  refine r_putD (k := 2) 39 d_X5_init_36 rfl cl_5 sh_29 (show 29 < 35 by decide) (Nat.le_of_ble_eq_true rfl) rfl q_266 (Or.inr ⟨rfl, rfl, rfl⟩) rfl rfl (by decide) (fun _ => rfl) (fun _ => rfl) ?_
  refine m_nmh (fun h8 eh8 => ?_)
  have hw := hw h8 eh8
  refine r_aload_n 40 d_X5_init_39 rfl rfl ?_
  refine r_iconst (v := 2) 41 d_X5_init_40 rfl (by decide) ?_
  refine r_newai 43 d_X5_init_41 rfl q_114 sh_35 (by decide) (by decide) (by decide) (by decide) (by decide) ?_
  refine m_nmh (fun h9 eh9 => ?_)
  have hw := hw h9 eh9
  refine r_putD (k := 3) 46 d_X5_init_43 rfl cl_5 sh_29 (show 29 < 36 by decide) (Nat.le_of_ble_eq_true rfl) rfl q_268 (Or.inr ⟨rfl, rfl, rfl⟩) rfl rfl (by decide) (fun _ => rfl) (fun _ => rfl) ?_
  refine m_nmh (fun h10 eh10 => ?_)
  have hw := hw h10 eh10
  refine r_aload_n 47 d_X5_init_46 rfl rfl ?_
  refine r_iconst (v := 2) 48 d_X5_init_47 rfl (by decide) ?_
  refine r_newai 50 d_X5_init_48 rfl q_114 sh_36 (by decide) (by decide) (by decide) (by decide) (by decide) ?_
  refine m_nmh (fun h11 eh11 => ?_)
  have hw := hw h11 eh11
  refine r_putD (k := 4) 53 d_X5_init_50 rfl cl_5 sh_29 (show 29 < 37 by decide) (Nat.le_of_ble_eq_true rfl) rfl q_270 (Or.inr ⟨rfl, rfl, rfl⟩) rfl rfl (by decide) (fun _ => rfl) (fun _ => rfl) ?_
  refine m_nmh (fun h12 eh12 => ?_)
  have hw := hw h12 eh12
  exact r_return d_X5_init_53 rfl rfl hw
-- ===== X0_init at 38
theorem d_X0_init_0 : decode cX0_init 0 = .ok (.aload_n 0, 1) := by decide +kernel
theorem d_X0_init_1 : decode cX0_init 1 = .ok (.invokespecial 3, 3) := by decide +kernel
theorem d_X0_init_4 : decode cX0_init 4 = .ok (.aload_n 0, 1) := by decide +kernel
theorem d_X0_init_5 : decode cX0_init 5 = .ok (.bipush 50, 2) := by decide +kernel
theorem d_X0_init_7 : decode cX0_init 7 = .ok (.newarray .int, 2) := by decide +kernel
theorem d_X0_init_9 : decode cX0_init 9 = .ok (.putfield 11, 3) := by decide +kernel
theorem d_X0_init_12 : decode cX0_init 12 = .ok (.aload_n 0, 1) := by decide +kernel
theorem d_X0_init_13 : decode cX0_init 13 = .ok (.bipush 24, 2) := by decide +kernel
theorem d_X0_init_15 : decode cX0_init 15 = .ok (.newarray .int, 2) := by decide +kernel
theorem d_X0_init_17 : decode cX0_init 17 = .ok (.putfield 15, 3) := by decide +kernel
theorem d_X0_init_20 : decode cX0_init 20 = .ok (.return_, 1) := by decide +kernel
def e_X0_init_38 : mEn := (m_s0, (cX0_init, 1, none, "OneHandEach$Bodies", true), 1, 38, 40)
theorem k_X0_init_38 : mCalI yX0_init (cX0_init, 1, none, "OneHandEach$Bodies", true) 0 := ⟨⟨q_290, q_79, ⟨by decide +kernel, by decide +kernel, by decide +kernel⟩, by decide⟩, q_289, rfl, rfl⟩
def w_X0_init_38 (h : mH) (Q : mH → Prop) : Prop :=
  ∀ h1 : mH, h1 = zo h 38 → ∀ h2 : mH, h2 = si h1 37 0 (nI (38 + 1)) → ∀ h3 : mH, h3 = zo h2 39 → ∀ h4 : mH, h4 = si h3 37 1 (nI (39 + 1)) → Q h4
set_option maxRecDepth 100000 in
theorem s_X0_init_38 {G : mG} {h : mH} {Q : mH → Prop} (hw : w_X0_init_38 h Q) : mConV G yX0_init e_X0_init_38 [.ref 37] h Q := by
  refine mConV_of (ls := [some (.ref 37)]) 0 (plainFor_of_name (by decide +kernel)) rfl (fun _ => rfl) (Nat.le_of_ble_eq_true rfl) rfl (Nat.le_of_ble_eq_true rfl) ?_
  unfold w_X0_init_38 at hw
  refine r_aload_n 1 d_X0_init_0 rfl rfl ?_
  refine r_oinit 4 d_X0_init_1 rfl q_291 q_91 q_92 (Nat.le_of_ble_eq_true rfl) (Nat.le_of_ble_eq_true rfl) ?_
  refine r_aload_n 5 d_X0_init_4 rfl rfl ?_
  refine r_bipush (v := 50) 7 d_X0_init_5 rfl (by decide) ?_
  refine r_newai 9 d_X0_init_7 rfl q_114 sh_38 (by decide) (by decide) (by decide) (by decide) (by decide) ?_
  refine m_nmh (fun h1 eh1 => ?_)
  have hw := hw h1 eh1
  refine r_putD (k := 0) 12 d_X0_init_9 rfl cl_0 sh_37 (show 37 < 39 by decide) (Nat.le_of_ble_eq_true rfl) rfl q_292 (Or.inr ⟨rfl, rfl, rfl⟩) rfl rfl (by decide) (fun _ => rfl) (fun _ => rfl) ?_
  refine m_nmh (fun h2 eh2 => ?_)
  have hw := hw h2 eh2
  refine r_aload_n 13 d_X0_init_12 rfl rfl ?_
  refine r_bipush (v := 24) 15 d_X0_init_13 rfl (by decide) ?_
  refine r_newai 17 d_X0_init_15 rfl q_114 sh_39 (by decide) (by decide) (by decide) (by decide) (by decide) ?_
  refine m_nmh (fun h3 eh3 => ?_)
  have hw := hw h3 eh3
  refine r_putD (k := 1) 20 d_X0_init_17 rfl cl_0 sh_37 (show 37 < 40 by decide) (Nat.le_of_ble_eq_true rfl) rfl q_293 (Or.inr ⟨rfl, rfl, rfl⟩) rfl rfl (by decide) (fun _ => rfl) (fun _ => rfl) ?_
  refine m_nmh (fun h4 eh4 => ?_)
  have hw := hw h4 eh4
  exact r_return d_X0_init_20 rfl rfl hw
-- ===== X9_init at 42
theorem d_X9_init_0 : decode cX9_init 0 = .ok (.aload_n 0, 1) := by decide +kernel
theorem d_X9_init_1 : decode cX9_init 1 = .ok (.invokespecial 1, 3) := by decide +kernel
theorem d_X9_init_4 : decode cX9_init 4 = .ok (.aload_n 0, 1) := by decide +kernel
theorem d_X9_init_5 : decode cX9_init 5 = .ok (.bipush 60, 2) := by decide +kernel
theorem d_X9_init_7 : decode cX9_init 7 = .ok (.newarray .long, 2) := by decide +kernel
theorem d_X9_init_9 : decode cX9_init 9 = .ok (.putfield 9, 3) := by decide +kernel
theorem d_X9_init_12 : decode cX9_init 12 = .ok (.return_, 1) := by decide +kernel
def e_X9_init_42 : mEn := (m_s0, (cX9_init, 1, none, "OneHandEach$Shelf", true), 1, 42, 43)
theorem k_X9_init_42 : mCalI yX9_init (cX9_init, 1, none, "OneHandEach$Shelf", true) 0 := ⟨⟨q_313, q_80, ⟨by decide +kernel, by decide +kernel, by decide +kernel⟩, by decide⟩, q_312, rfl, rfl⟩
def w_X9_init_42 (h : mH) (Q : mH → Prop) : Prop :=
  ∀ h1 : mH, h1 = zo h 42 → ∀ h2 : mH, h2 = si h1 41 0 (nI (42 + 1)) → Q h2
set_option maxRecDepth 100000 in
theorem s_X9_init_42 {G : mG} {h : mH} {Q : mH → Prop} (hw : w_X9_init_42 h Q) : mConV G yX9_init e_X9_init_42 [.ref 41] h Q := by
  refine mConV_of (ls := [some (.ref 41)]) 0 (plainFor_of_name (by decide +kernel)) rfl (fun _ => rfl) (Nat.le_of_ble_eq_true rfl) rfl (Nat.le_of_ble_eq_true rfl) ?_
  unfold w_X9_init_42 at hw
  refine r_aload_n 1 d_X9_init_0 rfl rfl ?_
  refine r_oinit 4 d_X9_init_1 rfl q_314 q_91 q_92 (Nat.le_of_ble_eq_true rfl) (Nat.le_of_ble_eq_true rfl) ?_
  refine r_aload_n 5 d_X9_init_4 rfl rfl ?_
  refine r_bipush (v := 60) 7 d_X9_init_5 rfl (by decide) ?_
  refine r_newal 9 d_X9_init_7 rfl q_335 sh_42 (by decide) (by decide) (by decide) (by decide) (by decide) ?_
  refine m_nmh (fun h1 eh1 => ?_)
  have hw := hw h1 eh1
  refine r_putD (k := 0) 12 d_X9_init_9 rfl cl_9 sh_41 (show 41 < 43 by decide) (Nat.le_of_ble_eq_true rfl) rfl q_315 (Or.inr ⟨rfl, rfl, rfl⟩) rfl rfl (by decide) (fun _ => rfl) (fun _ => rfl) ?_
  refine m_nmh (fun h2 eh2 => ?_)
  have hw := hw h2 eh2
  exact r_return d_X9_init_12 rfl rfl hw
-- ===== X9_init at 44
def e_X9_init_44 : mEn := (m_s0, (cX9_init, 1, none, "OneHandEach$Shelf", true), 1, 44, 45)
theorem k_X9_init_44 : mCalI yX9_init (cX9_init, 1, none, "OneHandEach$Shelf", true) 0 := ⟨⟨q_313, q_80, ⟨by decide +kernel, by decide +kernel, by decide +kernel⟩, by decide⟩, q_312, rfl, rfl⟩
def w_X9_init_44 (h : mH) (Q : mH → Prop) : Prop :=
  ∀ h1 : mH, h1 = zo h 44 → ∀ h2 : mH, h2 = si h1 43 0 (nI (44 + 1)) → Q h2
set_option maxRecDepth 100000 in
theorem s_X9_init_44 {G : mG} {h : mH} {Q : mH → Prop} (hw : w_X9_init_44 h Q) : mConV G yX9_init e_X9_init_44 [.ref 43] h Q := by
  refine mConV_of (ls := [some (.ref 43)]) 0 (plainFor_of_name (by decide +kernel)) rfl (fun _ => rfl) (Nat.le_of_ble_eq_true rfl) rfl (Nat.le_of_ble_eq_true rfl) ?_
  unfold w_X9_init_44 at hw
  refine r_aload_n 1 d_X9_init_0 rfl rfl ?_
  refine r_oinit 4 d_X9_init_1 rfl q_314 q_91 q_92 (Nat.le_of_ble_eq_true rfl) (Nat.le_of_ble_eq_true rfl) ?_
  refine r_aload_n 5 d_X9_init_4 rfl rfl ?_
  refine r_bipush (v := 60) 7 d_X9_init_5 rfl (by decide) ?_
  refine r_newal 9 d_X9_init_7 rfl q_335 sh_44 (by decide) (by decide) (by decide) (by decide) (by decide) ?_
  refine m_nmh (fun h1 eh1 => ?_)
  have hw := hw h1 eh1
  refine r_putD (k := 0) 12 d_X9_init_9 rfl cl_9 sh_43 (show 43 < 45 by decide) (Nat.le_of_ble_eq_true rfl) rfl q_315 (Or.inr ⟨rfl, rfl, rfl⟩) rfl rfl (by decide) (fun _ => rfl) (fun _ => rfl) ?_
  refine m_nmh (fun h2 eh2 => ?_)
  have hw := hw h2 eh2
  exact r_return d_X9_init_12 rfl rfl hw
-- ===== X9_init at 46
def e_X9_init_46 : mEn := (m_s0, (cX9_init, 1, none, "OneHandEach$Shelf", true), 1, 46, 47)
theorem k_X9_init_46 : mCalI yX9_init (cX9_init, 1, none, "OneHandEach$Shelf", true) 0 := ⟨⟨q_313, q_80, ⟨by decide +kernel, by decide +kernel, by decide +kernel⟩, by decide⟩, q_312, rfl, rfl⟩
def w_X9_init_46 (h : mH) (Q : mH → Prop) : Prop :=
  ∀ h1 : mH, h1 = zo h 46 → ∀ h2 : mH, h2 = si h1 45 0 (nI (46 + 1)) → Q h2
set_option maxRecDepth 100000 in
theorem s_X9_init_46 {G : mG} {h : mH} {Q : mH → Prop} (hw : w_X9_init_46 h Q) : mConV G yX9_init e_X9_init_46 [.ref 45] h Q := by
  refine mConV_of (ls := [some (.ref 45)]) 0 (plainFor_of_name (by decide +kernel)) rfl (fun _ => rfl) (Nat.le_of_ble_eq_true rfl) rfl (Nat.le_of_ble_eq_true rfl) ?_
  unfold w_X9_init_46 at hw
  refine r_aload_n 1 d_X9_init_0 rfl rfl ?_
  refine r_oinit 4 d_X9_init_1 rfl q_314 q_91 q_92 (Nat.le_of_ble_eq_true rfl) (Nat.le_of_ble_eq_true rfl) ?_
  refine r_aload_n 5 d_X9_init_4 rfl rfl ?_
  refine r_bipush (v := 60) 7 d_X9_init_5 rfl (by decide) ?_
  refine r_newal 9 d_X9_init_7 rfl q_335 sh_46 (by decide) (by decide) (by decide) (by decide) (by decide) ?_
  refine m_nmh (fun h1 eh1 => ?_)
  have hw := hw h1 eh1
  refine r_putD (k := 0) 12 d_X9_init_9 rfl cl_9 sh_45 (show 45 < 47 by decide) (Nat.le_of_ble_eq_true rfl) rfl q_315 (Or.inr ⟨rfl, rfl, rfl⟩) rfl rfl (by decide) (fun _ => rfl) (fun _ => rfl) ?_
  refine m_nmh (fun h2 eh2 => ?_)
  have hw := hw h2 eh2
  exact r_return d_X9_init_12 rfl rfl hw
-- ===== X9_init at 48
def e_X9_init_48 : mEn := (m_s0, (cX9_init, 1, none, "OneHandEach$Shelf", true), 1, 48, 49)
theorem k_X9_init_48 : mCalI yX9_init (cX9_init, 1, none, "OneHandEach$Shelf", true) 0 := ⟨⟨q_313, q_80, ⟨by decide +kernel, by decide +kernel, by decide +kernel⟩, by decide⟩, q_312, rfl, rfl⟩
def w_X9_init_48 (h : mH) (Q : mH → Prop) : Prop :=
  ∀ h1 : mH, h1 = zo h 48 → ∀ h2 : mH, h2 = si h1 47 0 (nI (48 + 1)) → Q h2
set_option maxRecDepth 100000 in
theorem s_X9_init_48 {G : mG} {h : mH} {Q : mH → Prop} (hw : w_X9_init_48 h Q) : mConV G yX9_init e_X9_init_48 [.ref 47] h Q := by
  refine mConV_of (ls := [some (.ref 47)]) 0 (plainFor_of_name (by decide +kernel)) rfl (fun _ => rfl) (Nat.le_of_ble_eq_true rfl) rfl (Nat.le_of_ble_eq_true rfl) ?_
  unfold w_X9_init_48 at hw
  refine r_aload_n 1 d_X9_init_0 rfl rfl ?_
  refine r_oinit 4 d_X9_init_1 rfl q_314 q_91 q_92 (Nat.le_of_ble_eq_true rfl) (Nat.le_of_ble_eq_true rfl) ?_
  refine r_aload_n 5 d_X9_init_4 rfl rfl ?_
  refine r_bipush (v := 60) 7 d_X9_init_5 rfl (by decide) ?_
  refine r_newal 9 d_X9_init_7 rfl q_335 sh_48 (by decide) (by decide) (by decide) (by decide) (by decide) ?_
  refine m_nmh (fun h1 eh1 => ?_)
  have hw := hw h1 eh1
  refine r_putD (k := 0) 12 d_X9_init_9 rfl cl_9 sh_47 (show 47 < 49 by decide) (Nat.le_of_ble_eq_true rfl) rfl q_315 (Or.inr ⟨rfl, rfl, rfl⟩) rfl rfl (by decide) (fun _ => rfl) (fun _ => rfl) ?_
  refine m_nmh (fun h2 eh2 => ?_)
  have hw := hw h2 eh2
  exact r_return d_X9_init_12 rfl rfl hw
-- ===== X9_init at 50
def e_X9_init_50 : mEn := (m_s0, (cX9_init, 1, none, "OneHandEach$Shelf", true), 1, 50, 51)
theorem k_X9_init_50 : mCalI yX9_init (cX9_init, 1, none, "OneHandEach$Shelf", true) 0 := ⟨⟨q_313, q_80, ⟨by decide +kernel, by decide +kernel, by decide +kernel⟩, by decide⟩, q_312, rfl, rfl⟩
def w_X9_init_50 (h : mH) (Q : mH → Prop) : Prop :=
  ∀ h1 : mH, h1 = zo h 50 → ∀ h2 : mH, h2 = si h1 49 0 (nI (50 + 1)) → Q h2
set_option maxRecDepth 100000 in
theorem s_X9_init_50 {G : mG} {h : mH} {Q : mH → Prop} (hw : w_X9_init_50 h Q) : mConV G yX9_init e_X9_init_50 [.ref 49] h Q := by
  refine mConV_of (ls := [some (.ref 49)]) 0 (plainFor_of_name (by decide +kernel)) rfl (fun _ => rfl) (Nat.le_of_ble_eq_true rfl) rfl (Nat.le_of_ble_eq_true rfl) ?_
  unfold w_X9_init_50 at hw
  refine r_aload_n 1 d_X9_init_0 rfl rfl ?_
  refine r_oinit 4 d_X9_init_1 rfl q_314 q_91 q_92 (Nat.le_of_ble_eq_true rfl) (Nat.le_of_ble_eq_true rfl) ?_
  refine r_aload_n 5 d_X9_init_4 rfl rfl ?_
  refine r_bipush (v := 60) 7 d_X9_init_5 rfl (by decide) ?_
  refine r_newal 9 d_X9_init_7 rfl q_335 sh_50 (by decide) (by decide) (by decide) (by decide) (by decide) ?_
  refine m_nmh (fun h1 eh1 => ?_)
  have hw := hw h1 eh1
  refine r_putD (k := 0) 12 d_X9_init_9 rfl cl_9 sh_49 (show 49 < 51 by decide) (Nat.le_of_ble_eq_true rfl) rfl q_315 (Or.inr ⟨rfl, rfl, rfl⟩) rfl rfl (by decide) (fun _ => rfl) (fun _ => rfl) ?_
  refine m_nmh (fun h2 eh2 => ?_)
  have hw := hw h2 eh2
  exact r_return d_X9_init_12 rfl rfl hw
-- ===== X9_init at 52
def e_X9_init_52 : mEn := (m_s0, (cX9_init, 1, none, "OneHandEach$Shelf", true), 1, 52, 53)
theorem k_X9_init_52 : mCalI yX9_init (cX9_init, 1, none, "OneHandEach$Shelf", true) 0 := ⟨⟨q_313, q_80, ⟨by decide +kernel, by decide +kernel, by decide +kernel⟩, by decide⟩, q_312, rfl, rfl⟩
def w_X9_init_52 (h : mH) (Q : mH → Prop) : Prop :=
  ∀ h1 : mH, h1 = zo h 52 → ∀ h2 : mH, h2 = si h1 51 0 (nI (52 + 1)) → Q h2
set_option maxRecDepth 100000 in
theorem s_X9_init_52 {G : mG} {h : mH} {Q : mH → Prop} (hw : w_X9_init_52 h Q) : mConV G yX9_init e_X9_init_52 [.ref 51] h Q := by
  refine mConV_of (ls := [some (.ref 51)]) 0 (plainFor_of_name (by decide +kernel)) rfl (fun _ => rfl) (Nat.le_of_ble_eq_true rfl) rfl (Nat.le_of_ble_eq_true rfl) ?_
  unfold w_X9_init_52 at hw
  refine r_aload_n 1 d_X9_init_0 rfl rfl ?_
  refine r_oinit 4 d_X9_init_1 rfl q_314 q_91 q_92 (Nat.le_of_ble_eq_true rfl) (Nat.le_of_ble_eq_true rfl) ?_
  refine r_aload_n 5 d_X9_init_4 rfl rfl ?_
  refine r_bipush (v := 60) 7 d_X9_init_5 rfl (by decide) ?_
  refine r_newal 9 d_X9_init_7 rfl q_335 sh_52 (by decide) (by decide) (by decide) (by decide) (by decide) ?_
  refine m_nmh (fun h1 eh1 => ?_)
  have hw := hw h1 eh1
  refine r_putD (k := 0) 12 d_X9_init_9 rfl cl_9 sh_51 (show 51 < 53 by decide) (Nat.le_of_ble_eq_true rfl) rfl q_315 (Or.inr ⟨rfl, rfl, rfl⟩) rfl rfl (by decide) (fun _ => rfl) (fun _ => rfl) ?_
  refine m_nmh (fun h2 eh2 => ?_)
  have hw := hw h2 eh2
  exact r_return d_X9_init_12 rfl rfl hw
-- ===== X11_init at 1
theorem d_X11_init_0 : decode cX11_init 0 = .ok (.aload_n 0, 1) := by decide +kernel
theorem d_X11_init_1 : decode cX11_init 1 = .ok (.invokespecial 1, 3) := by decide +kernel
theorem d_X11_init_4 : decode cX11_init 4 = .ok (.aload_n 0, 1) := by decide +kernel
theorem d_X11_init_5 : decode cX11_init 5 = .ok (.new 7, 3) := by decide +kernel
theorem d_X11_init_8 : decode cX11_init 8 = .ok (.dup, 1) := by decide +kernel
theorem d_X11_init_9 : decode cX11_init 9 = .ok (.invokespecial 9, 3) := by decide +kernel
theorem d_X11_init_12 : decode cX11_init 12 = .ok (.putfield 10, 3) := by decide +kernel
theorem d_X11_init_15 : decode cX11_init 15 = .ok (.aload_n 0, 1) := by decide +kernel
theorem d_X11_init_16 : decode cX11_init 16 = .ok (.new 16, 3) := by decide +kernel
theorem d_X11_init_19 : decode cX11_init 19 = .ok (.dup, 1) := by decide +kernel
theorem d_X11_init_20 : decode cX11_init 20 = .ok (.bipush 8, 2) := by decide +kernel
theorem d_X11_init_22 : decode cX11_init 22 = .ok (.iconst 4, 1) := by decide +kernel
theorem d_X11_init_23 : decode cX11_init 23 = .ok (.invokespecial 18, 3) := by decide +kernel
theorem d_X11_init_26 : decode cX11_init 26 = .ok (.putfield 21, 3) := by decide +kernel
theorem d_X11_init_29 : decode cX11_init 29 = .ok (.aload_n 0, 1) := by decide +kernel
theorem d_X11_init_30 : decode cX11_init 30 = .ok (.new 16, 3) := by decide +kernel
theorem d_X11_init_33 : decode cX11_init 33 = .ok (.dup, 1) := by decide +kernel
theorem d_X11_init_34 : decode cX11_init 34 = .ok (.bipush 10, 2) := by decide +kernel
theorem d_X11_init_36 : decode cX11_init 36 = .ok (.iconst 3, 1) := by decide +kernel
theorem d_X11_init_37 : decode cX11_init 37 = .ok (.invokespecial 18, 3) := by decide +kernel
theorem d_X11_init_40 : decode cX11_init 40 = .ok (.putfield 25, 3) := by decide +kernel
theorem d_X11_init_43 : decode cX11_init 43 = .ok (.aload_n 0, 1) := by decide +kernel
theorem d_X11_init_44 : decode cX11_init 44 = .ok (.new 28, 3) := by decide +kernel
theorem d_X11_init_47 : decode cX11_init 47 = .ok (.dup, 1) := by decide +kernel
theorem d_X11_init_48 : decode cX11_init 48 = .ok (.invokespecial 30, 3) := by decide +kernel
theorem d_X11_init_51 : decode cX11_init 51 = .ok (.putfield 31, 3) := by decide +kernel
theorem d_X11_init_54 : decode cX11_init 54 = .ok (.aload_n 0, 1) := by decide +kernel
theorem d_X11_init_55 : decode cX11_init 55 = .ok (.new 35, 3) := by decide +kernel
theorem d_X11_init_58 : decode cX11_init 58 = .ok (.dup, 1) := by decide +kernel
theorem d_X11_init_59 : decode cX11_init 59 = .ok (.invokespecial 37, 3) := by decide +kernel
theorem d_X11_init_62 : decode cX11_init 62 = .ok (.putfield 38, 3) := by decide +kernel
theorem d_X11_init_65 : decode cX11_init 65 = .ok (.aload_n 0, 1) := by decide +kernel
theorem d_X11_init_66 : decode cX11_init 66 = .ok (.new 42, 3) := by decide +kernel
theorem d_X11_init_69 : decode cX11_init 69 = .ok (.dup, 1) := by decide +kernel
theorem d_X11_init_70 : decode cX11_init 70 = .ok (.invokespecial 44, 3) := by decide +kernel
theorem d_X11_init_73 : decode cX11_init 73 = .ok (.putfield 45, 3) := by decide +kernel
theorem d_X11_init_76 : decode cX11_init 76 = .ok (.aload_n 0, 1) := by decide +kernel
theorem d_X11_init_77 : decode cX11_init 77 = .ok (.new 49, 3) := by decide +kernel
theorem d_X11_init_80 : decode cX11_init 80 = .ok (.dup, 1) := by decide +kernel
theorem d_X11_init_81 : decode cX11_init 81 = .ok (.invokespecial 51, 3) := by decide +kernel
theorem d_X11_init_84 : decode cX11_init 84 = .ok (.putfield 52, 3) := by decide +kernel
theorem d_X11_init_87 : decode cX11_init 87 = .ok (.aload_n 0, 1) := by decide +kernel
theorem d_X11_init_88 : decode cX11_init 88 = .ok (.new 56, 3) := by decide +kernel
theorem d_X11_init_91 : decode cX11_init 91 = .ok (.dup, 1) := by decide +kernel
theorem d_X11_init_92 : decode cX11_init 92 = .ok (.invokespecial 58, 3) := by decide +kernel
theorem d_X11_init_95 : decode cX11_init 95 = .ok (.putfield 59, 3) := by decide +kernel
theorem d_X11_init_98 : decode cX11_init 98 = .ok (.aload_n 0, 1) := by decide +kernel
theorem d_X11_init_99 : decode cX11_init 99 = .ok (.new 63, 3) := by decide +kernel
theorem d_X11_init_102 : decode cX11_init 102 = .ok (.dup, 1) := by decide +kernel
theorem d_X11_init_103 : decode cX11_init 103 = .ok (.invokespecial 65, 3) := by decide +kernel
theorem d_X11_init_106 : decode cX11_init 106 = .ok (.putfield 66, 3) := by decide +kernel
theorem d_X11_init_109 : decode cX11_init 109 = .ok (.aload_n 0, 1) := by decide +kernel
theorem d_X11_init_110 : decode cX11_init 110 = .ok (.bipush 6, 2) := by decide +kernel
theorem d_X11_init_112 : decode cX11_init 112 = .ok (.anewarray 70, 3) := by decide +kernel
theorem d_X11_init_115 : decode cX11_init 115 = .ok (.putfield 72, 3) := by decide +kernel
theorem d_X11_init_118 : decode cX11_init 118 = .ok (.iconst 0, 1) := by decide +kernel
theorem d_X11_init_119 : decode cX11_init 119 = .ok (.istore_n 1, 1) := by decide +kernel
theorem d_X11_init_120 : decode cX11_init 120 = .ok (.iload_n 1, 1) := by decide +kernel
theorem d_X11_init_121 : decode cX11_init 121 = .ok (.bipush 6, 2) := by decide +kernel
theorem d_X11_init_123 : decode cX11_init 123 = .ok (.if_icmp .ge 22, 3) := by decide +kernel
theorem d_X11_init_126 : decode cX11_init 126 = .ok (.aload_n 0, 1) := by decide +kernel
theorem d_X11_init_127 : decode cX11_init 127 = .ok (.getfield 72, 3) := by decide +kernel
theorem d_X11_init_130 : decode cX11_init 130 = .ok (.iload_n 1, 1) := by decide +kernel
theorem d_X11_init_131 : decode cX11_init 131 = .ok (.new 70, 3) := by decide +kernel
theorem d_X11_init_134 : decode cX11_init 134 = .ok (.dup, 1) := by decide +kernel
theorem d_X11_init_135 : decode cX11_init 135 = .ok (.invokespecial 76, 3) := by decide +kernel
theorem d_X11_init_138 : decode cX11_init 138 = .ok (.aastore, 1) := by decide +kernel
theorem d_X11_init_139 : decode cX11_init 139 = .ok (.iinc 1 1, 3) := by decide +kernel
theorem d_X11_init_142 : decode cX11_init 142 = .ok (.goto (-22), 3) := by decide +kernel
theorem d_X11_init_145 : decode cX11_init 145 = .ok (.return_, 1) := by decide +kernel
def e_X11_init_1 : mEn := (m_s0, (cX11_init, 2, none, "OneHandEach", true), 4, 1, 53)
theorem k_X11_init_1 : mCalI yX11_init (cX11_init, 2, none, "OneHandEach", true) 0 := ⟨⟨q_89, q_69, ⟨by decide +kernel, by decide +kernel, by decide +kernel⟩, by decide⟩, q_88, rfl, rfl⟩
def w_X11_init_1 (h : mH) (Q : mH → Prop) : Prop :=
  ∀ h1 : mH, h1 = zo h 1 → w_X10_init_2 h1 (fun h2 => ∀ h3 : mH, h3 = si h2 0 0 (nI (1 + 1)) → ∀ h4 : mH, h4 = zo h3 5 → w_X2_init_6 h4 (fun h5 => ∀ h6 : mH, h6 = si h5 0 1 (nI (5 + 1)) → ∀ h7 : mH, h7 = zo h6 7 → w_X2_init_8 h7 (fun h8 => ∀ h9 : mH, h9 = si h8 0 2 (nI (7 + 1)) → ∀ h10 : mH, h10 = zo h9 9 → w_X6_init_10 h10 (fun h11 => ∀ h12 : mH, h12 = si h11 0 3 (nI (9 + 1)) → ∀ h13 : mH, h13 = zo h12 19 → w_X3_init_20 h13 (fun h14 => ∀ h15 : mH, h15 = si h14 0 4 (nI (19 + 1)) → ∀ h16 : mH, h16 = zo h15 23 → w_X4_init_24 h16 (fun h17 => ∀ h18 : mH, h18 = si h17 0 5 (nI (23 + 1)) → ∀ h19 : mH, h19 = zo h18 25 → w_X1_init_26 h19 (fun h20 => ∀ h21 : mH, h21 = si h20 0 6 (nI (25 + 1)) → ∀ h22 : mH, h22 = zo h21 29 → w_X5_init_30 h22 (fun h23 => ∀ h24 : mH, h24 = si h23 0 7 (nI (29 + 1)) → ∀ h25 : mH, h25 = zo h24 37 → w_X0_init_38 h25 (fun h26 => ∀ h27 : mH, h27 = si h26 0 8 (nI (37 + 1)) → ∀ h28 : mH, h28 = zo h27 40 → ∀ h29 : mH, h29 = si h28 0 9 (nI (40 + 1)) → gi h29 0 9 = nI 41 ∧ ∀ h30 : mH, h30 = zo h29 41 → w_X9_init_42 h30 (fun h31 => ∀ h32 : mH, h32 = si h31 40 0 (nI (41 + 1)) → gi h32 0 9 = nI 41 ∧ ∀ h33 : mH, h33 = zo h32 43 → w_X9_init_44 h33 (fun h34 => ∀ h35 : mH, h35 = si h34 40 1 (nI (43 + 1)) → gi h35 0 9 = nI 41 ∧ ∀ h36 : mH, h36 = zo h35 45 → w_X9_init_46 h36 (fun h37 => ∀ h38 : mH, h38 = si h37 40 2 (nI (45 + 1)) → gi h38 0 9 = nI 41 ∧ ∀ h39 : mH, h39 = zo h38 47 → w_X9_init_48 h39 (fun h40 => ∀ h41 : mH, h41 = si h40 40 3 (nI (47 + 1)) → gi h41 0 9 = nI 41 ∧ ∀ h42 : mH, h42 = zo h41 49 → w_X9_init_50 h42 (fun h43 => ∀ h44 : mH, h44 = si h43 40 4 (nI (49 + 1)) → gi h44 0 9 = nI 41 ∧ ∀ h45 : mH, h45 = zo h44 51 → w_X9_init_52 h45 (fun h46 => ∀ h47 : mH, h47 = si h46 40 5 (nI (51 + 1)) → Q h47)))))))))))))))
set_option maxRecDepth 100000 in
theorem s_X11_init_1 {G : mG} {h : mH} {Q : mH → Prop} (hw : w_X11_init_1 h Q) : mConV G yX11_init e_X11_init_1 [.ref 0] h Q := by
  refine mConV_of (ls := [some (.ref 0), none]) 1 (plainFor_of_name (by decide +kernel)) rfl (fun _ => rfl) (Nat.le_of_ble_eq_true rfl) rfl (Nat.le_of_ble_eq_true rfl) ?_
  unfold w_X11_init_1 at hw
  refine r_aload_n 1 d_X11_init_0 rfl rfl ?_
  refine r_oinit 4 d_X11_init_1 rfl q_90 q_91 q_92 (Nat.le_of_ble_eq_true rfl) (Nat.le_of_ble_eq_true rfl) ?_
  refine r_aload_n 5 d_X11_init_4 rfl rfl ?_
  refine r_new 8 d_X11_init_5 rfl cl_10 q_93 q_94 q_70 sh_1 (by decide) (by decide) rfl (by decide) ?_
  refine m_nmh (fun h1 eh1 => ?_)
  have hw := hw h1 eh1
  refine r_dup 9 d_X11_init_8 rfl rfl ?_
  refine r_callIv (E2 := e_X10_init_2) (As := []) 12 d_X11_init_9 rfl q_95 k_X10_init_2 rfl rfl (Nat.le_of_ble_eq_true rfl) (Nat.le_of_ble_eq_true rfl) rfl rfl (Nat.le_of_ble_eq_true rfl) (Nat.le_of_ble_eq_true rfl) (s_X10_init_2 hw) ?_
  intro h2 hw
  refine r_putD (k := 0) 15 d_X11_init_12 rfl cl_11 sh_0 (show 0 < 5 by decide) (Nat.le_of_ble_eq_true rfl) rfl q_336 (Or.inr ⟨rfl, rfl, rfl⟩) rfl rfl (by decide) (fun _ => rfl) (fun _ => rfl) ?_
  refine m_nmh (fun h3 eh3 => ?_)
  have hw := hw h3 eh3
  refine r_aload_n 16 d_X11_init_15 rfl rfl ?_
  refine r_new 19 d_X11_init_16 rfl cl_2 q_115 q_116 q_71 sh_5 (by decide) (by decide) rfl (by decide) ?_
  refine m_nmh (fun h4 eh4 => ?_)
  have hw := hw h4 eh4
  refine r_dup 20 d_X11_init_19 rfl rfl ?_
  refine r_bipush (v := 8) 22 d_X11_init_20 rfl (by decide) ?_
  refine r_iconst (v := 4) 23 d_X11_init_22 rfl (by decide) ?_
  refine r_callIv (E2 := e_X2_init_6) (As := [.int 8, .int 4]) 26 d_X11_init_23 rfl q_117 k_X2_init_6 rfl rfl (Nat.le_of_ble_eq_true rfl) (Nat.le_of_ble_eq_true rfl) rfl rfl (Nat.le_of_ble_eq_true rfl) (Nat.le_of_ble_eq_true rfl) (s_X2_init_6 hw) ?_
  intro h5 hw
  refine r_putD (k := 1) 29 d_X11_init_26 rfl cl_11 sh_0 (show 0 < 7 by decide) (Nat.le_of_ble_eq_true rfl) rfl q_337 (Or.inr ⟨rfl, rfl, rfl⟩) rfl rfl (by decide) (fun _ => rfl) (fun _ => rfl) ?_
  refine m_nmh (fun h6 eh6 => ?_)
  have hw := hw h6 eh6
  refine r_aload_n 30 d_X11_init_29 rfl rfl ?_
  refine r_new 33 d_X11_init_30 rfl cl_2 q_115 q_116 q_71 sh_7 (by decide) (by decide) rfl (by decide) ?_
  refine m_nmh (fun h7 eh7 => ?_)
  have hw := hw h7 eh7
  refine r_dup 34 d_X11_init_33 rfl rfl ?_
  refine r_bipush (v := 10) 36 d_X11_init_34 rfl (by decide) ?_
  refine r_iconst (v := 3) 37 d_X11_init_36 rfl (by decide) ?_
  refine r_callIv (E2 := e_X2_init_8) (As := [.int 10, .int 3]) 40 d_X11_init_37 rfl q_117 k_X2_init_8 rfl rfl (Nat.le_of_ble_eq_true rfl) (Nat.le_of_ble_eq_true rfl) rfl rfl (Nat.le_of_ble_eq_true rfl) (Nat.le_of_ble_eq_true rfl) (s_X2_init_8 hw) ?_
  intro h8 hw
  refine r_putD (k := 2) 43 d_X11_init_40 rfl cl_11 sh_0 (show 0 < 9 by decide) (Nat.le_of_ble_eq_true rfl) rfl q_338 (Or.inr ⟨rfl, rfl, rfl⟩) rfl rfl (by decide) (fun _ => rfl) (fun _ => rfl) ?_
  refine m_nmh (fun h9 eh9 => ?_)
  have hw := hw h9 eh9
  refine r_aload_n 44 d_X11_init_43 rfl rfl ?_
  refine r_new 47 d_X11_init_44 rfl cl_6 q_137 q_138 q_72 sh_9 (by decide) (by decide) rfl (by decide) ?_
  refine m_nmh (fun h10 eh10 => ?_)
  have hw := hw h10 eh10
  refine r_dup 48 d_X11_init_47 rfl rfl ?_
  refine r_callIv (E2 := e_X6_init_10) (As := []) 51 d_X11_init_48 rfl q_139 k_X6_init_10 rfl rfl (Nat.le_of_ble_eq_true rfl) (Nat.le_of_ble_eq_true rfl) rfl rfl (Nat.le_of_ble_eq_true rfl) (Nat.le_of_ble_eq_true rfl) (s_X6_init_10 hw) ?_
  intro h11 hw
  refine r_putD (k := 3) 54 d_X11_init_51 rfl cl_11 sh_0 (show 0 < 19 by decide) (Nat.le_of_ble_eq_true rfl) rfl q_339 (Or.inr ⟨rfl, rfl, rfl⟩) rfl rfl (by decide) (fun _ => rfl) (fun _ => rfl) ?_
  refine m_nmh (fun h12 eh12 => ?_)
  have hw := hw h12 eh12
  refine r_aload_n 55 d_X11_init_54 rfl rfl ?_
  refine r_new 58 d_X11_init_55 rfl cl_3 q_202 q_203 q_75 sh_19 (by decide) (by decide) rfl (by decide) ?_
  refine m_nmh (fun h13 eh13 => ?_)
  have hw := hw h13 eh13
  refine r_dup 59 d_X11_init_58 rfl rfl ?_
  refine r_callIv (E2 := e_X3_init_20) (As := []) 62 d_X11_init_59 rfl q_204 k_X3_init_20 rfl rfl (Nat.le_of_ble_eq_true rfl) (Nat.le_of_ble_eq_true rfl) rfl rfl (Nat.le_of_ble_eq_true rfl) (Nat.le_of_ble_eq_true rfl) (s_X3_init_20 hw) ?_
  intro h14 hw
  refine r_putD (k := 4) 65 d_X11_init_62 rfl cl_11 sh_0 (show 0 < 23 by decide) (Nat.le_of_ble_eq_true rfl) rfl q_340 (Or.inr ⟨rfl, rfl, rfl⟩) rfl rfl (by decide) (fun _ => rfl) (fun _ => rfl) ?_
  refine m_nmh (fun h15 eh15 => ?_)
  have hw := hw h15 eh15
  refine r_aload_n 66 d_X11_init_65 rfl rfl ?_
  refine r_new 69 d_X11_init_66 rfl cl_4 q_220 q_221 q_76 sh_23 (by decide) (by decide) rfl (by decide) ?_
  refine m_nmh (fun h16 eh16 => ?_)
  have hw := hw h16 eh16
  refine r_dup 70 d_X11_init_69 rfl rfl ?_
  refine r_callIv (E2 := e_X4_init_24) (As := []) 73 d_X11_init_70 rfl q_222 k_X4_init_24 rfl rfl (Nat.le_of_ble_eq_true rfl) (Nat.le_of_ble_eq_true rfl) rfl rfl (Nat.le_of_ble_eq_true rfl) (Nat.le_of_ble_eq_true rfl) (s_X4_init_24 hw) ?_
  intro h17 hw
  refine r_putD (k := 5) 76 d_X11_init_73 rfl cl_11 sh_0 (show 0 < 25 by decide) (Nat.le_of_ble_eq_true rfl) rfl q_341 (Or.inr ⟨rfl, rfl, rfl⟩) rfl rfl (by decide) (fun _ => rfl) (fun _ => rfl) ?_
  refine m_nmh (fun h18 eh18 => ?_)
  have hw := hw h18 eh18
  refine r_aload_n 77 d_X11_init_76 rfl rfl ?_
  refine r_new 80 d_X11_init_77 rfl cl_1 q_231 q_232 q_77 sh_25 (by decide) (by decide) rfl (by decide) ?_
  refine m_nmh (fun h19 eh19 => ?_)
  have hw := hw h19 eh19
  refine r_dup 81 d_X11_init_80 rfl rfl ?_
  refine r_callIv (E2 := e_X1_init_26) (As := []) 84 d_X11_init_81 rfl q_233 k_X1_init_26 rfl rfl (Nat.le_of_ble_eq_true rfl) (Nat.le_of_ble_eq_true rfl) rfl rfl (Nat.le_of_ble_eq_true rfl) (Nat.le_of_ble_eq_true rfl) (s_X1_init_26 hw) ?_
  intro h20 hw
  refine r_putD (k := 6) 87 d_X11_init_84 rfl cl_11 sh_0 (show 0 < 29 by decide) (Nat.le_of_ble_eq_true rfl) rfl q_342 (Or.inr ⟨rfl, rfl, rfl⟩) rfl rfl (by decide) (fun _ => rfl) (fun _ => rfl) ?_
  refine m_nmh (fun h21 eh21 => ?_)
  have hw := hw h21 eh21
  refine r_aload_n 88 d_X11_init_87 rfl rfl ?_
  refine r_new 91 d_X11_init_88 rfl cl_5 q_254 q_255 q_78 sh_29 (by decide) (by decide) rfl (by decide) ?_
  refine m_nmh (fun h22 eh22 => ?_)
  have hw := hw h22 eh22
  refine r_dup 92 d_X11_init_91 rfl rfl ?_
  refine r_callIv (E2 := e_X5_init_30) (As := []) 95 d_X11_init_92 rfl q_256 k_X5_init_30 rfl rfl (Nat.le_of_ble_eq_true rfl) (Nat.le_of_ble_eq_true rfl) rfl rfl (Nat.le_of_ble_eq_true rfl) (Nat.le_of_ble_eq_true rfl) (s_X5_init_30 hw) ?_
  intro h23 hw
  refine r_putD (k := 7) 98 d_X11_init_95 rfl cl_11 sh_0 (show 0 < 37 by decide) (Nat.le_of_ble_eq_true rfl) rfl q_343 (Or.inr ⟨rfl, rfl, rfl⟩) rfl rfl (by decide) (fun _ => rfl) (fun _ => rfl) ?_
  refine m_nmh (fun h24 eh24 => ?_)
  have hw := hw h24 eh24
  refine r_aload_n 99 d_X11_init_98 rfl rfl ?_
  refine r_new 102 d_X11_init_99 rfl cl_0 q_286 q_287 q_79 sh_37 (by decide) (by decide) rfl (by decide) ?_
  refine m_nmh (fun h25 eh25 => ?_)
  have hw := hw h25 eh25
  refine r_dup 103 d_X11_init_102 rfl rfl ?_
  refine r_callIv (E2 := e_X0_init_38) (As := []) 106 d_X11_init_103 rfl q_288 k_X0_init_38 rfl rfl (Nat.le_of_ble_eq_true rfl) (Nat.le_of_ble_eq_true rfl) rfl rfl (Nat.le_of_ble_eq_true rfl) (Nat.le_of_ble_eq_true rfl) (s_X0_init_38 hw) ?_
  intro h26 hw
  refine r_putD (k := 8) 109 d_X11_init_106 rfl cl_11 sh_0 (show 0 < 40 by decide) (Nat.le_of_ble_eq_true rfl) rfl q_344 (Or.inr ⟨rfl, rfl, rfl⟩) rfl rfl (by decide) (fun _ => rfl) (fun _ => rfl) ?_
  refine m_nmh (fun h27 eh27 => ?_)
  have hw := hw h27 eh27
  refine r_aload_n 110 d_X11_init_109 rfl rfl ?_
  refine r_bipush (v := 6) 112 d_X11_init_110 rfl (by decide) ?_
  refine r_newq 115 d_X11_init_112 rfl q_308 sh_40 (by decide) (by decide) rfl (by decide) (by decide) (by decide) ?_
  refine m_nmh (fun h28 eh28 => ?_)
  have hw := hw h28 eh28
  refine r_putD (k := 9) 118 d_X11_init_115 rfl cl_11 sh_0 (show 0 < 41 by decide) (Nat.le_of_ble_eq_true rfl) rfl q_345 (Or.inr ⟨rfl, rfl, rfl⟩) rfl rfl (by decide) (fun _ => rfl) (fun _ => rfl) ?_
  refine m_nmh (fun h29 eh29 => ?_)
  have hw := hw h29 eh29
  refine r_iconst (v := 0) 119 d_X11_init_118 rfl (by decide) ?_
  refine r_istore_n 120 [some (.ref 0), some (.int 0)] d_X11_init_119 rfl (Nat.le_of_ble_eq_true rfl) rfl rfl ?_
  refine r_iload_n 121 d_X11_init_120 rfl rfl ?_
  refine r_bipush (v := 6) 123 d_X11_init_121 rfl (by decide) ?_
  refine r_icmp_ge 145 126 d_X11_init_123 (by decide) rfl (fun z => absurd z (by decide)) (fun _ => ?_)
  refine r_aload_n 127 d_X11_init_126 rfl rfl ?_
  obtain ⟨hg, hw⟩ := hw
  refine r_getD (k := 9) (j := 40) 130 d_X11_init_127 rfl cl_11 sh_0 (show 0 < 41 by decide) (Nat.le_of_ble_eq_true rfl) rfl q_345 rfl rfl hg (by decide) ?_
  refine r_iload_n 131 d_X11_init_130 rfl rfl ?_
  refine r_new 134 d_X11_init_131 rfl cl_9 q_308 q_310 q_80 sh_41 (by decide) (by decide) rfl (by decide) ?_
  refine m_nmh (fun h30 eh30 => ?_)
  have hw := hw h30 eh30
  refine r_dup 135 d_X11_init_134 rfl rfl ?_
  refine r_callIv (E2 := e_X9_init_42) (As := []) 138 d_X11_init_135 rfl q_311 k_X9_init_42 rfl rfl (Nat.le_of_ble_eq_true rfl) (Nat.le_of_ble_eq_true rfl) rfl rfl (Nat.le_of_ble_eq_true rfl) (Nat.le_of_ble_eq_true rfl) (s_X9_init_42 hw) ?_
  intro h31 hw
  refine r_aast 139 d_X11_init_138 rfl sh_40 (show 40 < 43 by decide) (vpd (by decide)) sh_41 (show 41 < 43 by decide) rfl (by decide) (k9 := 0) (by decide) ?_
  refine m_nmh (fun h32 eh32 => ?_)
  have hw := hw h32 eh32
  refine r_iinc (v := 0 + 1) 142 [some (.ref 0), some (.int (0 + 1))] d_X11_init_139 rfl rfl rfl (Nat.le_of_ble_eq_true rfl) rfl rfl ?_
  refine r_goto 120 d_X11_init_142 (by decide) ?_
  refine r_iload_n 121 d_X11_init_120 rfl rfl ?_
  refine r_bipush (v := 6) 123 d_X11_init_121 rfl (by decide) ?_
  refine r_icmp_ge 145 126 d_X11_init_123 (by decide) rfl (fun z => absurd z (by decide)) (fun _ => ?_)
  refine r_aload_n 127 d_X11_init_126 rfl rfl ?_
  obtain ⟨hg, hw⟩ := hw
  refine r_getD (k := 9) (j := 40) 130 d_X11_init_127 rfl cl_11 sh_0 (show 0 < 43 by decide) (Nat.le_of_ble_eq_true rfl) rfl q_345 rfl rfl hg (by decide) ?_
  refine r_iload_n 131 d_X11_init_130 rfl rfl ?_
  refine r_new 134 d_X11_init_131 rfl cl_9 q_308 q_310 q_80 sh_43 (by decide) (by decide) rfl (by decide) ?_
  refine m_nmh (fun h33 eh33 => ?_)
  have hw := hw h33 eh33
  refine r_dup 135 d_X11_init_134 rfl rfl ?_
  refine r_callIv (E2 := e_X9_init_44) (As := []) 138 d_X11_init_135 rfl q_311 k_X9_init_44 rfl rfl (Nat.le_of_ble_eq_true rfl) (Nat.le_of_ble_eq_true rfl) rfl rfl (Nat.le_of_ble_eq_true rfl) (Nat.le_of_ble_eq_true rfl) (s_X9_init_44 hw) ?_
  intro h34 hw
  refine r_aast 139 d_X11_init_138 rfl sh_40 (show 40 < 45 by decide) (vpd (by decide)) sh_43 (show 43 < 45 by decide) rfl (by decide) (k9 := 1) (by decide) ?_
  refine m_nmh (fun h35 eh35 => ?_)
  have hw := hw h35 eh35
  refine r_iinc (v := (0 + 1) + 1) 142 [some (.ref 0), some (.int ((0 + 1) + 1))] d_X11_init_139 rfl rfl rfl (Nat.le_of_ble_eq_true rfl) rfl rfl ?_
  refine r_goto 120 d_X11_init_142 (by decide) ?_
  refine r_iload_n 121 d_X11_init_120 rfl rfl ?_
  refine r_bipush (v := 6) 123 d_X11_init_121 rfl (by decide) ?_
  refine r_icmp_ge 145 126 d_X11_init_123 (by decide) rfl (fun z => absurd z (by decide)) (fun _ => ?_)
  refine r_aload_n 127 d_X11_init_126 rfl rfl ?_
  obtain ⟨hg, hw⟩ := hw
  refine r_getD (k := 9) (j := 40) 130 d_X11_init_127 rfl cl_11 sh_0 (show 0 < 45 by decide) (Nat.le_of_ble_eq_true rfl) rfl q_345 rfl rfl hg (by decide) ?_
  refine r_iload_n 131 d_X11_init_130 rfl rfl ?_
  refine r_new 134 d_X11_init_131 rfl cl_9 q_308 q_310 q_80 sh_45 (by decide) (by decide) rfl (by decide) ?_
  refine m_nmh (fun h36 eh36 => ?_)
  have hw := hw h36 eh36
  refine r_dup 135 d_X11_init_134 rfl rfl ?_
  refine r_callIv (E2 := e_X9_init_46) (As := []) 138 d_X11_init_135 rfl q_311 k_X9_init_46 rfl rfl (Nat.le_of_ble_eq_true rfl) (Nat.le_of_ble_eq_true rfl) rfl rfl (Nat.le_of_ble_eq_true rfl) (Nat.le_of_ble_eq_true rfl) (s_X9_init_46 hw) ?_
  intro h37 hw
  refine r_aast 139 d_X11_init_138 rfl sh_40 (show 40 < 47 by decide) (vpd (by decide)) sh_45 (show 45 < 47 by decide) rfl (by decide) (k9 := 2) (by decide) ?_
  refine m_nmh (fun h38 eh38 => ?_)
  have hw := hw h38 eh38
  refine r_iinc (v := ((0 + 1) + 1) + 1) 142 [some (.ref 0), some (.int (((0 + 1) + 1) + 1))] d_X11_init_139 rfl rfl rfl (Nat.le_of_ble_eq_true rfl) rfl rfl ?_
  refine r_goto 120 d_X11_init_142 (by decide) ?_
  refine r_iload_n 121 d_X11_init_120 rfl rfl ?_
  refine r_bipush (v := 6) 123 d_X11_init_121 rfl (by decide) ?_
  refine r_icmp_ge 145 126 d_X11_init_123 (by decide) rfl (fun z => absurd z (by decide)) (fun _ => ?_)
  refine r_aload_n 127 d_X11_init_126 rfl rfl ?_
  obtain ⟨hg, hw⟩ := hw
  refine r_getD (k := 9) (j := 40) 130 d_X11_init_127 rfl cl_11 sh_0 (show 0 < 47 by decide) (Nat.le_of_ble_eq_true rfl) rfl q_345 rfl rfl hg (by decide) ?_
  refine r_iload_n 131 d_X11_init_130 rfl rfl ?_
  refine r_new 134 d_X11_init_131 rfl cl_9 q_308 q_310 q_80 sh_47 (by decide) (by decide) rfl (by decide) ?_
  refine m_nmh (fun h39 eh39 => ?_)
  have hw := hw h39 eh39
  refine r_dup 135 d_X11_init_134 rfl rfl ?_
  refine r_callIv (E2 := e_X9_init_48) (As := []) 138 d_X11_init_135 rfl q_311 k_X9_init_48 rfl rfl (Nat.le_of_ble_eq_true rfl) (Nat.le_of_ble_eq_true rfl) rfl rfl (Nat.le_of_ble_eq_true rfl) (Nat.le_of_ble_eq_true rfl) (s_X9_init_48 hw) ?_
  intro h40 hw
  refine r_aast 139 d_X11_init_138 rfl sh_40 (show 40 < 49 by decide) (vpd (by decide)) sh_47 (show 47 < 49 by decide) rfl (by decide) (k9 := 3) (by decide) ?_
  refine m_nmh (fun h41 eh41 => ?_)
  have hw := hw h41 eh41
  refine r_iinc (v := (((0 + 1) + 1) + 1) + 1) 142 [some (.ref 0), some (.int ((((0 + 1) + 1) + 1) + 1))] d_X11_init_139 rfl rfl rfl (Nat.le_of_ble_eq_true rfl) rfl rfl ?_
  refine r_goto 120 d_X11_init_142 (by decide) ?_
  refine r_iload_n 121 d_X11_init_120 rfl rfl ?_
  refine r_bipush (v := 6) 123 d_X11_init_121 rfl (by decide) ?_
  refine r_icmp_ge 145 126 d_X11_init_123 (by decide) rfl (fun z => absurd z (by decide)) (fun _ => ?_)
  refine r_aload_n 127 d_X11_init_126 rfl rfl ?_
  obtain ⟨hg, hw⟩ := hw
  refine r_getD (k := 9) (j := 40) 130 d_X11_init_127 rfl cl_11 sh_0 (show 0 < 49 by decide) (Nat.le_of_ble_eq_true rfl) rfl q_345 rfl rfl hg (by decide) ?_
  refine r_iload_n 131 d_X11_init_130 rfl rfl ?_
  refine r_new 134 d_X11_init_131 rfl cl_9 q_308 q_310 q_80 sh_49 (by decide) (by decide) rfl (by decide) ?_
  refine m_nmh (fun h42 eh42 => ?_)
  have hw := hw h42 eh42
  refine r_dup 135 d_X11_init_134 rfl rfl ?_
  refine r_callIv (E2 := e_X9_init_50) (As := []) 138 d_X11_init_135 rfl q_311 k_X9_init_50 rfl rfl (Nat.le_of_ble_eq_true rfl) (Nat.le_of_ble_eq_true rfl) rfl rfl (Nat.le_of_ble_eq_true rfl) (Nat.le_of_ble_eq_true rfl) (s_X9_init_50 hw) ?_
  intro h43 hw
  refine r_aast 139 d_X11_init_138 rfl sh_40 (show 40 < 51 by decide) (vpd (by decide)) sh_49 (show 49 < 51 by decide) rfl (by decide) (k9 := 4) (by decide) ?_
  refine m_nmh (fun h44 eh44 => ?_)
  have hw := hw h44 eh44
  refine r_iinc (v := ((((0 + 1) + 1) + 1) + 1) + 1) 142 [some (.ref 0), some (.int (((((0 + 1) + 1) + 1) + 1) + 1))] d_X11_init_139 rfl rfl rfl (Nat.le_of_ble_eq_true rfl) rfl rfl ?_
  refine r_goto 120 d_X11_init_142 (by decide) ?_
  refine r_iload_n 121 d_X11_init_120 rfl rfl ?_
  refine r_bipush (v := 6) 123 d_X11_init_121 rfl (by decide) ?_
  refine r_icmp_ge 145 126 d_X11_init_123 (by decide) rfl (fun z => absurd z (by decide)) (fun _ => ?_)
  refine r_aload_n 127 d_X11_init_126 rfl rfl ?_
  obtain ⟨hg, hw⟩ := hw
  refine r_getD (k := 9) (j := 40) 130 d_X11_init_127 rfl cl_11 sh_0 (show 0 < 51 by decide) (Nat.le_of_ble_eq_true rfl) rfl q_345 rfl rfl hg (by decide) ?_
  refine r_iload_n 131 d_X11_init_130 rfl rfl ?_
  refine r_new 134 d_X11_init_131 rfl cl_9 q_308 q_310 q_80 sh_51 (by decide) (by decide) rfl (by decide) ?_
  refine m_nmh (fun h45 eh45 => ?_)
  have hw := hw h45 eh45
  refine r_dup 135 d_X11_init_134 rfl rfl ?_
  refine r_callIv (E2 := e_X9_init_52) (As := []) 138 d_X11_init_135 rfl q_311 k_X9_init_52 rfl rfl (Nat.le_of_ble_eq_true rfl) (Nat.le_of_ble_eq_true rfl) rfl rfl (Nat.le_of_ble_eq_true rfl) (Nat.le_of_ble_eq_true rfl) (s_X9_init_52 hw) ?_
  intro h46 hw
  refine r_aast 139 d_X11_init_138 rfl sh_40 (show 40 < 53 by decide) (vpd (by decide)) sh_51 (show 51 < 53 by decide) rfl (by decide) (k9 := 5) (by decide) ?_
  refine m_nmh (fun h47 eh47 => ?_)
  have hw := hw h47 eh47
  refine r_iinc (v := (((((0 + 1) + 1) + 1) + 1) + 1) + 1) 142 [some (.ref 0), some (.int ((((((0 + 1) + 1) + 1) + 1) + 1) + 1))] d_X11_init_139 rfl rfl rfl (Nat.le_of_ble_eq_true rfl) rfl rfl ?_
  refine r_goto 120 d_X11_init_142 (by decide) ?_
  refine r_iload_n 121 d_X11_init_120 rfl rfl ?_
  refine r_bipush (v := 6) 123 d_X11_init_121 rfl (by decide) ?_
  refine r_icmp_ge 145 126 d_X11_init_123 (by decide) rfl (fun _ => ?_) (fun z => absurd z (by decide))
  exact r_return d_X11_init_145 rfl rfl hw
-- ===== X12_init at 54
theorem d_X12_init_0 : decode cX12_init 0 = .ok (.aload_n 0, 1) := by decide +kernel
theorem d_X12_init_1 : decode cX12_init 1 = .ok (.invokespecial 1, 3) := by decide +kernel
theorem d_X12_init_4 : decode cX12_init 4 = .ok (.aload_n 0, 1) := by decide +kernel
theorem d_X12_init_5 : decode cX12_init 5 = .ok (.iconst 2, 1) := by decide +kernel
theorem d_X12_init_6 : decode cX12_init 6 = .ok (.newarray .int, 2) := by decide +kernel
theorem d_X12_init_8 : decode cX12_init 8 = .ok (.putfield 7, 3) := by decide +kernel
theorem d_X12_init_11 : decode cX12_init 11 = .ok (.aload_n 0, 1) := by decide +kernel
theorem d_X12_init_12 : decode cX12_init 12 = .ok (.iconst 2, 1) := by decide +kernel
theorem d_X12_init_13 : decode cX12_init 13 = .ok (.newarray .int, 2) := by decide +kernel
theorem d_X12_init_15 : decode cX12_init 15 = .ok (.putfield 13, 3) := by decide +kernel
theorem d_X12_init_18 : decode cX12_init 18 = .ok (.aload_n 0, 1) := by decide +kernel
theorem d_X12_init_19 : decode cX12_init 19 = .ok (.bipush 10, 2) := by decide +kernel
theorem d_X12_init_21 : decode cX12_init 21 = .ok (.putfield 16, 3) := by decide +kernel
theorem d_X12_init_24 : decode cX12_init 24 = .ok (.aload_n 0, 1) := by decide +kernel
theorem d_X12_init_25 : decode cX12_init 25 = .ok (.bipush 20, 2) := by decide +kernel
theorem d_X12_init_27 : decode cX12_init 27 = .ok (.putfield 20, 3) := by decide +kernel
theorem d_X12_init_30 : decode cX12_init 30 = .ok (.aload_n 0, 1) := by decide +kernel
theorem d_X12_init_31 : decode cX12_init 31 = .ok (.iconst 2, 1) := by decide +kernel
theorem d_X12_init_32 : decode cX12_init 32 = .ok (.newarray .int, 2) := by decide +kernel
theorem d_X12_init_34 : decode cX12_init 34 = .ok (.putfield 23, 3) := by decide +kernel
theorem d_X12_init_37 : decode cX12_init 37 = .ok (.aload_n 0, 1) := by decide +kernel
theorem d_X12_init_38 : decode cX12_init 38 = .ok (.iconst 2, 1) := by decide +kernel
theorem d_X12_init_39 : decode cX12_init 39 = .ok (.newarray .int, 2) := by decide +kernel
theorem d_X12_init_41 : decode cX12_init 41 = .ok (.dup, 1) := by decide +kernel
theorem d_X12_init_42 : decode cX12_init 42 = .ok (.iconst 0, 1) := by decide +kernel
theorem d_X12_init_43 : decode cX12_init 43 = .ok (.bipush (-2), 2) := by decide +kernel
theorem d_X12_init_45 : decode cX12_init 45 = .ok (.iastore, 1) := by decide +kernel
theorem d_X12_init_46 : decode cX12_init 46 = .ok (.dup, 1) := by decide +kernel
theorem d_X12_init_47 : decode cX12_init 47 = .ok (.iconst 1, 1) := by decide +kernel
theorem d_X12_init_48 : decode cX12_init 48 = .ok (.bipush (-2), 2) := by decide +kernel
theorem d_X12_init_50 : decode cX12_init 50 = .ok (.iastore, 1) := by decide +kernel
theorem d_X12_init_51 : decode cX12_init 51 = .ok (.putfield 26, 3) := by decide +kernel
theorem d_X12_init_54 : decode cX12_init 54 = .ok (.aload_n 0, 1) := by decide +kernel
theorem d_X12_init_55 : decode cX12_init 55 = .ok (.bipush 40, 2) := by decide +kernel
theorem d_X12_init_57 : decode cX12_init 57 = .ok (.newarray .int, 2) := by decide +kernel
theorem d_X12_init_59 : decode cX12_init 59 = .ok (.putfield 29, 3) := by decide +kernel
theorem d_X12_init_62 : decode cX12_init 62 = .ok (.aload_n 0, 1) := by decide +kernel
theorem d_X12_init_63 : decode cX12_init 63 = .ok (.bipush 40, 2) := by decide +kernel
theorem d_X12_init_65 : decode cX12_init 65 = .ok (.newarray .int, 2) := by decide +kernel
theorem d_X12_init_67 : decode cX12_init 67 = .ok (.putfield 32, 3) := by decide +kernel
theorem d_X12_init_70 : decode cX12_init 70 = .ok (.aload_n 0, 1) := by decide +kernel
theorem d_X12_init_71 : decode cX12_init 71 = .ok (.bipush 40, 2) := by decide +kernel
theorem d_X12_init_73 : decode cX12_init 73 = .ok (.newarray .int, 2) := by decide +kernel
theorem d_X12_init_75 : decode cX12_init 75 = .ok (.putfield 35, 3) := by decide +kernel
theorem d_X12_init_78 : decode cX12_init 78 = .ok (.aload_n 0, 1) := by decide +kernel
theorem d_X12_init_79 : decode cX12_init 79 = .ok (.bipush 40, 2) := by decide +kernel
theorem d_X12_init_81 : decode cX12_init 81 = .ok (.newarray .int, 2) := by decide +kernel
theorem d_X12_init_83 : decode cX12_init 83 = .ok (.putfield 38, 3) := by decide +kernel
theorem d_X12_init_86 : decode cX12_init 86 = .ok (.aload_n 0, 1) := by decide +kernel
theorem d_X12_init_87 : decode cX12_init 87 = .ok (.bipush 8, 2) := by decide +kernel
theorem d_X12_init_89 : decode cX12_init 89 = .ok (.newarray .int, 2) := by decide +kernel
theorem d_X12_init_91 : decode cX12_init 91 = .ok (.putfield 41, 3) := by decide +kernel
theorem d_X12_init_94 : decode cX12_init 94 = .ok (.aload_n 0, 1) := by decide +kernel
theorem d_X12_init_95 : decode cX12_init 95 = .ok (.bipush 8, 2) := by decide +kernel
theorem d_X12_init_97 : decode cX12_init 97 = .ok (.newarray .int, 2) := by decide +kernel
theorem d_X12_init_99 : decode cX12_init 99 = .ok (.putfield 44, 3) := by decide +kernel
theorem d_X12_init_102 : decode cX12_init 102 = .ok (.aload_n 0, 1) := by decide +kernel
theorem d_X12_init_103 : decode cX12_init 103 = .ok (.bipush 8, 2) := by decide +kernel
theorem d_X12_init_105 : decode cX12_init 105 = .ok (.newarray .int, 2) := by decide +kernel
theorem d_X12_init_107 : decode cX12_init 107 = .ok (.putfield 47, 3) := by decide +kernel
theorem d_X12_init_110 : decode cX12_init 110 = .ok (.aload_n 0, 1) := by decide +kernel
theorem d_X12_init_111 : decode cX12_init 111 = .ok (.bipush 8, 2) := by decide +kernel
theorem d_X12_init_113 : decode cX12_init 113 = .ok (.newarray .int, 2) := by decide +kernel
theorem d_X12_init_115 : decode cX12_init 115 = .ok (.putfield 50, 3) := by decide +kernel
theorem d_X12_init_118 : decode cX12_init 118 = .ok (.aload_n 0, 1) := by decide +kernel
theorem d_X12_init_119 : decode cX12_init 119 = .ok (.bipush 10, 2) := by decide +kernel
theorem d_X12_init_121 : decode cX12_init 121 = .ok (.newarray .int, 2) := by decide +kernel
theorem d_X12_init_123 : decode cX12_init 123 = .ok (.putfield 53, 3) := by decide +kernel
theorem d_X12_init_126 : decode cX12_init 126 = .ok (.aload_n 0, 1) := by decide +kernel
theorem d_X12_init_127 : decode cX12_init 127 = .ok (.bipush 10, 2) := by decide +kernel
theorem d_X12_init_129 : decode cX12_init 129 = .ok (.newarray .int, 2) := by decide +kernel
theorem d_X12_init_131 : decode cX12_init 131 = .ok (.putfield 56, 3) := by decide +kernel
theorem d_X12_init_134 : decode cX12_init 134 = .ok (.aload_n 0, 1) := by decide +kernel
theorem d_X12_init_135 : decode cX12_init 135 = .ok (.bipush 10, 2) := by decide +kernel
theorem d_X12_init_137 : decode cX12_init 137 = .ok (.newarray .int, 2) := by decide +kernel
theorem d_X12_init_139 : decode cX12_init 139 = .ok (.putfield 59, 3) := by decide +kernel
theorem d_X12_init_142 : decode cX12_init 142 = .ok (.aload_n 0, 1) := by decide +kernel
theorem d_X12_init_143 : decode cX12_init 143 = .ok (.bipush 120, 2) := by decide +kernel
theorem d_X12_init_145 : decode cX12_init 145 = .ok (.newarray .byte, 2) := by decide +kernel
theorem d_X12_init_147 : decode cX12_init 147 = .ok (.putfield 62, 3) := by decide +kernel
theorem d_X12_init_150 : decode cX12_init 150 = .ok (.aload_n 0, 1) := by decide +kernel
theorem d_X12_init_151 : decode cX12_init 151 = .ok (.sipush 260, 3) := by decide +kernel
theorem d_X12_init_154 : decode cX12_init 154 = .ok (.newarray .byte, 2) := by decide +kernel
theorem d_X12_init_156 : decode cX12_init 156 = .ok (.putfield 66, 3) := by decide +kernel
theorem d_X12_init_159 : decode cX12_init 159 = .ok (.aload_n 0, 1) := by decide +kernel
theorem d_X12_init_160 : decode cX12_init 160 = .ok (.sipush 260, 3) := by decide +kernel
theorem d_X12_init_163 : decode cX12_init 163 = .ok (.newarray .int, 2) := by decide +kernel
theorem d_X12_init_165 : decode cX12_init 165 = .ok (.putfield 69, 3) := by decide +kernel
theorem d_X12_init_168 : decode cX12_init 168 = .ok (.aload_n 0, 1) := by decide +kernel
theorem d_X12_init_169 : decode cX12_init 169 = .ok (.iconst 2, 1) := by decide +kernel
theorem d_X12_init_170 : decode cX12_init 170 = .ok (.newarray .int, 2) := by decide +kernel
theorem d_X12_init_172 : decode cX12_init 172 = .ok (.putfield 72, 3) := by decide +kernel
theorem d_X12_init_175 : decode cX12_init 175 = .ok (.aload_n 0, 1) := by decide +kernel
theorem d_X12_init_176 : decode cX12_init 176 = .ok (.bipush 122, 2) := by decide +kernel
theorem d_X12_init_178 : decode cX12_init 178 = .ok (.newarray .short, 2) := by decide +kernel
theorem d_X12_init_180 : decode cX12_init 180 = .ok (.putfield 75, 3) := by decide +kernel
theorem d_X12_init_183 : decode cX12_init 183 = .ok (.aload_n 0, 1) := by decide +kernel
theorem d_X12_init_184 : decode cX12_init 184 = .ok (.bipush 122, 2) := by decide +kernel
theorem d_X12_init_186 : decode cX12_init 186 = .ok (.newarray .short, 2) := by decide +kernel
theorem d_X12_init_188 : decode cX12_init 188 = .ok (.putfield 79, 3) := by decide +kernel
theorem d_X12_init_191 : decode cX12_init 191 = .ok (.aload_n 0, 1) := by decide +kernel
theorem d_X12_init_192 : decode cX12_init 192 = .ok (.iconst 5, 1) := by decide +kernel
theorem d_X12_init_193 : decode cX12_init 193 = .ok (.newarray .int, 2) := by decide +kernel
theorem d_X12_init_195 : decode cX12_init 195 = .ok (.putfield 82, 3) := by decide +kernel
theorem d_X12_init_198 : decode cX12_init 198 = .ok (.aload_n 0, 1) := by decide +kernel
theorem d_X12_init_199 : decode cX12_init 199 = .ok (.sipush 130, 3) := by decide +kernel
theorem d_X12_init_202 : decode cX12_init 202 = .ok (.newarray .int, 2) := by decide +kernel
theorem d_X12_init_204 : decode cX12_init 204 = .ok (.putfield 85, 3) := by decide +kernel
theorem d_X12_init_207 : decode cX12_init 207 = .ok (.aload_n 0, 1) := by decide +kernel
theorem d_X12_init_208 : decode cX12_init 208 = .ok (.sipush 720, 3) := by decide +kernel
theorem d_X12_init_211 : decode cX12_init 211 = .ok (.newarray .boolean, 2) := by decide +kernel
theorem d_X12_init_213 : decode cX12_init 213 = .ok (.putfield 88, 3) := by decide +kernel
theorem d_X12_init_216 : decode cX12_init 216 = .ok (.aload_n 0, 1) := by decide +kernel
theorem d_X12_init_217 : decode cX12_init 217 = .ok (.bipush 60, 2) := by decide +kernel
theorem d_X12_init_219 : decode cX12_init 219 = .ok (.newarray .int, 2) := by decide +kernel
theorem d_X12_init_221 : decode cX12_init 221 = .ok (.putfield 92, 3) := by decide +kernel
theorem d_X12_init_224 : decode cX12_init 224 = .ok (.aload_n 0, 1) := by decide +kernel
theorem d_X12_init_225 : decode cX12_init 225 = .ok (.iconst 2, 1) := by decide +kernel
theorem d_X12_init_226 : decode cX12_init 226 = .ok (.newarray .int, 2) := by decide +kernel
theorem d_X12_init_228 : decode cX12_init 228 = .ok (.putfield 95, 3) := by decide +kernel
theorem d_X12_init_231 : decode cX12_init 231 = .ok (.aload_n 0, 1) := by decide +kernel
theorem d_X12_init_232 : decode cX12_init 232 = .ok (.iconst 2, 1) := by decide +kernel
theorem d_X12_init_233 : decode cX12_init 233 = .ok (.newarray .int, 2) := by decide +kernel
theorem d_X12_init_235 : decode cX12_init 235 = .ok (.putfield 98, 3) := by decide +kernel
theorem d_X12_init_238 : decode cX12_init 238 = .ok (.aload_n 0, 1) := by decide +kernel
theorem d_X12_init_239 : decode cX12_init 239 = .ok (.iconst 2, 1) := by decide +kernel
theorem d_X12_init_240 : decode cX12_init 240 = .ok (.newarray .int, 2) := by decide +kernel
theorem d_X12_init_242 : decode cX12_init 242 = .ok (.putfield 101, 3) := by decide +kernel
theorem d_X12_init_245 : decode cX12_init 245 = .ok (.aload_n 0, 1) := by decide +kernel
theorem d_X12_init_246 : decode cX12_init 246 = .ok (.bipush 32, 2) := by decide +kernel
theorem d_X12_init_248 : decode cX12_init 248 = .ok (.newarray .int, 2) := by decide +kernel
theorem d_X12_init_250 : decode cX12_init 250 = .ok (.putfield 104, 3) := by decide +kernel
theorem d_X12_init_253 : decode cX12_init 253 = .ok (.aload_n 0, 1) := by decide +kernel
theorem d_X12_init_254 : decode cX12_init 254 = .ok (.bipush 30, 2) := by decide +kernel
theorem d_X12_init_256 : decode cX12_init 256 = .ok (.newarray .int, 2) := by decide +kernel
theorem d_X12_init_258 : decode cX12_init 258 = .ok (.putfield 107, 3) := by decide +kernel
theorem d_X12_init_261 : decode cX12_init 261 = .ok (.aload_n 0, 1) := by decide +kernel
theorem d_X12_init_262 : decode cX12_init 262 = .ok (.bipush 50, 2) := by decide +kernel
theorem d_X12_init_264 : decode cX12_init 264 = .ok (.newarray .int, 2) := by decide +kernel
theorem d_X12_init_266 : decode cX12_init 266 = .ok (.putfield 110, 3) := by decide +kernel
theorem d_X12_init_269 : decode cX12_init 269 = .ok (.aload_n 0, 1) := by decide +kernel
theorem d_X12_init_270 : decode cX12_init 270 = .ok (.bipush 24, 2) := by decide +kernel
theorem d_X12_init_272 : decode cX12_init 272 = .ok (.newarray .int, 2) := by decide +kernel
theorem d_X12_init_274 : decode cX12_init 274 = .ok (.putfield 113, 3) := by decide +kernel
theorem d_X12_init_277 : decode cX12_init 277 = .ok (.aload_n 0, 1) := by decide +kernel
theorem d_X12_init_278 : decode cX12_init 278 = .ok (.bipush 6, 2) := by decide +kernel
theorem d_X12_init_280 : decode cX12_init 280 = .ok (.newarray .int, 2) := by decide +kernel
theorem d_X12_init_282 : decode cX12_init 282 = .ok (.dup, 1) := by decide +kernel
theorem d_X12_init_283 : decode cX12_init 283 = .ok (.iconst 0, 1) := by decide +kernel
theorem d_X12_init_284 : decode cX12_init 284 = .ok (.iconst (-1), 1) := by decide +kernel
theorem d_X12_init_285 : decode cX12_init 285 = .ok (.iastore, 1) := by decide +kernel
theorem d_X12_init_286 : decode cX12_init 286 = .ok (.dup, 1) := by decide +kernel
theorem d_X12_init_287 : decode cX12_init 287 = .ok (.iconst 1, 1) := by decide +kernel
theorem d_X12_init_288 : decode cX12_init 288 = .ok (.iconst (-1), 1) := by decide +kernel
theorem d_X12_init_289 : decode cX12_init 289 = .ok (.iastore, 1) := by decide +kernel
theorem d_X12_init_290 : decode cX12_init 290 = .ok (.dup, 1) := by decide +kernel
theorem d_X12_init_291 : decode cX12_init 291 = .ok (.iconst 2, 1) := by decide +kernel
theorem d_X12_init_292 : decode cX12_init 292 = .ok (.iconst (-1), 1) := by decide +kernel
theorem d_X12_init_293 : decode cX12_init 293 = .ok (.iastore, 1) := by decide +kernel
theorem d_X12_init_294 : decode cX12_init 294 = .ok (.dup, 1) := by decide +kernel
theorem d_X12_init_295 : decode cX12_init 295 = .ok (.iconst 3, 1) := by decide +kernel
theorem d_X12_init_296 : decode cX12_init 296 = .ok (.iconst (-1), 1) := by decide +kernel
theorem d_X12_init_297 : decode cX12_init 297 = .ok (.iastore, 1) := by decide +kernel
theorem d_X12_init_298 : decode cX12_init 298 = .ok (.dup, 1) := by decide +kernel
theorem d_X12_init_299 : decode cX12_init 299 = .ok (.iconst 4, 1) := by decide +kernel
theorem d_X12_init_300 : decode cX12_init 300 = .ok (.iconst (-1), 1) := by decide +kernel
theorem d_X12_init_301 : decode cX12_init 301 = .ok (.iastore, 1) := by decide +kernel
theorem d_X12_init_302 : decode cX12_init 302 = .ok (.dup, 1) := by decide +kernel
theorem d_X12_init_303 : decode cX12_init 303 = .ok (.iconst 5, 1) := by decide +kernel
theorem d_X12_init_304 : decode cX12_init 304 = .ok (.iconst (-1), 1) := by decide +kernel
theorem d_X12_init_305 : decode cX12_init 305 = .ok (.iastore, 1) := by decide +kernel
theorem d_X12_init_306 : decode cX12_init 306 = .ok (.putfield 116, 3) := by decide +kernel
theorem d_X12_init_309 : decode cX12_init 309 = .ok (.aload_n 0, 1) := by decide +kernel
theorem d_X12_init_310 : decode cX12_init 310 = .ok (.bipush 6, 2) := by decide +kernel
theorem d_X12_init_312 : decode cX12_init 312 = .ok (.newarray .int, 2) := by decide +kernel
theorem d_X12_init_314 : decode cX12_init 314 = .ok (.putfield 119, 3) := by decide +kernel
theorem d_X12_init_317 : decode cX12_init 317 = .ok (.aload_n 0, 1) := by decide +kernel
theorem d_X12_init_318 : decode cX12_init 318 = .ok (.sipush 360, 3) := by decide +kernel
theorem d_X12_init_321 : decode cX12_init 321 = .ok (.newarray .long, 2) := by decide +kernel
theorem d_X12_init_323 : decode cX12_init 323 = .ok (.putfield 122, 3) := by decide +kernel
theorem d_X12_init_326 : decode cX12_init 326 = .ok (.aload_n 0, 1) := by decide +kernel
theorem d_X12_init_327 : decode cX12_init 327 = .ok (.bipush 60, 2) := by decide +kernel
theorem d_X12_init_329 : decode cX12_init 329 = .ok (.newarray .long, 2) := by decide +kernel
theorem d_X12_init_331 : decode cX12_init 331 = .ok (.putfield 126, 3) := by decide +kernel
theorem d_X12_init_334 : decode cX12_init 334 = .ok (.return_, 1) := by decide +kernel
def e_X12_init_54 : mEn := (m_s0, (cX12_init, 1, none, "OneHandEachModel", true), 1, 54, 90)
theorem k_X12_init_54 : mCalI yX12_init (cX12_init, 1, none, "OneHandEachModel", true) 0 := ⟨⟨q_878, q_81, ⟨by decide +kernel, by decide +kernel, by decide +kernel⟩, by decide⟩, q_877, rfl, rfl⟩
def w_X12_init_54 (h : mH) (Q : mH → Prop) : Prop :=
  ∀ h1 : mH, h1 = zo h 54 → ∀ h2 : mH, h2 = si h1 53 1 (nI (54 + 1)) → ∀ h3 : mH, h3 = zo h2 55 → ∀ h4 : mH, h4 = si h3 53 2 (nI (55 + 1)) → ∀ h5 : mH, h5 = si h4 53 4 10 → ∀ h6 : mH, h6 = si h5 53 5 20 → ∀ h7 : mH, h7 = zo h6 56 → ∀ h8 : mH, h8 = si h7 53 6 (nI (56 + 1)) → ∀ h9 : mH, h9 = zo h8 57 → ∀ h10 : mH, h10 = si h9 57 0 (-2) → ∀ h11 : mH, h11 = si h10 57 1 (-2) → ∀ h12 : mH, h12 = si h11 53 7 (nI (57 + 1)) → ∀ h13 : mH, h13 = zo h12 58 → ∀ h14 : mH, h14 = si h13 53 10 (nI (58 + 1)) → ∀ h15 : mH, h15 = zo h14 59 → ∀ h16 : mH, h16 = si h15 53 11 (nI (59 + 1)) → ∀ h17 : mH, h17 = zo h16 60 → ∀ h18 : mH, h18 = si h17 53 12 (nI (60 + 1)) → ∀ h19 : mH, h19 = zo h18 61 → ∀ h20 : mH, h20 = si h19 53 13 (nI (61 + 1)) → ∀ h21 : mH, h21 = zo h20 62 → ∀ h22 : mH, h22 = si h21 53 15 (nI (62 + 1)) → ∀ h23 : mH, h23 = zo h22 63 → ∀ h24 : mH, h24 = si h23 53 16 (nI (63 + 1)) → ∀ h25 : mH, h25 = zo h24 64 → ∀ h26 : mH, h26 = si h25 53 17 (nI (64 + 1)) → ∀ h27 : mH, h27 = zo h26 65 → ∀ h28 : mH, h28 = si h27 53 18 (nI (65 + 1)) → ∀ h29 : mH, h29 = zo h28 66 → ∀ h30 : mH, h30 = si h29 53 20 (nI (66 + 1)) → ∀ h31 : mH, h31 = zo h30 67 → ∀ h32 : mH, h32 = si h31 53 21 (nI (67 + 1)) → ∀ h33 : mH, h33 = zo h32 68 → ∀ h34 : mH, h34 = si h33 53 22 (nI (68 + 1)) → ∀ h35 : mH, h35 = zo h34 69 → ∀ h36 : mH, h36 = si h35 53 23 (nI (69 + 1)) → ∀ h37 : mH, h37 = zo h36 70 → ∀ h38 : mH, h38 = si h37 53 29 (nI (70 + 1)) → ∀ h39 : mH, h39 = zo h38 71 → ∀ h40 : mH, h40 = si h39 53 30 (nI (71 + 1)) → ∀ h41 : mH, h41 = zo h40 72 → ∀ h42 : mH, h42 = si h41 53 31 (nI (72 + 1)) → ∀ h43 : mH, h43 = zo h42 73 → ∀ h44 : mH, h44 = si h43 53 32 (nI (73 + 1)) → ∀ h45 : mH, h45 = zo h44 74 → ∀ h46 : mH, h46 = si h45 53 33 (nI (74 + 1)) → ∀ h47 : mH, h47 = zo h46 75 → ∀ h48 : mH, h48 = si h47 53 34 (nI (75 + 1)) → ∀ h49 : mH, h49 = zo h48 76 → ∀ h50 : mH, h50 = si h49 53 35 (nI (76 + 1)) → ∀ h51 : mH, h51 = zo h50 77 → ∀ h52 : mH, h52 = si h51 53 37 (nI (77 + 1)) → ∀ h53 : mH, h53 = zo h52 78 → ∀ h54 : mH, h54 = si h53 53 39 (nI (78 + 1)) → ∀ h55 : mH, h55 = zo h54 79 → ∀ h56 : mH, h56 = si h55 53 44 (nI (79 + 1)) → ∀ h57 : mH, h57 = zo h56 80 → ∀ h58 : mH, h58 = si h57 53 45 (nI (80 + 1)) → ∀ h59 : mH, h59 = zo h58 81 → ∀ h60 : mH, h60 = si h59 53 46 (nI (81 + 1)) → ∀ h61 : mH, h61 = zo h60 82 → ∀ h62 : mH, h62 = si h61 53 47 (nI (82 + 1)) → ∀ h63 : mH, h63 = zo h62 83 → ∀ h64 : mH, h64 = si h63 53 48 (nI (83 + 1)) → ∀ h65 : mH, h65 = zo h64 84 → ∀ h66 : mH, h66 = si h65 53 50 (nI (84 + 1)) → ∀ h67 : mH, h67 = zo h66 85 → ∀ h68 : mH, h68 = si h67 53 52 (nI (85 + 1)) → ∀ h69 : mH, h69 = zo h68 86 → ∀ h70 : mH, h70 = si h69 86 0 (-1) → ∀ h71 : mH, h71 = si h70 86 1 (-1) → ∀ h72 : mH, h72 = si h71 86 2 (-1) → ∀ h73 : mH, h73 = si h72 86 3 (-1) → ∀ h74 : mH, h74 = si h73 86 4 (-1) → ∀ h75 : mH, h75 = si h74 86 5 (-1) → ∀ h76 : mH, h76 = si h75 53 53 (nI (86 + 1)) → ∀ h77 : mH, h77 = zo h76 87 → ∀ h78 : mH, h78 = si h77 53 54 (nI (87 + 1)) → ∀ h79 : mH, h79 = zo h78 88 → ∀ h80 : mH, h80 = si h79 53 55 (nI (88 + 1)) → ∀ h81 : mH, h81 = zo h80 89 → ∀ h82 : mH, h82 = si h81 53 56 (nI (89 + 1)) → Q h82
set_option maxRecDepth 100000 in
theorem s_X12_init_54 {G : mG} {h : mH} {Q : mH → Prop} (hw : w_X12_init_54 h Q) : mConV G yX12_init e_X12_init_54 [.ref 53] h Q := by
  refine mConV_of (ls := [some (.ref 53)]) 0 (plainFor_of_name (by decide +kernel)) rfl (fun _ => rfl) (Nat.le_of_ble_eq_true rfl) rfl (Nat.le_of_ble_eq_true rfl) ?_
  unfold w_X12_init_54 at hw
  refine r_aload_n 1 d_X12_init_0 rfl rfl ?_
  refine r_oinit 4 d_X12_init_1 rfl q_879 q_91 q_92 (Nat.le_of_ble_eq_true rfl) (Nat.le_of_ble_eq_true rfl) ?_
  refine r_aload_n 5 d_X12_init_4 rfl rfl ?_
  refine r_iconst (v := 2) 6 d_X12_init_5 rfl (by decide) ?_
  refine r_newai 8 d_X12_init_6 rfl q_114 sh_54 (by decide) (by decide) (by decide) (by decide) (by decide) ?_
  refine m_nmh (fun h1 eh1 => ?_)
  have hw := hw h1 eh1
  refine r_putD (k := 1) 11 d_X12_init_8 rfl cl_12 sh_53 (show 53 < 55 by decide) (Nat.le_of_ble_eq_true rfl) rfl q_880 (Or.inr ⟨rfl, rfl, rfl⟩) rfl rfl (by decide) (fun _ => rfl) (fun _ => rfl) ?_
  refine m_nmh (fun h2 eh2 => ?_)
  have hw := hw h2 eh2
  refine r_aload_n 12 d_X12_init_11 rfl rfl ?_
  refine r_iconst (v := 2) 13 d_X12_init_12 rfl (by decide) ?_
  refine r_newai 15 d_X12_init_13 rfl q_114 sh_55 (by decide) (by decide) (by decide) (by decide) (by decide) ?_
  refine m_nmh (fun h3 eh3 => ?_)
  have hw := hw h3 eh3
  refine r_putD (k := 2) 18 d_X12_init_15 rfl cl_12 sh_53 (show 53 < 56 by decide) (Nat.le_of_ble_eq_true rfl) rfl q_881 (Or.inr ⟨rfl, rfl, rfl⟩) rfl rfl (by decide) (fun _ => rfl) (fun _ => rfl) ?_
  refine m_nmh (fun h4 eh4 => ?_)
  have hw := hw h4 eh4
  refine r_aload_n 19 d_X12_init_18 rfl rfl ?_
  refine r_bipush (v := 10) 21 d_X12_init_19 rfl (by decide) ?_
  refine r_putI (k := 4) 24 d_X12_init_21 rfl cl_12 sh_53 (show 53 < 56 by decide) (Nat.le_of_ble_eq_true rfl) rfl q_883 (Or.inl rfl) rfl rfl rfl ?_
  refine m_nmh (fun h5 eh5 => ?_)
  have hw := hw h5 eh5
  refine r_aload_n 25 d_X12_init_24 rfl rfl ?_
  refine r_bipush (v := 20) 27 d_X12_init_25 rfl (by decide) ?_
  refine r_putI (k := 5) 30 d_X12_init_27 rfl cl_12 sh_53 (show 53 < 56 by decide) (Nat.le_of_ble_eq_true rfl) rfl q_884 (Or.inl rfl) rfl rfl rfl ?_
  refine m_nmh (fun h6 eh6 => ?_)
  have hw := hw h6 eh6
  refine r_aload_n 31 d_X12_init_30 rfl rfl ?_
  refine r_iconst (v := 2) 32 d_X12_init_31 rfl (by decide) ?_
  refine r_newai 34 d_X12_init_32 rfl q_114 sh_56 (by decide) (by decide) (by decide) (by decide) (by decide) ?_
  refine m_nmh (fun h7 eh7 => ?_)
  have hw := hw h7 eh7
  refine r_putD (k := 6) 37 d_X12_init_34 rfl cl_12 sh_53 (show 53 < 57 by decide) (Nat.le_of_ble_eq_true rfl) rfl q_885 (Or.inr ⟨rfl, rfl, rfl⟩) rfl rfl (by decide) (fun _ => rfl) (fun _ => rfl) ?_
  refine m_nmh (fun h8 eh8 => ?_)
  have hw := hw h8 eh8
  refine r_aload_n 38 d_X12_init_37 rfl rfl ?_
  refine r_iconst (v := 2) 39 d_X12_init_38 rfl (by decide) ?_
  refine r_newai 41 d_X12_init_39 rfl q_114 sh_57 (by decide) (by decide) (by decide) (by decide) (by decide) ?_
  refine m_nmh (fun h9 eh9 => ?_)
  have hw := hw h9 eh9
  refine r_dup 42 d_X12_init_41 rfl rfl ?_
  refine r_iconst (v := 0) 43 d_X12_init_42 rfl (by decide) ?_
  refine r_bipush (v := (-2)) 45 d_X12_init_43 rfl (by decide) ?_
  refine r_iast 46 d_X12_init_45 rfl sh_57 (show 57 < 58 by decide) (k9 := 0) (vpd (by decide)) (by decide) ?_
  refine m_nmh (fun h10 eh10 => ?_)
  have hw := hw h10 eh10
  refine r_dup 47 d_X12_init_46 rfl rfl ?_
  refine r_iconst (v := 1) 48 d_X12_init_47 rfl (by decide) ?_
  refine r_bipush (v := (-2)) 50 d_X12_init_48 rfl (by decide) ?_
  refine r_iast 51 d_X12_init_50 rfl sh_57 (show 57 < 58 by decide) (k9 := 1) (vpd (by decide)) (by decide) ?_
  refine m_nmh (fun h11 eh11 => ?_)
  have hw := hw h11 eh11
  refine r_putD (k := 7) 54 d_X12_init_51 rfl cl_12 sh_53 (show 53 < 58 by decide) (Nat.le_of_ble_eq_true rfl) rfl q_886 (Or.inr ⟨rfl, rfl, rfl⟩) rfl rfl (by decide) (fun _ => rfl) (fun _ => rfl) ?_
  refine m_nmh (fun h12 eh12 => ?_)
  have hw := hw h12 eh12
  refine r_aload_n 55 d_X12_init_54 rfl rfl ?_
  refine r_bipush (v := 40) 57 d_X12_init_55 rfl (by decide) ?_
  refine r_newai 59 d_X12_init_57 rfl q_114 sh_58 (by decide) (by decide) (by decide) (by decide) (by decide) ?_
  refine m_nmh (fun h13 eh13 => ?_)
  have hw := hw h13 eh13
  refine r_putD (k := 10) 62 d_X12_init_59 rfl cl_12 sh_53 (show 53 < 59 by decide) (Nat.le_of_ble_eq_true rfl) rfl q_889 (Or.inr ⟨rfl, rfl, rfl⟩) rfl rfl (by decide) (fun _ => rfl) (fun _ => rfl) ?_
  refine m_nmh (fun h14 eh14 => ?_)
  have hw := hw h14 eh14
  refine r_aload_n 63 d_X12_init_62 rfl rfl ?_
  refine r_bipush (v := 40) 65 d_X12_init_63 rfl (by decide) ?_
  refine r_newai 67 d_X12_init_65 rfl q_114 sh_59 (by decide) (by decide) (by decide) (by decide) (by decide) ?_
  refine m_nmh (fun h15 eh15 => ?_)
  have hw := hw h15 eh15
  refine r_putD (k := 11) 70 d_X12_init_67 rfl cl_12 sh_53 (show 53 < 60 by decide) (Nat.le_of_ble_eq_true rfl) rfl q_890 (Or.inr ⟨rfl, rfl, rfl⟩) rfl rfl (by decide) (fun _ => rfl) (fun _ => rfl) ?_
  refine m_nmh (fun h16 eh16 => ?_)
  have hw := hw h16 eh16
  refine r_aload_n 71 d_X12_init_70 rfl rfl ?_
  refine r_bipush (v := 40) 73 d_X12_init_71 rfl (by decide) ?_
  refine r_newai 75 d_X12_init_73 rfl q_114 sh_60 (by decide) (by decide) (by decide) (by decide) (by decide) ?_
  refine m_nmh (fun h17 eh17 => ?_)
  have hw := hw h17 eh17
  refine r_putD (k := 12) 78 d_X12_init_75 rfl cl_12 sh_53 (show 53 < 61 by decide) (Nat.le_of_ble_eq_true rfl) rfl q_891 (Or.inr ⟨rfl, rfl, rfl⟩) rfl rfl (by decide) (fun _ => rfl) (fun _ => rfl) ?_
  refine m_nmh (fun h18 eh18 => ?_)
  have hw := hw h18 eh18
  refine r_aload_n 79 d_X12_init_78 rfl rfl ?_
  refine r_bipush (v := 40) 81 d_X12_init_79 rfl (by decide) ?_
  refine r_newai 83 d_X12_init_81 rfl q_114 sh_61 (by decide) (by decide) (by decide) (by decide) (by decide) ?_
  refine m_nmh (fun h19 eh19 => ?_)
  have hw := hw h19 eh19
  refine r_putD (k := 13) 86 d_X12_init_83 rfl cl_12 sh_53 (show 53 < 62 by decide) (Nat.le_of_ble_eq_true rfl) rfl q_892 (Or.inr ⟨rfl, rfl, rfl⟩) rfl rfl (by decide) (fun _ => rfl) (fun _ => rfl) ?_
  refine m_nmh (fun h20 eh20 => ?_)
  have hw := hw h20 eh20
  refine r_aload_n 87 d_X12_init_86 rfl rfl ?_
  refine r_bipush (v := 8) 89 d_X12_init_87 rfl (by decide) ?_
  refine r_newai 91 d_X12_init_89 rfl q_114 sh_62 (by decide) (by decide) (by decide) (by decide) (by decide) ?_
  refine m_nmh (fun h21 eh21 => ?_)
  have hw := hw h21 eh21
  refine r_putD (k := 15) 94 d_X12_init_91 rfl cl_12 sh_53 (show 53 < 63 by decide) (Nat.le_of_ble_eq_true rfl) rfl q_894 (Or.inr ⟨rfl, rfl, rfl⟩) rfl rfl (by decide) (fun _ => rfl) (fun _ => rfl) ?_
  refine m_nmh (fun h22 eh22 => ?_)
  have hw := hw h22 eh22
  refine r_aload_n 95 d_X12_init_94 rfl rfl ?_
  refine r_bipush (v := 8) 97 d_X12_init_95 rfl (by decide) ?_
  refine r_newai 99 d_X12_init_97 rfl q_114 sh_63 (by decide) (by decide) (by decide) (by decide) (by decide) ?_
  refine m_nmh (fun h23 eh23 => ?_)
  have hw := hw h23 eh23
  refine r_putD (k := 16) 102 d_X12_init_99 rfl cl_12 sh_53 (show 53 < 64 by decide) (Nat.le_of_ble_eq_true rfl) rfl q_895 (Or.inr ⟨rfl, rfl, rfl⟩) rfl rfl (by decide) (fun _ => rfl) (fun _ => rfl) ?_
  refine m_nmh (fun h24 eh24 => ?_)
  have hw := hw h24 eh24
  refine r_aload_n 103 d_X12_init_102 rfl rfl ?_
  refine r_bipush (v := 8) 105 d_X12_init_103 rfl (by decide) ?_
  refine r_newai 107 d_X12_init_105 rfl q_114 sh_64 (by decide) (by decide) (by decide) (by decide) (by decide) ?_
  refine m_nmh (fun h25 eh25 => ?_)
  have hw := hw h25 eh25
  refine r_putD (k := 17) 110 d_X12_init_107 rfl cl_12 sh_53 (show 53 < 65 by decide) (Nat.le_of_ble_eq_true rfl) rfl q_896 (Or.inr ⟨rfl, rfl, rfl⟩) rfl rfl (by decide) (fun _ => rfl) (fun _ => rfl) ?_
  refine m_nmh (fun h26 eh26 => ?_)
  have hw := hw h26 eh26
  refine r_aload_n 111 d_X12_init_110 rfl rfl ?_
  refine r_bipush (v := 8) 113 d_X12_init_111 rfl (by decide) ?_
  refine r_newai 115 d_X12_init_113 rfl q_114 sh_65 (by decide) (by decide) (by decide) (by decide) (by decide) ?_
  refine m_nmh (fun h27 eh27 => ?_)
  have hw := hw h27 eh27
  refine r_putD (k := 18) 118 d_X12_init_115 rfl cl_12 sh_53 (show 53 < 66 by decide) (Nat.le_of_ble_eq_true rfl) rfl q_897 (Or.inr ⟨rfl, rfl, rfl⟩) rfl rfl (by decide) (fun _ => rfl) (fun _ => rfl) ?_
  refine m_nmh (fun h28 eh28 => ?_)
  have hw := hw h28 eh28
  refine r_aload_n 119 d_X12_init_118 rfl rfl ?_
  refine r_bipush (v := 10) 121 d_X12_init_119 rfl (by decide) ?_
  refine r_newai 123 d_X12_init_121 rfl q_114 sh_66 (by decide) (by decide) (by decide) (by decide) (by decide) ?_
  refine m_nmh (fun h29 eh29 => ?_)
  have hw := hw h29 eh29
  refine r_putD (k := 20) 126 d_X12_init_123 rfl cl_12 sh_53 (show 53 < 67 by decide) (Nat.le_of_ble_eq_true rfl) rfl q_899 (Or.inr ⟨rfl, rfl, rfl⟩) rfl rfl (by decide) (fun _ => rfl) (fun _ => rfl) ?_
  refine m_nmh (fun h30 eh30 => ?_)
  have hw := hw h30 eh30
  refine r_aload_n 127 d_X12_init_126 rfl rfl ?_
  refine r_bipush (v := 10) 129 d_X12_init_127 rfl (by decide) ?_
  refine r_newai 131 d_X12_init_129 rfl q_114 sh_67 (by decide) (by decide) (by decide) (by decide) (by decide) ?_
  refine m_nmh (fun h31 eh31 => ?_)
  have hw := hw h31 eh31
  refine r_putD (k := 21) 134 d_X12_init_131 rfl cl_12 sh_53 (show 53 < 68 by decide) (Nat.le_of_ble_eq_true rfl) rfl q_900 (Or.inr ⟨rfl, rfl, rfl⟩) rfl rfl (by decide) (fun _ => rfl) (fun _ => rfl) ?_
  refine m_nmh (fun h32 eh32 => ?_)
  have hw := hw h32 eh32
  refine r_aload_n 135 d_X12_init_134 rfl rfl ?_
  refine r_bipush (v := 10) 137 d_X12_init_135 rfl (by decide) ?_
  refine r_newai 139 d_X12_init_137 rfl q_114 sh_68 (by decide) (by decide) (by decide) (by decide) (by decide) ?_
  refine m_nmh (fun h33 eh33 => ?_)
  have hw := hw h33 eh33
  refine r_putD (k := 22) 142 d_X12_init_139 rfl cl_12 sh_53 (show 53 < 69 by decide) (Nat.le_of_ble_eq_true rfl) rfl q_901 (Or.inr ⟨rfl, rfl, rfl⟩) rfl rfl (by decide) (fun _ => rfl) (fun _ => rfl) ?_
  refine m_nmh (fun h34 eh34 => ?_)
  have hw := hw h34 eh34
  refine r_aload_n 143 d_X12_init_142 rfl rfl ?_
  refine r_bipush (v := 120) 145 d_X12_init_143 rfl (by decide) ?_
  refine r_newab 147 d_X12_init_145 rfl q_1051 sh_69 (by decide) (by decide) (by decide) (by decide) (by decide) ?_
  refine m_nmh (fun h35 eh35 => ?_)
  have hw := hw h35 eh35
  refine r_putD (k := 23) 150 d_X12_init_147 rfl cl_12 sh_53 (show 53 < 70 by decide) (Nat.le_of_ble_eq_true rfl) rfl q_902 (Or.inr ⟨rfl, rfl, rfl⟩) rfl rfl (by decide) (fun _ => rfl) (fun _ => rfl) ?_
  refine m_nmh (fun h36 eh36 => ?_)
  have hw := hw h36 eh36
  refine r_aload_n 151 d_X12_init_150 rfl rfl ?_
  refine r_sipush (v := 260) 154 d_X12_init_151 rfl (by decide) ?_
  refine r_newab 156 d_X12_init_154 rfl q_1051 sh_70 (by decide) (by decide) (by decide) (by decide) (by decide) ?_
  refine m_nmh (fun h37 eh37 => ?_)
  have hw := hw h37 eh37
  refine r_putD (k := 29) 159 d_X12_init_156 rfl cl_12 sh_53 (show 53 < 71 by decide) (Nat.le_of_ble_eq_true rfl) rfl q_908 (Or.inr ⟨rfl, rfl, rfl⟩) rfl rfl (by decide) (fun _ => rfl) (fun _ => rfl) ?_
  refine m_nmh (fun h38 eh38 => ?_)
  have hw := hw h38 eh38
  refine r_aload_n 160 d_X12_init_159 rfl rfl ?_
  refine r_sipush (v := 260) 163 d_X12_init_160 rfl (by decide) ?_
  refine r_newai 165 d_X12_init_163 rfl q_114 sh_71 (by decide) (by decide) (by decide) (by decide) (by decide) ?_
  refine m_nmh (fun h39 eh39 => ?_)
  have hw := hw h39 eh39
  refine r_putD (k := 30) 168 d_X12_init_165 rfl cl_12 sh_53 (show 53 < 72 by decide) (Nat.le_of_ble_eq_true rfl) rfl q_909 (Or.inr ⟨rfl, rfl, rfl⟩) rfl rfl (by decide) (fun _ => rfl) (fun _ => rfl) ?_
  refine m_nmh (fun h40 eh40 => ?_)
  have hw := hw h40 eh40
  refine r_aload_n 169 d_X12_init_168 rfl rfl ?_
  refine r_iconst (v := 2) 170 d_X12_init_169 rfl (by decide) ?_
  refine r_newai 172 d_X12_init_170 rfl q_114 sh_72 (by decide) (by decide) (by decide) (by decide) (by decide) ?_
  refine m_nmh (fun h41 eh41 => ?_)
  have hw := hw h41 eh41
  refine r_putD (k := 31) 175 d_X12_init_172 rfl cl_12 sh_53 (show 53 < 73 by decide) (Nat.le_of_ble_eq_true rfl) rfl q_910 (Or.inr ⟨rfl, rfl, rfl⟩) rfl rfl (by decide) (fun _ => rfl) (fun _ => rfl) ?_
  refine m_nmh (fun h42 eh42 => ?_)
  have hw := hw h42 eh42
  refine r_aload_n 176 d_X12_init_175 rfl rfl ?_
  refine r_bipush (v := 122) 178 d_X12_init_176 rfl (by decide) ?_
  refine r_newas 180 d_X12_init_178 rfl q_1052 sh_73 (by decide) (by decide) (by decide) (by decide) (by decide) ?_
  refine m_nmh (fun h43 eh43 => ?_)
  have hw := hw h43 eh43
  refine r_putD (k := 32) 183 d_X12_init_180 rfl cl_12 sh_53 (show 53 < 74 by decide) (Nat.le_of_ble_eq_true rfl) rfl q_911 (Or.inr ⟨rfl, rfl, rfl⟩) rfl rfl (by decide) (fun _ => rfl) (fun _ => rfl) ?_
  refine m_nmh (fun h44 eh44 => ?_)
  have hw := hw h44 eh44
  refine r_aload_n 184 d_X12_init_183 rfl rfl ?_
  refine r_bipush (v := 122) 186 d_X12_init_184 rfl (by decide) ?_
  refine r_newas 188 d_X12_init_186 rfl q_1052 sh_74 (by decide) (by decide) (by decide) (by decide) (by decide) ?_
  refine m_nmh (fun h45 eh45 => ?_)
  have hw := hw h45 eh45
  refine r_putD (k := 33) 191 d_X12_init_188 rfl cl_12 sh_53 (show 53 < 75 by decide) (Nat.le_of_ble_eq_true rfl) rfl q_912 (Or.inr ⟨rfl, rfl, rfl⟩) rfl rfl (by decide) (fun _ => rfl) (fun _ => rfl) ?_
  refine m_nmh (fun h46 eh46 => ?_)
  have hw := hw h46 eh46
  refine r_aload_n 192 d_X12_init_191 rfl rfl ?_
  refine r_iconst (v := 5) 193 d_X12_init_192 rfl (by decide) ?_
  refine r_newai 195 d_X12_init_193 rfl q_114 sh_75 (by decide) (by decide) (by decide) (by decide) (by decide) ?_
  refine m_nmh (fun h47 eh47 => ?_)
  have hw := hw h47 eh47
  refine r_putD (k := 34) 198 d_X12_init_195 rfl cl_12 sh_53 (show 53 < 76 by decide) (Nat.le_of_ble_eq_true rfl) rfl q_913 (Or.inr ⟨rfl, rfl, rfl⟩) rfl rfl (by decide) (fun _ => rfl) (fun _ => rfl) ?_
  refine m_nmh (fun h48 eh48 => ?_)
  have hw := hw h48 eh48
  refine r_aload_n 199 d_X12_init_198 rfl rfl ?_
  refine r_sipush (v := 130) 202 d_X12_init_199 rfl (by decide) ?_
  refine r_newai 204 d_X12_init_202 rfl q_114 sh_76 (by decide) (by decide) (by decide) (by decide) (by decide) ?_
  refine m_nmh (fun h49 eh49 => ?_)
  have hw := hw h49 eh49
  refine r_putD (k := 35) 207 d_X12_init_204 rfl cl_12 sh_53 (show 53 < 77 by decide) (Nat.le_of_ble_eq_true rfl) rfl q_914 (Or.inr ⟨rfl, rfl, rfl⟩) rfl rfl (by decide) (fun _ => rfl) (fun _ => rfl) ?_
  refine m_nmh (fun h50 eh50 => ?_)
  have hw := hw h50 eh50
  refine r_aload_n 208 d_X12_init_207 rfl rfl ?_
  refine r_sipush (v := 720) 211 d_X12_init_208 rfl (by decide) ?_
  refine r_newaz 213 d_X12_init_211 rfl q_219 sh_77 (by decide) (by decide) (by decide) (by decide) (by decide) ?_
  refine m_nmh (fun h51 eh51 => ?_)
  have hw := hw h51 eh51
  refine r_putD (k := 37) 216 d_X12_init_213 rfl cl_12 sh_53 (show 53 < 78 by decide) (Nat.le_of_ble_eq_true rfl) rfl q_916 (Or.inr ⟨rfl, rfl, rfl⟩) rfl rfl (by decide) (fun _ => rfl) (fun _ => rfl) ?_
  refine m_nmh (fun h52 eh52 => ?_)
  have hw := hw h52 eh52
  refine r_aload_n 217 d_X12_init_216 rfl rfl ?_
  refine r_bipush (v := 60) 219 d_X12_init_217 rfl (by decide) ?_
  refine r_newai 221 d_X12_init_219 rfl q_114 sh_78 (by decide) (by decide) (by decide) (by decide) (by decide) ?_
  refine m_nmh (fun h53 eh53 => ?_)
  have hw := hw h53 eh53
  refine r_putD (k := 39) 224 d_X12_init_221 rfl cl_12 sh_53 (show 53 < 79 by decide) (Nat.le_of_ble_eq_true rfl) rfl q_918 (Or.inr ⟨rfl, rfl, rfl⟩) rfl rfl (by decide) (fun _ => rfl) (fun _ => rfl) ?_
  refine m_nmh (fun h54 eh54 => ?_)
  have hw := hw h54 eh54
  refine r_aload_n 225 d_X12_init_224 rfl rfl ?_
  refine r_iconst (v := 2) 226 d_X12_init_225 rfl (by decide) ?_
  refine r_newai 228 d_X12_init_226 rfl q_114 sh_79 (by decide) (by decide) (by decide) (by decide) (by decide) ?_
  refine m_nmh (fun h55 eh55 => ?_)
  have hw := hw h55 eh55
  refine r_putD (k := 44) 231 d_X12_init_228 rfl cl_12 sh_53 (show 53 < 80 by decide) (Nat.le_of_ble_eq_true rfl) rfl q_923 (Or.inr ⟨rfl, rfl, rfl⟩) rfl rfl (by decide) (fun _ => rfl) (fun _ => rfl) ?_
  refine m_nmh (fun h56 eh56 => ?_)
  have hw := hw h56 eh56
  refine r_aload_n 232 d_X12_init_231 rfl rfl ?_
  refine r_iconst (v := 2) 233 d_X12_init_232 rfl (by decide) ?_
  refine r_newai 235 d_X12_init_233 rfl q_114 sh_80 (by decide) (by decide) (by decide) (by decide) (by decide) ?_
  refine m_nmh (fun h57 eh57 => ?_)
  have hw := hw h57 eh57
  refine r_putD (k := 45) 238 d_X12_init_235 rfl cl_12 sh_53 (show 53 < 81 by decide) (Nat.le_of_ble_eq_true rfl) rfl q_924 (Or.inr ⟨rfl, rfl, rfl⟩) rfl rfl (by decide) (fun _ => rfl) (fun _ => rfl) ?_
  refine m_nmh (fun h58 eh58 => ?_)
  have hw := hw h58 eh58
  refine r_aload_n 239 d_X12_init_238 rfl rfl ?_
  refine r_iconst (v := 2) 240 d_X12_init_239 rfl (by decide) ?_
  refine r_newai 242 d_X12_init_240 rfl q_114 sh_81 (by decide) (by decide) (by decide) (by decide) (by decide) ?_
  refine m_nmh (fun h59 eh59 => ?_)
  have hw := hw h59 eh59
  refine r_putD (k := 46) 245 d_X12_init_242 rfl cl_12 sh_53 (show 53 < 82 by decide) (Nat.le_of_ble_eq_true rfl) rfl q_925 (Or.inr ⟨rfl, rfl, rfl⟩) rfl rfl (by decide) (fun _ => rfl) (fun _ => rfl) ?_
  refine m_nmh (fun h60 eh60 => ?_)
  have hw := hw h60 eh60
  refine r_aload_n 246 d_X12_init_245 rfl rfl ?_
  refine r_bipush (v := 32) 248 d_X12_init_246 rfl (by decide) ?_
  refine r_newai 250 d_X12_init_248 rfl q_114 sh_82 (by decide) (by decide) (by decide) (by decide) (by decide) ?_
  refine m_nmh (fun h61 eh61 => ?_)
  have hw := hw h61 eh61
  refine r_putD (k := 47) 253 d_X12_init_250 rfl cl_12 sh_53 (show 53 < 83 by decide) (Nat.le_of_ble_eq_true rfl) rfl q_926 (Or.inr ⟨rfl, rfl, rfl⟩) rfl rfl (by decide) (fun _ => rfl) (fun _ => rfl) ?_
  refine m_nmh (fun h62 eh62 => ?_)
  have hw := hw h62 eh62
  refine r_aload_n 254 d_X12_init_253 rfl rfl ?_
  refine r_bipush (v := 30) 256 d_X12_init_254 rfl (by decide) ?_
  refine r_newai 258 d_X12_init_256 rfl q_114 sh_83 (by decide) (by decide) (by decide) (by decide) (by decide) ?_
  refine m_nmh (fun h63 eh63 => ?_)
  have hw := hw h63 eh63
  refine r_putD (k := 48) 261 d_X12_init_258 rfl cl_12 sh_53 (show 53 < 84 by decide) (Nat.le_of_ble_eq_true rfl) rfl q_927 (Or.inr ⟨rfl, rfl, rfl⟩) rfl rfl (by decide) (fun _ => rfl) (fun _ => rfl) ?_
  refine m_nmh (fun h64 eh64 => ?_)
  have hw := hw h64 eh64
  refine r_aload_n 262 d_X12_init_261 rfl rfl ?_
  refine r_bipush (v := 50) 264 d_X12_init_262 rfl (by decide) ?_
  refine r_newai 266 d_X12_init_264 rfl q_114 sh_84 (by decide) (by decide) (by decide) (by decide) (by decide) ?_
  refine m_nmh (fun h65 eh65 => ?_)
  have hw := hw h65 eh65
  refine r_putD (k := 50) 269 d_X12_init_266 rfl cl_12 sh_53 (show 53 < 85 by decide) (Nat.le_of_ble_eq_true rfl) rfl q_929 (Or.inr ⟨rfl, rfl, rfl⟩) rfl rfl (by decide) (fun _ => rfl) (fun _ => rfl) ?_
  refine m_nmh (fun h66 eh66 => ?_)
  have hw := hw h66 eh66
  refine r_aload_n 270 d_X12_init_269 rfl rfl ?_
  refine r_bipush (v := 24) 272 d_X12_init_270 rfl (by decide) ?_
  refine r_newai 274 d_X12_init_272 rfl q_114 sh_85 (by decide) (by decide) (by decide) (by decide) (by decide) ?_
  refine m_nmh (fun h67 eh67 => ?_)
  have hw := hw h67 eh67
  refine r_putD (k := 52) 277 d_X12_init_274 rfl cl_12 sh_53 (show 53 < 86 by decide) (Nat.le_of_ble_eq_true rfl) rfl q_931 (Or.inr ⟨rfl, rfl, rfl⟩) rfl rfl (by decide) (fun _ => rfl) (fun _ => rfl) ?_
  refine m_nmh (fun h68 eh68 => ?_)
  have hw := hw h68 eh68
  refine r_aload_n 278 d_X12_init_277 rfl rfl ?_
  refine r_bipush (v := 6) 280 d_X12_init_278 rfl (by decide) ?_
  refine r_newai 282 d_X12_init_280 rfl q_114 sh_86 (by decide) (by decide) (by decide) (by decide) (by decide) ?_
  refine m_nmh (fun h69 eh69 => ?_)
  have hw := hw h69 eh69
  refine r_dup 283 d_X12_init_282 rfl rfl ?_
  refine r_iconst (v := 0) 284 d_X12_init_283 rfl (by decide) ?_
  refine r_iconst (v := (-1)) 285 d_X12_init_284 rfl (by decide) ?_
  refine r_iast 286 d_X12_init_285 rfl sh_86 (show 86 < 87 by decide) (k9 := 0) (vpd (by decide)) (by decide) ?_
  refine m_nmh (fun h70 eh70 => ?_)
  have hw := hw h70 eh70
  refine r_dup 287 d_X12_init_286 rfl rfl ?_
  refine r_iconst (v := 1) 288 d_X12_init_287 rfl (by decide) ?_
  refine r_iconst (v := (-1)) 289 d_X12_init_288 rfl (by decide) ?_
  refine r_iast 290 d_X12_init_289 rfl sh_86 (show 86 < 87 by decide) (k9 := 1) (vpd (by decide)) (by decide) ?_
  refine m_nmh (fun h71 eh71 => ?_)
  have hw := hw h71 eh71
  refine r_dup 291 d_X12_init_290 rfl rfl ?_
  refine r_iconst (v := 2) 292 d_X12_init_291 rfl (by decide) ?_
  refine r_iconst (v := (-1)) 293 d_X12_init_292 rfl (by decide) ?_
  refine r_iast 294 d_X12_init_293 rfl sh_86 (show 86 < 87 by decide) (k9 := 2) (vpd (by decide)) (by decide) ?_
  refine m_nmh (fun h72 eh72 => ?_)
  have hw := hw h72 eh72
  refine r_dup 295 d_X12_init_294 rfl rfl ?_
  refine r_iconst (v := 3) 296 d_X12_init_295 rfl (by decide) ?_
  refine r_iconst (v := (-1)) 297 d_X12_init_296 rfl (by decide) ?_
  refine r_iast 298 d_X12_init_297 rfl sh_86 (show 86 < 87 by decide) (k9 := 3) (vpd (by decide)) (by decide) ?_
  refine m_nmh (fun h73 eh73 => ?_)
  have hw := hw h73 eh73
  refine r_dup 299 d_X12_init_298 rfl rfl ?_
  refine r_iconst (v := 4) 300 d_X12_init_299 rfl (by decide) ?_
  refine r_iconst (v := (-1)) 301 d_X12_init_300 rfl (by decide) ?_
  refine r_iast 302 d_X12_init_301 rfl sh_86 (show 86 < 87 by decide) (k9 := 4) (vpd (by decide)) (by decide) ?_
  refine m_nmh (fun h74 eh74 => ?_)
  have hw := hw h74 eh74
  refine r_dup 303 d_X12_init_302 rfl rfl ?_
  refine r_iconst (v := 5) 304 d_X12_init_303 rfl (by decide) ?_
  refine r_iconst (v := (-1)) 305 d_X12_init_304 rfl (by decide) ?_
  refine r_iast 306 d_X12_init_305 rfl sh_86 (show 86 < 87 by decide) (k9 := 5) (vpd (by decide)) (by decide) ?_
  refine m_nmh (fun h75 eh75 => ?_)
  have hw := hw h75 eh75
  refine r_putD (k := 53) 309 d_X12_init_306 rfl cl_12 sh_53 (show 53 < 87 by decide) (Nat.le_of_ble_eq_true rfl) rfl q_932 (Or.inr ⟨rfl, rfl, rfl⟩) rfl rfl (by decide) (fun _ => rfl) (fun _ => rfl) ?_
  refine m_nmh (fun h76 eh76 => ?_)
  have hw := hw h76 eh76
  refine r_aload_n 310 d_X12_init_309 rfl rfl ?_
  refine r_bipush (v := 6) 312 d_X12_init_310 rfl (by decide) ?_
  refine r_newai 314 d_X12_init_312 rfl q_114 sh_87 (by decide) (by decide) (by decide) (by decide) (by decide) ?_
  refine m_nmh (fun h77 eh77 => ?_)
  have hw := hw h77 eh77
  refine r_putD (k := 54) 317 d_X12_init_314 rfl cl_12 sh_53 (show 53 < 88 by decide) (Nat.le_of_ble_eq_true rfl) rfl q_933 (Or.inr ⟨rfl, rfl, rfl⟩) rfl rfl (by decide) (fun _ => rfl) (fun _ => rfl) ?_
  refine m_nmh (fun h78 eh78 => ?_)
  have hw := hw h78 eh78
  refine r_aload_n 318 d_X12_init_317 rfl rfl ?_
  refine r_sipush (v := 360) 321 d_X12_init_318 rfl (by decide) ?_
  refine r_newal 323 d_X12_init_321 rfl q_335 sh_88 (by decide) (by decide) (by decide) (by decide) (by decide) ?_
  refine m_nmh (fun h79 eh79 => ?_)
  have hw := hw h79 eh79
  refine r_putD (k := 55) 326 d_X12_init_323 rfl cl_12 sh_53 (show 53 < 89 by decide) (Nat.le_of_ble_eq_true rfl) rfl q_934 (Or.inr ⟨rfl, rfl, rfl⟩) rfl rfl (by decide) (fun _ => rfl) (fun _ => rfl) ?_
  refine m_nmh (fun h80 eh80 => ?_)
  have hw := hw h80 eh80
  refine r_aload_n 327 d_X12_init_326 rfl rfl ?_
  refine r_bipush (v := 60) 329 d_X12_init_327 rfl (by decide) ?_
  refine r_newal 331 d_X12_init_329 rfl q_335 sh_89 (by decide) (by decide) (by decide) (by decide) (by decide) ?_
  refine m_nmh (fun h81 eh81 => ?_)
  have hw := hw h81 eh81
  refine r_putD (k := 56) 334 d_X12_init_331 rfl cl_12 sh_53 (show 53 < 90 by decide) (Nat.le_of_ble_eq_true rfl) rfl q_935 (Or.inr ⟨rfl, rfl, rfl⟩) rfl rfl (by decide) (fun _ => rfl) (fun _ => rfl) ?_
  refine m_nmh (fun h82 eh82 => ?_)
  have hw := hw h82 eh82
  exact r_return d_X12_init_334 rfl rfl hw
