/-! PURE: each walk is monotone in what must hold at its end; printed by wip/gen/mono.py -/
theorem moI {A B B' : Prop} (g : B → B') (f : A → B) (a : A) : B' := g (f a)
theorem moA {α : Type} {P P' : α → Prop} (g : ∀ x, P x → P' x) (f : ∀ x, P x) : ∀ x, P' x := fun x => g x (f x)
theorem mo_X0_add {a1 : Int32} {h : mH} {Q Q' : Int32 → mH → Prop} (hQ : ∀ (y0 : Int32) (y1 : mH), Q y0 y1 → Q' y0 y1) : w_X0_add a1 h Q → w_X0_add a1 h Q' := by
  unfold w_X0_add
  repeat' (first | with_reducible exact hQ _ _ | with_reducible refine And.imp ?_ ?_ | with_reducible refine moI ?_ | with_reducible refine moA fun _ => ?_ | with_reducible refine Exists.imp fun _ => ?_ | with_reducible exact id | exact False.elim)
theorem mo_X11_isOneOf {a0 : Int32} {a1 : Int32} {h : mH} {Q Q' : Int32 → mH → Prop} (hQ : ∀ (y0 : Int32) (y1 : mH), Q y0 y1 → Q' y0 y1) : w_X11_isOneOf a0 a1 h Q → w_X11_isOneOf a0 a1 h Q' := by
  unfold w_X11_isOneOf
  repeat' (first | with_reducible exact hQ _ _ | with_reducible refine And.imp ?_ ?_ | with_reducible refine moI ?_ | with_reducible refine moA fun _ => ?_ | with_reducible refine Exists.imp fun _ => ?_ | with_reducible exact id | exact False.elim)
theorem mo_X0_kindOf {a1 : Int32} {h : mH} {Q Q' : Int32 → mH → Prop} (hQ : ∀ (y0 : Int32) (y1 : mH), Q y0 y1 → Q' y0 y1) : w_X0_kindOf a1 h Q → w_X0_kindOf a1 h Q' := by
  unfold w_X0_kindOf
  repeat' (first | with_reducible exact hQ _ _ | with_reducible refine And.imp ?_ ?_ | with_reducible refine moI ?_ | with_reducible refine moA fun _ => ?_ | with_reducible refine Exists.imp fun _ => ?_ | with_reducible refine mo_X11_isOneOf (fun _ _ => ?_) | with_reducible exact id | exact False.elim)
theorem mo_X0_isUnder_L4 {K36 K36' : Int32 → mH → Prop} {Q Q' : Int32 → mH → Prop} {l1 : Int32} (hK36 : ∀ (y0 : Int32) (y1 : mH), K36 y0 y1 → K36' y0 y1) (hQ : ∀ (y0 : Int32) (y1 : mH), Q y0 y1 → Q' y0 y1) : ∀ (y0 : Nat) (y1 : Int32) (y2 : Int32) (y3 : mH), w_X0_isUnder_L4 K36 Q l1 y0 y1 y2 y3 → w_X0_isUnder_L4 K36' Q' l1 y0 y1 y2 y3 := by
  intro n
  induction n with
  | zero => intro y1 y2 y3; exact False.elim
  | succ n ih =>
    intro y1 y2 y3
    unfold w_X0_isUnder_L4
    repeat' (first | with_reducible exact hK36 _ _ | with_reducible exact hQ _ _ | with_reducible exact ih _ _ _ | with_reducible refine And.imp ?_ ?_ | with_reducible refine moI ?_ | with_reducible refine moA fun _ => ?_ | with_reducible refine Exists.imp fun _ => ?_ | with_reducible refine mo_X11_isOneOf (fun _ _ => ?_) | with_reducible exact id | exact False.elim)
theorem mo_X0_isUnder {a0 : Int32} {a1 : Int32} {h : mH} {Q Q' : Int32 → mH → Prop} (hQ : ∀ (y0 : Int32) (y1 : mH), Q y0 y1 → Q' y0 y1) : w_X0_isUnder a0 a1 h Q → w_X0_isUnder a0 a1 h Q' := by
  unfold w_X0_isUnder
  repeat' (first | with_reducible exact hQ _ _ | with_reducible refine And.imp ?_ ?_ | with_reducible refine moI ?_ | with_reducible refine moA fun _ => ?_ | with_reducible refine Exists.imp fun _ => ?_ | with_reducible refine mo_X0_isUnder_L4 (fun _ _ => ?_) (fun _ _ => ?_) _ _ _ _ | with_reducible exact id | exact False.elim)
theorem mo_wb_X0_own {R_X0_own : Int32 → Int32 → Int32 → Int32 → mH → (Int32 → mH → Prop) → Prop} {R_X0_from : Int32 → Int32 → Int32 → Int32 → Int32 → mH → (Int32 → mH → Prop) → Prop} {R_X0_run : Int32 → Int32 → Int32 → Int32 → Int32 → mH → (Int32 → mH → Prop) → Prop} {a1 : Int32} {a2 : Int32} {a3 : Int32} {a4 : Int32} {h : mH} {Q Q' : Int32 → mH → Prop} (hR_X0_own : ∀ (y0 : Int32) (y1 : Int32) (y2 : Int32) (y3 : Int32) (y4 : mH) (P P' : Int32 → mH → Prop), (∀ (z0 : Int32) (z1 : mH), P z0 z1 → P' z0 z1) → R_X0_own y0 y1 y2 y3 y4 P → R_X0_own y0 y1 y2 y3 y4 P') (hR_X0_from : ∀ (y0 : Int32) (y1 : Int32) (y2 : Int32) (y3 : Int32) (y4 : Int32) (y5 : mH) (P P' : Int32 → mH → Prop), (∀ (z0 : Int32) (z1 : mH), P z0 z1 → P' z0 z1) → R_X0_from y0 y1 y2 y3 y4 y5 P → R_X0_from y0 y1 y2 y3 y4 y5 P') (hR_X0_run : ∀ (y0 : Int32) (y1 : Int32) (y2 : Int32) (y3 : Int32) (y4 : Int32) (y5 : mH) (P P' : Int32 → mH → Prop), (∀ (z0 : Int32) (z1 : mH), P z0 z1 → P' z0 z1) → R_X0_run y0 y1 y2 y3 y4 y5 P → R_X0_run y0 y1 y2 y3 y4 y5 P') (hQ : ∀ (y0 : Int32) (y1 : mH), Q y0 y1 → Q' y0 y1) : wb_X0_own R_X0_own R_X0_from R_X0_run a1 a2 a3 a4 h Q → wb_X0_own R_X0_own R_X0_from R_X0_run a1 a2 a3 a4 h Q' := by
  unfold wb_X0_own
  repeat' (first | with_reducible exact hQ _ _ | with_reducible refine And.imp ?_ ?_ | with_reducible refine moI ?_ | with_reducible refine moA fun _ => ?_ | with_reducible refine Exists.imp fun _ => ?_ | with_reducible refine mo_X0_kindOf (fun _ _ => ?_) | with_reducible refine hR_X0_from _ _ _ _ _ _ _ _ (fun _ _ => ?_) | with_reducible exact id | exact False.elim)
theorem mo_X0_from_L6 {R_X0_own : Int32 → Int32 → Int32 → Int32 → mH → (Int32 → mH → Prop) → Prop} {R_X0_from : Int32 → Int32 → Int32 → Int32 → Int32 → mH → (Int32 → mH → Prop) → Prop} {R_X0_run : Int32 → Int32 → Int32 → Int32 → Int32 → mH → (Int32 → mH → Prop) → Prop} {K40 K40' : Int32 → Int32 → mH → Prop} {K85 K85' : mH → Prop} {Q Q' : Int32 → mH → Prop} {l2 : Int32} {l3 : Int32} {l4 : Int32} {l5 : Int32} (hR_X0_own : ∀ (y0 : Int32) (y1 : Int32) (y2 : Int32) (y3 : Int32) (y4 : mH) (P P' : Int32 → mH → Prop), (∀ (z0 : Int32) (z1 : mH), P z0 z1 → P' z0 z1) → R_X0_own y0 y1 y2 y3 y4 P → R_X0_own y0 y1 y2 y3 y4 P') (hR_X0_from : ∀ (y0 : Int32) (y1 : Int32) (y2 : Int32) (y3 : Int32) (y4 : Int32) (y5 : mH) (P P' : Int32 → mH → Prop), (∀ (z0 : Int32) (z1 : mH), P z0 z1 → P' z0 z1) → R_X0_from y0 y1 y2 y3 y4 y5 P → R_X0_from y0 y1 y2 y3 y4 y5 P') (hR_X0_run : ∀ (y0 : Int32) (y1 : Int32) (y2 : Int32) (y3 : Int32) (y4 : Int32) (y5 : mH) (P P' : Int32 → mH → Prop), (∀ (z0 : Int32) (z1 : mH), P z0 z1 → P' z0 z1) → R_X0_run y0 y1 y2 y3 y4 y5 P → R_X0_run y0 y1 y2 y3 y4 y5 P') (hK40 : ∀ (y0 : Int32) (y1 : Int32) (y2 : mH), K40 y0 y1 y2 → K40' y0 y1 y2) (hK85 : ∀ (y0 : mH), K85 y0 → K85' y0) (hQ : ∀ (y0 : Int32) (y1 : mH), Q y0 y1 → Q' y0 y1) : ∀ (y0 : Nat) (y1 : Int32) (y2 : Int32) (y3 : mH), w_X0_from_L6 R_X0_own R_X0_from R_X0_run K40 K85 Q l2 l3 l4 l5 y0 y1 y2 y3 → w_X0_from_L6 R_X0_own R_X0_from R_X0_run K40' K85' Q' l2 l3 l4 l5 y0 y1 y2 y3 := by
  intro n
  induction n with
  | zero => intro y1 y2 y3; exact False.elim
  | succ n ih =>
    intro y1 y2 y3
    unfold w_X0_from_L6
    repeat' (first | with_reducible exact hK40 _ _ _ | with_reducible exact hK85 _ | with_reducible exact hQ _ _ | with_reducible exact ih _ _ _ | with_reducible refine And.imp ?_ ?_ | with_reducible refine moI ?_ | with_reducible refine moA fun _ => ?_ | with_reducible refine Exists.imp fun _ => ?_ | with_reducible refine mo_X11_isOneOf (fun _ _ => ?_) | with_reducible refine hR_X0_own _ _ _ _ _ _ _ (fun _ _ => ?_) | with_reducible refine hR_X0_from _ _ _ _ _ _ _ _ (fun _ _ => ?_) | with_reducible refine hR_X0_run _ _ _ _ _ _ _ _ (fun _ _ => ?_) | with_reducible exact id | exact False.elim)
theorem mo_wb_X0_from {R_X0_own : Int32 → Int32 → Int32 → Int32 → mH → (Int32 → mH → Prop) → Prop} {R_X0_from : Int32 → Int32 → Int32 → Int32 → Int32 → mH → (Int32 → mH → Prop) → Prop} {R_X0_run : Int32 → Int32 → Int32 → Int32 → Int32 → mH → (Int32 → mH → Prop) → Prop} {a1 : Int32} {a2 : Int32} {a3 : Int32} {a4 : Int32} {a5 : Int32} {h : mH} {Q Q' : Int32 → mH → Prop} (hR_X0_own : ∀ (y0 : Int32) (y1 : Int32) (y2 : Int32) (y3 : Int32) (y4 : mH) (P P' : Int32 → mH → Prop), (∀ (z0 : Int32) (z1 : mH), P z0 z1 → P' z0 z1) → R_X0_own y0 y1 y2 y3 y4 P → R_X0_own y0 y1 y2 y3 y4 P') (hR_X0_from : ∀ (y0 : Int32) (y1 : Int32) (y2 : Int32) (y3 : Int32) (y4 : Int32) (y5 : mH) (P P' : Int32 → mH → Prop), (∀ (z0 : Int32) (z1 : mH), P z0 z1 → P' z0 z1) → R_X0_from y0 y1 y2 y3 y4 y5 P → R_X0_from y0 y1 y2 y3 y4 y5 P') (hR_X0_run : ∀ (y0 : Int32) (y1 : Int32) (y2 : Int32) (y3 : Int32) (y4 : Int32) (y5 : mH) (P P' : Int32 → mH → Prop), (∀ (z0 : Int32) (z1 : mH), P z0 z1 → P' z0 z1) → R_X0_run y0 y1 y2 y3 y4 y5 P → R_X0_run y0 y1 y2 y3 y4 y5 P') (hQ : ∀ (y0 : Int32) (y1 : mH), Q y0 y1 → Q' y0 y1) : wb_X0_from R_X0_own R_X0_from R_X0_run a1 a2 a3 a4 a5 h Q → wb_X0_from R_X0_own R_X0_from R_X0_run a1 a2 a3 a4 a5 h Q' := by
  unfold wb_X0_from
  repeat' (first | with_reducible exact hQ _ _ | with_reducible refine And.imp ?_ ?_ | with_reducible refine moI ?_ | with_reducible refine moA fun _ => ?_ | with_reducible refine Exists.imp fun _ => ?_ | with_reducible refine mo_X0_from_L6 hR_X0_own hR_X0_from hR_X0_run (fun _ _ _ => ?_) (fun _ => ?_) (fun _ _ => ?_) _ _ _ _ | with_reducible refine hR_X0_own _ _ _ _ _ _ _ (fun _ _ => ?_) | with_reducible refine hR_X0_from _ _ _ _ _ _ _ _ (fun _ _ => ?_) | with_reducible refine hR_X0_run _ _ _ _ _ _ _ _ (fun _ _ => ?_) | with_reducible exact id | exact False.elim)
theorem mo_X0_run_J19 {R_X0_own : Int32 → Int32 → Int32 → Int32 → mH → (Int32 → mH → Prop) → Prop} {R_X0_from : Int32 → Int32 → Int32 → Int32 → Int32 → mH → (Int32 → mH → Prop) → Prop} {R_X0_run : Int32 → Int32 → Int32 → Int32 → Int32 → mH → (Int32 → mH → Prop) → Prop} {Q Q' : Int32 → mH → Prop} {l1 : Int32} {l2 : Int32} {l3 : Int32} {l4 : Int32} {l5 : Int32} {h : mH} (hR_X0_own : ∀ (y0 : Int32) (y1 : Int32) (y2 : Int32) (y3 : Int32) (y4 : mH) (P P' : Int32 → mH → Prop), (∀ (z0 : Int32) (z1 : mH), P z0 z1 → P' z0 z1) → R_X0_own y0 y1 y2 y3 y4 P → R_X0_own y0 y1 y2 y3 y4 P') (hR_X0_from : ∀ (y0 : Int32) (y1 : Int32) (y2 : Int32) (y3 : Int32) (y4 : Int32) (y5 : mH) (P P' : Int32 → mH → Prop), (∀ (z0 : Int32) (z1 : mH), P z0 z1 → P' z0 z1) → R_X0_from y0 y1 y2 y3 y4 y5 P → R_X0_from y0 y1 y2 y3 y4 y5 P') (hR_X0_run : ∀ (y0 : Int32) (y1 : Int32) (y2 : Int32) (y3 : Int32) (y4 : Int32) (y5 : mH) (P P' : Int32 → mH → Prop), (∀ (z0 : Int32) (z1 : mH), P z0 z1 → P' z0 z1) → R_X0_run y0 y1 y2 y3 y4 y5 P → R_X0_run y0 y1 y2 y3 y4 y5 P') (hQ : ∀ (y0 : Int32) (y1 : mH), Q y0 y1 → Q' y0 y1) : w_X0_run_J19 R_X0_own R_X0_from R_X0_run Q l1 l2 l3 l4 l5 h → w_X0_run_J19 R_X0_own R_X0_from R_X0_run Q' l1 l2 l3 l4 l5 h := by
  unfold w_X0_run_J19
  repeat' (first | with_reducible exact hQ _ _ | with_reducible refine And.imp ?_ ?_ | with_reducible refine moI ?_ | with_reducible refine moA fun _ => ?_ | with_reducible refine Exists.imp fun _ => ?_ | with_reducible refine hR_X0_own _ _ _ _ _ _ _ (fun _ _ => ?_) | with_reducible refine hR_X0_from _ _ _ _ _ _ _ _ (fun _ _ => ?_) | with_reducible exact id | exact False.elim)
theorem mo_wb_X0_run {R_X0_own : Int32 → Int32 → Int32 → Int32 → mH → (Int32 → mH → Prop) → Prop} {R_X0_from : Int32 → Int32 → Int32 → Int32 → Int32 → mH → (Int32 → mH → Prop) → Prop} {R_X0_run : Int32 → Int32 → Int32 → Int32 → Int32 → mH → (Int32 → mH → Prop) → Prop} {a1 : Int32} {a2 : Int32} {a3 : Int32} {a4 : Int32} {a5 : Int32} {h : mH} {Q Q' : Int32 → mH → Prop} (hR_X0_own : ∀ (y0 : Int32) (y1 : Int32) (y2 : Int32) (y3 : Int32) (y4 : mH) (P P' : Int32 → mH → Prop), (∀ (z0 : Int32) (z1 : mH), P z0 z1 → P' z0 z1) → R_X0_own y0 y1 y2 y3 y4 P → R_X0_own y0 y1 y2 y3 y4 P') (hR_X0_from : ∀ (y0 : Int32) (y1 : Int32) (y2 : Int32) (y3 : Int32) (y4 : Int32) (y5 : mH) (P P' : Int32 → mH → Prop), (∀ (z0 : Int32) (z1 : mH), P z0 z1 → P' z0 z1) → R_X0_from y0 y1 y2 y3 y4 y5 P → R_X0_from y0 y1 y2 y3 y4 y5 P') (hR_X0_run : ∀ (y0 : Int32) (y1 : Int32) (y2 : Int32) (y3 : Int32) (y4 : Int32) (y5 : mH) (P P' : Int32 → mH → Prop), (∀ (z0 : Int32) (z1 : mH), P z0 z1 → P' z0 z1) → R_X0_run y0 y1 y2 y3 y4 y5 P → R_X0_run y0 y1 y2 y3 y4 y5 P') (hQ : ∀ (y0 : Int32) (y1 : mH), Q y0 y1 → Q' y0 y1) : wb_X0_run R_X0_own R_X0_from R_X0_run a1 a2 a3 a4 a5 h Q → wb_X0_run R_X0_own R_X0_from R_X0_run a1 a2 a3 a4 a5 h Q' := by
  unfold wb_X0_run
  repeat' (first | with_reducible exact hQ _ _ | with_reducible refine And.imp ?_ ?_ | with_reducible refine moI ?_ | with_reducible refine moA fun _ => ?_ | with_reducible refine Exists.imp fun _ => ?_ | with_reducible refine mo_X0_run_J19 hR_X0_own hR_X0_from hR_X0_run (fun _ _ => ?_) | with_reducible refine hR_X0_own _ _ _ _ _ _ _ (fun _ _ => ?_) | with_reducible refine hR_X0_from _ _ _ _ _ _ _ _ (fun _ _ => ?_) | with_reducible refine hR_X0_run _ _ _ _ _ _ _ _ (fun _ _ => ?_) | with_reducible exact id | exact False.elim)
theorem mo_wr_1 : ∀ N : Nat, (∀ (y0 : Int32) (y1 : Int32) (y2 : Int32) (y3 : Int32) (y4 : mH) (P P' : Int32 → mH → Prop), (∀ (z0 : Int32) (z1 : mH), P z0 z1 → P' z0 z1) → (wr_1 N).1 y0 y1 y2 y3 y4 P → (wr_1 N).1 y0 y1 y2 y3 y4 P') ∧ (∀ (y0 : Int32) (y1 : Int32) (y2 : Int32) (y3 : Int32) (y4 : Int32) (y5 : mH) (P P' : Int32 → mH → Prop), (∀ (z0 : Int32) (z1 : mH), P z0 z1 → P' z0 z1) → (wr_1 N).2.1 y0 y1 y2 y3 y4 y5 P → (wr_1 N).2.1 y0 y1 y2 y3 y4 y5 P') ∧ (∀ (y0 : Int32) (y1 : Int32) (y2 : Int32) (y3 : Int32) (y4 : Int32) (y5 : mH) (P P' : Int32 → mH → Prop), (∀ (z0 : Int32) (z1 : mH), P z0 z1 → P' z0 z1) → (wr_1 N).2.2 y0 y1 y2 y3 y4 y5 P → (wr_1 N).2.2 y0 y1 y2 y3 y4 y5 P') := by
  intro N
  induction N with
  | zero => exact ⟨fun _ _ _ _ _ _ _ _ z => z, fun _ _ _ _ _ _ _ _ _ z => z, fun _ _ _ _ _ _ _ _ _ z => z⟩
  | succ N ih => exact ⟨fun _ _ _ _ _ _ _ hP => mo_wb_X0_own ih.1 ih.2.1 ih.2.2 hP, fun _ _ _ _ _ _ _ _ hP => mo_wb_X0_from ih.1 ih.2.1 ih.2.2 hP, fun _ _ _ _ _ _ _ _ hP => mo_wb_X0_run ih.1 ih.2.1 ih.2.2 hP⟩
theorem mo_X0_actOf {a1 : Int32} {a2 : Int32} {a3 : Int32} {h : mH} {Q Q' : Int32 → mH → Prop} (hQ : ∀ (y0 : Int32) (y1 : mH), Q y0 y1 → Q' y0 y1) : w_X0_actOf a1 a2 a3 h Q → w_X0_actOf a1 a2 a3 h Q' := by
  unfold w_X0_actOf
  repeat' (first | with_reducible exact hQ _ _ | with_reducible refine And.imp ?_ ?_ | with_reducible refine moI ?_ | with_reducible refine moA fun _ => ?_ | with_reducible refine Exists.imp fun _ => ?_ | with_reducible refine mo_X11_isOneOf (fun _ _ => ?_) | with_reducible refine (mo_wr_1 _).1 _ _ _ _ _ _ _ (fun _ _ => ?_) | with_reducible exact id | exact False.elim)
theorem mo_X1_dropEldest_L2 {K56 K56' : mH → Prop} {Q Q' : mH → Prop} (hK56 : ∀ (y0 : mH), K56 y0 → K56' y0) (hQ : ∀ (y0 : mH), Q y0 → Q' y0) : ∀ (y0 : Nat) (y1 : Int32) (y2 : mH), w_X1_dropEldest_L2 K56 Q y0 y1 y2 → w_X1_dropEldest_L2 K56' Q' y0 y1 y2 := by
  intro n
  induction n with
  | zero => intro y1 y2; exact False.elim
  | succ n ih =>
    intro y1 y2
    unfold w_X1_dropEldest_L2
    repeat' (first | with_reducible exact hK56 _ | with_reducible exact hQ _ | with_reducible exact ih _ _ | with_reducible refine And.imp ?_ ?_ | with_reducible refine moI ?_ | with_reducible refine moA fun _ => ?_ | with_reducible refine Exists.imp fun _ => ?_ | with_reducible exact id | exact False.elim)
theorem mo_X1_dropEldest {h : mH} {Q Q' : mH → Prop} (hQ : ∀ (y0 : mH), Q y0 → Q' y0) : w_X1_dropEldest h Q → w_X1_dropEldest h Q' := by
  unfold w_X1_dropEldest
  repeat' (first | with_reducible exact hQ _ | with_reducible refine And.imp ?_ ?_ | with_reducible refine moI ?_ | with_reducible refine moA fun _ => ?_ | with_reducible refine Exists.imp fun _ => ?_ | with_reducible refine mo_X1_dropEldest_L2 (fun _ => ?_) (fun _ => ?_) _ _ _ | with_reducible exact id | exact False.elim)
theorem mo_X1_add_J19 {Q Q' : mH → Prop} {l1 : Int32} {l2 : Int32} {l3 : Int32} {h : mH} (hQ : ∀ (y0 : mH), Q y0 → Q' y0) : w_X1_add_J19 Q l1 l2 l3 h → w_X1_add_J19 Q' l1 l2 l3 h := by
  unfold w_X1_add_J19
  repeat' (first | with_reducible exact hQ _ | with_reducible refine And.imp ?_ ?_ | with_reducible refine moI ?_ | with_reducible refine moA fun _ => ?_ | with_reducible refine Exists.imp fun _ => ?_ | with_reducible exact id | exact False.elim)
theorem mo_X1_add {a1 : Int32} {a2 : Int32} {a3 : Int32} {h : mH} {Q Q' : mH → Prop} (hQ : ∀ (y0 : mH), Q y0 → Q' y0) : w_X1_add a1 a2 a3 h Q → w_X1_add a1 a2 a3 h Q' := by
  unfold w_X1_add
  repeat' (first | with_reducible exact hQ _ | with_reducible refine And.imp ?_ ?_ | with_reducible refine moI ?_ | with_reducible refine moA fun _ => ?_ | with_reducible refine Exists.imp fun _ => ?_ | with_reducible refine mo_X1_add_J19 (fun _ => ?_) | with_reducible refine mo_X1_dropEldest (fun _ => ?_) | with_reducible exact id | exact False.elim)
theorem mo_X1_undoIn {h : mH} {Q Q' : Int32 → mH → Prop} (hQ : ∀ (y0 : Int32) (y1 : mH), Q y0 y1 → Q' y0 y1) : w_X1_undoIn h Q → w_X1_undoIn h Q' := by
  unfold w_X1_undoIn
  repeat' (first | with_reducible exact hQ _ _ | with_reducible refine And.imp ?_ ?_ | with_reducible refine moI ?_ | with_reducible refine moA fun _ => ?_ | with_reducible refine Exists.imp fun _ => ?_ | with_reducible exact id | exact False.elim)
theorem mo_X1_redoIn {h : mH} {Q Q' : Int32 → mH → Prop} (hQ : ∀ (y0 : Int32) (y1 : mH), Q y0 y1 → Q' y0 y1) : w_X1_redoIn h Q → w_X1_redoIn h Q' := by
  unfold w_X1_redoIn
  repeat' (first | with_reducible exact hQ _ _ | with_reducible refine And.imp ?_ ?_ | with_reducible refine moI ?_ | with_reducible refine moA fun _ => ?_ | with_reducible refine Exists.imp fun _ => ?_ | with_reducible exact id | exact False.elim)
theorem mo_X2_isFull {o0 : Nat} {h : mH} {Q Q' : Int32 → mH → Prop} (hQ : ∀ (y0 : Int32) (y1 : mH), Q y0 y1 → Q' y0 y1) : w_X2_isFull o0 h Q → w_X2_isFull o0 h Q' := by
  unfold w_X2_isFull
  repeat' (first | with_reducible exact hQ _ _ | with_reducible refine And.imp ?_ ?_ | with_reducible refine moI ?_ | with_reducible refine moA fun _ => ?_ | with_reducible refine Exists.imp fun _ => ?_ | with_reducible exact id | exact False.elim)
theorem mo_X2_lay {o0 : Nat} {a1 : Int32} {a2 : Int32} {h : mH} {Q Q' : mH → Prop} (hQ : ∀ (y0 : mH), Q y0 → Q' y0) : w_X2_lay o0 a1 a2 h Q → w_X2_lay o0 a1 a2 h Q' := by
  unfold w_X2_lay
  repeat' (first | with_reducible exact hQ _ | with_reducible refine And.imp ?_ ?_ | with_reducible refine moI ?_ | with_reducible refine moA fun _ => ?_ | with_reducible refine Exists.imp fun _ => ?_ | with_reducible exact id | exact False.elim)
theorem mo_X2_add {o0 : Nat} {a1 : Int32} {a2 : Int32} {a3 : Int32} {a4 : Int32} {h : mH} {Q Q' : Int32 → mH → Prop} (hQ : ∀ (y0 : Int32) (y1 : mH), Q y0 y1 → Q' y0 y1) : w_X2_add o0 a1 a2 a3 a4 h Q → w_X2_add o0 a1 a2 a3 a4 h Q' := by
  unfold w_X2_add
  repeat' (first | with_reducible exact hQ _ _ | with_reducible refine And.imp ?_ ?_ | with_reducible refine moI ?_ | with_reducible refine moA fun _ => ?_ | with_reducible refine Exists.imp fun _ => ?_ | with_reducible refine mo_X2_isFull (fun _ _ => ?_) | with_reducible refine mo_X2_lay (fun _ => ?_) | with_reducible exact id | exact False.elim)
theorem mo_X2_told {o0 : Nat} {a1 : Int32} {a2 : Int32} {h : mH} {Q Q' : Int32 → mH → Prop} (hQ : ∀ (y0 : Int32) (y1 : mH), Q y0 y1 → Q' y0 y1) : w_X2_told o0 a1 a2 h Q → w_X2_told o0 a1 a2 h Q' := by
  unfold w_X2_told
  repeat' (first | with_reducible exact hQ _ _ | with_reducible refine And.imp ?_ ?_ | with_reducible refine moI ?_ | with_reducible refine moA fun _ => ?_ | with_reducible refine Exists.imp fun _ => ?_ | with_reducible refine mo_X11_isOneOf (fun _ _ => ?_) | with_reducible exact id | exact False.elim)
theorem mo_X2_become {o0 : Nat} {o1 : Nat} {h : mH} {Q Q' : mH → Prop} (hQ : ∀ (y0 : mH), Q y0 → Q' y0) : w_X2_become o0 o1 h Q → w_X2_become o0 o1 h Q' := by
  unfold w_X2_become
  repeat' (first | with_reducible exact hQ _ | with_reducible refine And.imp ?_ ?_ | with_reducible refine moI ?_ | with_reducible refine moA fun _ => ?_ | with_reducible refine Exists.imp fun _ => ?_ | with_reducible exact id | exact False.elim)
theorem mo_X3_startAnew_L2 {K22 K22' : mH → Prop} {Q Q' : mH → Prop} (hK22 : ∀ (y0 : mH), K22 y0 → K22' y0) (hQ : ∀ (y0 : mH), Q y0 → Q' y0) : ∀ (y0 : Nat) (y1 : Int32) (y2 : mH), w_X3_startAnew_L2 K22 Q y0 y1 y2 → w_X3_startAnew_L2 K22' Q' y0 y1 y2 := by
  intro n
  induction n with
  | zero => intro y1 y2; exact False.elim
  | succ n ih =>
    intro y1 y2
    unfold w_X3_startAnew_L2
    repeat' (first | with_reducible exact hK22 _ | with_reducible exact hQ _ | with_reducible exact ih _ _ | with_reducible refine And.imp ?_ ?_ | with_reducible refine moI ?_ | with_reducible refine moA fun _ => ?_ | with_reducible refine Exists.imp fun _ => ?_ | with_reducible exact id | exact False.elim)
theorem mo_X3_startAnew {h : mH} {Q Q' : mH → Prop} (hQ : ∀ (y0 : mH), Q y0 → Q' y0) : w_X3_startAnew h Q → w_X3_startAnew h Q' := by
  unfold w_X3_startAnew
  repeat' (first | with_reducible exact hQ _ | with_reducible refine And.imp ?_ ?_ | with_reducible refine moI ?_ | with_reducible refine moA fun _ => ?_ | with_reducible refine Exists.imp fun _ => ?_ | with_reducible refine mo_X3_startAnew_L2 (fun _ => ?_) (fun _ => ?_) _ _ _ | with_reducible exact id | exact False.elim)
theorem mo_X11_isClock {a0 : Int32} {h : mH} {Q Q' : Int32 → mH → Prop} (hQ : ∀ (y0 : Int32) (y1 : mH), Q y0 y1 → Q' y0 y1) : w_X11_isClock a0 h Q → w_X11_isClock a0 h Q' := by
  unfold w_X11_isClock
  repeat' (first | with_reducible exact hQ _ _ | with_reducible refine And.imp ?_ ?_ | with_reducible refine moI ?_ | with_reducible refine moA fun _ => ?_ | with_reducible refine Exists.imp fun _ => ?_ | with_reducible exact id | exact False.elim)
theorem mo_X11_isPart {a0 : Int32} {h : mH} {Q Q' : Int32 → mH → Prop} (hQ : ∀ (y0 : Int32) (y1 : mH), Q y0 y1 → Q' y0 y1) : w_X11_isPart a0 h Q → w_X11_isPart a0 h Q' := by
  unfold w_X11_isPart
  repeat' (first | with_reducible exact hQ _ _ | with_reducible refine And.imp ?_ ?_ | with_reducible refine moI ?_ | with_reducible refine moA fun _ => ?_ | with_reducible refine Exists.imp fun _ => ?_ | with_reducible refine mo_X11_isOneOf (fun _ _ => ?_) | with_reducible exact id | exact False.elim)
theorem mo_X11_isSight {a0 : Int32} {a1 : Int32} {a2 : Int32} {a3 : Int32} {h : mH} {Q Q' : Int32 → mH → Prop} (hQ : ∀ (y0 : Int32) (y1 : mH), Q y0 y1 → Q' y0 y1) : w_X11_isSight a0 a1 a2 a3 h Q → w_X11_isSight a0 a1 a2 a3 h Q' := by
  unfold w_X11_isSight
  repeat' (first | with_reducible exact hQ _ _ | with_reducible refine And.imp ?_ ?_ | with_reducible refine moI ?_ | with_reducible refine moA fun _ => ?_ | with_reducible refine Exists.imp fun _ => ?_ | with_reducible refine mo_X11_isClock (fun _ _ => ?_) | with_reducible refine mo_X11_isPart (fun _ _ => ?_) | with_reducible exact id | exact False.elim)
theorem mo_X10_off {a1 : Int32} {h : mH} {Q Q' : Int32 → mH → Prop} (hQ : ∀ (y0 : Int32) (y1 : mH), Q y0 y1 → Q' y0 y1) : w_X10_off a1 h Q → w_X10_off a1 h Q' := by
  unfold w_X10_off
  repeat' (first | with_reducible exact hQ _ _ | with_reducible refine And.imp ?_ ?_ | with_reducible refine moI ?_ | with_reducible refine moA fun _ => ?_ | with_reducible refine Exists.imp fun _ => ?_ | with_reducible refine mo_X11_isClock (fun _ _ => ?_) | with_reducible exact id | exact False.elim)
theorem mo_X10_gain {a1 : Int32} {h : mH} {Q Q' : Int32 → mH → Prop} (hQ : ∀ (y0 : Int32) (y1 : mH), Q y0 y1 → Q' y0 y1) : w_X10_gain a1 h Q → w_X10_gain a1 h Q' := by
  unfold w_X10_gain
  repeat' (first | with_reducible exact hQ _ _ | with_reducible refine And.imp ?_ ?_ | with_reducible refine moI ?_ | with_reducible refine moA fun _ => ?_ | with_reducible refine Exists.imp fun _ => ?_ | with_reducible refine mo_X11_isClock (fun _ _ => ?_) | with_reducible exact id | exact False.elim)
theorem mo_J9_floorMod_7cf53 {a0 : Int32} {a1 : Int32} {h : mH} {Q Q' : Int32 → mH → Prop} (hQ : ∀ (y0 : Int32) (y1 : mH), Q y0 y1 → Q' y0 y1) : w_J9_floorMod_7cf53 a0 a1 h Q → w_J9_floorMod_7cf53 a0 a1 h Q' := by
  unfold w_J9_floorMod_7cf53
  repeat' (first | with_reducible exact hQ _ _ | with_reducible refine And.imp ?_ ?_ | with_reducible refine moI ?_ | with_reducible refine moA fun _ => ?_ | with_reducible refine Exists.imp fun _ => ?_ | with_reducible exact id | exact False.elim)
theorem mo_X10_timeBy {a0 : Int32} {a1 : Int32} {a2 : Int32} {h : mH} {Q Q' : Int32 → mH → Prop} (hQ : ∀ (y0 : Int32) (y1 : mH), Q y0 y1 → Q' y0 y1) : w_X10_timeBy a0 a1 a2 h Q → w_X10_timeBy a0 a1 a2 h Q' := by
  unfold w_X10_timeBy
  repeat' (first | with_reducible exact hQ _ _ | with_reducible refine And.imp ?_ ?_ | with_reducible refine moI ?_ | with_reducible refine moA fun _ => ?_ | with_reducible refine Exists.imp fun _ => ?_ | with_reducible refine mo_J9_floorMod_7cf53 (fun _ _ => ?_) | with_reducible exact id | exact False.elim)
theorem mo_X10_timeAt {a1 : Int32} {a2 : Int32} {h : mH} {Q Q' : Int32 → mH → Prop} (hQ : ∀ (y0 : Int32) (y1 : mH), Q y0 y1 → Q' y0 y1) : w_X10_timeAt a1 a2 h Q → w_X10_timeAt a1 a2 h Q' := by
  unfold w_X10_timeAt
  repeat' (first | with_reducible exact hQ _ _ | with_reducible refine And.imp ?_ ?_ | with_reducible refine moI ?_ | with_reducible refine moA fun _ => ?_ | with_reducible refine Exists.imp fun _ => ?_ | with_reducible refine mo_X10_off (fun _ _ => ?_) | with_reducible refine mo_X10_gain (fun _ _ => ?_) | with_reducible refine mo_X10_timeBy (fun _ _ => ?_) | with_reducible exact id | exact False.elim)
theorem mo_X10_partOf {a0 : Int32} {a1 : Int32} {h : mH} {Q Q' : Int32 → mH → Prop} (hQ : ∀ (y0 : Int32) (y1 : mH), Q y0 y1 → Q' y0 y1) : w_X10_partOf a0 a1 h Q → w_X10_partOf a0 a1 h Q' := by
  unfold w_X10_partOf
  repeat' (first | with_reducible exact hQ _ _ | with_reducible refine And.imp ?_ ?_ | with_reducible refine moI ?_ | with_reducible refine moA fun _ => ?_ | with_reducible refine Exists.imp fun _ => ?_ | with_reducible exact id | exact False.elim)
theorem mo_X10_partAt {a1 : Int32} {a2 : Int32} {h : mH} {Q Q' : Int32 → mH → Prop} (hQ : ∀ (y0 : Int32) (y1 : mH), Q y0 y1 → Q' y0 y1) : w_X10_partAt a1 a2 h Q → w_X10_partAt a1 a2 h Q' := by
  unfold w_X10_partAt
  repeat' (first | with_reducible exact hQ _ _ | with_reducible refine And.imp ?_ ?_ | with_reducible refine moI ?_ | with_reducible refine moA fun _ => ?_ | with_reducible refine Exists.imp fun _ => ?_ | with_reducible refine mo_X10_timeAt (fun _ _ => ?_) | with_reducible refine mo_X10_partOf (fun _ _ => ?_) | with_reducible exact id | exact False.elim)
theorem mo_X10_isNear {a1 : Int32} {a2 : Int32} {h : mH} {Q Q' : Int32 → mH → Prop} (hQ : ∀ (y0 : Int32) (y1 : mH), Q y0 y1 → Q' y0 y1) : w_X10_isNear a1 a2 h Q → w_X10_isNear a1 a2 h Q' := by
  unfold w_X10_isNear
  repeat' (first | with_reducible exact hQ _ _ | with_reducible refine And.imp ?_ ?_ | with_reducible refine moI ?_ | with_reducible refine moA fun _ => ?_ | with_reducible refine Exists.imp fun _ => ?_ | with_reducible exact id | exact False.elim)
theorem mo_X3_strike_L23 {K82 K82' : mH → Prop} {Q Q' : mH → Prop} {l2 : Int32} {l3 : Int32} {l4 : Int32} {l5 : Int32} (hK82 : ∀ (y0 : mH), K82 y0 → K82' y0) (hQ : ∀ (y0 : mH), Q y0 → Q' y0) : ∀ (y0 : Nat) (y1 : Int32) (y2 : mH), w_X3_strike_L23 K82 Q l2 l3 l4 l5 y0 y1 y2 → w_X3_strike_L23 K82' Q' l2 l3 l4 l5 y0 y1 y2 := by
  intro n
  induction n with
  | zero => intro y1 y2; exact False.elim
  | succ n ih =>
    intro y1 y2
    unfold w_X3_strike_L23
    repeat' (first | with_reducible exact hK82 _ | with_reducible exact hQ _ | with_reducible exact ih _ _ | with_reducible refine And.imp ?_ ?_ | with_reducible refine moI ?_ | with_reducible refine moA fun _ => ?_ | with_reducible refine Exists.imp fun _ => ?_ | with_reducible refine mo_X10_partAt (fun _ _ => ?_) | with_reducible refine mo_X10_isNear (fun _ _ => ?_) | with_reducible exact id | exact False.elim)
theorem mo_X3_strike_L85 {K132 K132' : mH → Prop} {Q Q' : mH → Prop} {l4 : Int32} {l5 : Int32} (hK132 : ∀ (y0 : mH), K132 y0 → K132' y0) (hQ : ∀ (y0 : mH), Q y0 → Q' y0) : ∀ (y0 : Nat) (y1 : Int32) (y2 : mH), w_X3_strike_L85 K132 Q l4 l5 y0 y1 y2 → w_X3_strike_L85 K132' Q' l4 l5 y0 y1 y2 := by
  intro n
  induction n with
  | zero => intro y1 y2; exact False.elim
  | succ n ih =>
    intro y1 y2
    unfold w_X3_strike_L85
    repeat' (first | with_reducible exact hK132 _ | with_reducible exact hQ _ | with_reducible exact ih _ _ | with_reducible refine And.imp ?_ ?_ | with_reducible refine moI ?_ | with_reducible refine moA fun _ => ?_ | with_reducible refine Exists.imp fun _ => ?_ | with_reducible exact id | exact False.elim)
theorem mo_X3_strike {a2 : Int32} {a3 : Int32} {a4 : Int32} {a5 : Int32} {h : mH} {Q Q' : mH → Prop} (hQ : ∀ (y0 : mH), Q y0 → Q' y0) : w_X3_strike a2 a3 a4 a5 h Q → w_X3_strike a2 a3 a4 a5 h Q' := by
  unfold w_X3_strike
  repeat' (first | with_reducible exact hQ _ | with_reducible refine And.imp ?_ ?_ | with_reducible refine moI ?_ | with_reducible refine moA fun _ => ?_ | with_reducible refine Exists.imp fun _ => ?_ | with_reducible refine mo_X11_isSight (fun _ _ => ?_) | with_reducible refine mo_X3_strike_L23 (fun _ => ?_) (fun _ => ?_) _ _ _ | with_reducible refine mo_X3_strike_L85 (fun _ => ?_) (fun _ => ?_) _ _ _ | with_reducible exact id | exact False.elim)
theorem mo_X3_findAll_L7 {K61 K61' : mH → Prop} {Q Q' : mH → Prop} {l2 : Nat} {l3 : Int32} (hK61 : ∀ (y0 : mH), K61 y0 → K61' y0) (hQ : ∀ (y0 : mH), Q y0 → Q' y0) : ∀ (y0 : Nat) (y1 : Int32) (y2 : mH), w_X3_findAll_L7 K61 Q l2 l3 y0 y1 y2 → w_X3_findAll_L7 K61' Q' l2 l3 y0 y1 y2 := by
  intro n
  induction n with
  | zero => intro y1 y2; exact False.elim
  | succ n ih =>
    intro y1 y2
    unfold w_X3_findAll_L7
    repeat' (first | with_reducible exact hK61 _ | with_reducible exact hQ _ | with_reducible exact ih _ _ | with_reducible refine And.imp ?_ ?_ | with_reducible refine moI ?_ | with_reducible refine moA fun _ => ?_ | with_reducible refine Exists.imp fun _ => ?_ | with_reducible refine mo_X2_told (fun _ _ => ?_) | with_reducible refine mo_X3_strike (fun _ => ?_) | with_reducible exact id | exact False.elim)
theorem mo_X3_findAll {o2 : Nat} {a3 : Int32} {h : mH} {Q Q' : mH → Prop} (hQ : ∀ (y0 : mH), Q y0 → Q' y0) : w_X3_findAll o2 a3 h Q → w_X3_findAll o2 a3 h Q' := by
  unfold w_X3_findAll
  repeat' (first | with_reducible exact hQ _ | with_reducible refine And.imp ?_ ?_ | with_reducible refine moI ?_ | with_reducible refine moA fun _ => ?_ | with_reducible refine Exists.imp fun _ => ?_ | with_reducible refine mo_X3_startAnew (fun _ => ?_) | with_reducible refine mo_X3_findAll_L7 (fun _ => ?_) (fun _ => ?_) _ _ _ | with_reducible exact id | exact False.elim)
theorem mo_X3_howMany_L4 {K34 K34' : Int32 → mH → Prop} {Q Q' : Int32 → mH → Prop} (hK34 : ∀ (y0 : Int32) (y1 : mH), K34 y0 y1 → K34' y0 y1) (hQ : ∀ (y0 : Int32) (y1 : mH), Q y0 y1 → Q' y0 y1) : ∀ (y0 : Nat) (y1 : Int32) (y2 : Int32) (y3 : mH), w_X3_howMany_L4 K34 Q y0 y1 y2 y3 → w_X3_howMany_L4 K34' Q' y0 y1 y2 y3 := by
  intro n
  induction n with
  | zero => intro y1 y2 y3; exact False.elim
  | succ n ih =>
    intro y1 y2 y3
    unfold w_X3_howMany_L4
    repeat' (first | with_reducible exact hK34 _ _ | with_reducible exact hQ _ _ | with_reducible exact ih _ _ _ | with_reducible refine And.imp ?_ ?_ | with_reducible refine moI ?_ | with_reducible refine moA fun _ => ?_ | with_reducible refine Exists.imp fun _ => ?_ | with_reducible exact id | exact False.elim)
theorem mo_X3_howMany {h : mH} {Q Q' : Int32 → mH → Prop} (hQ : ∀ (y0 : Int32) (y1 : mH), Q y0 y1 → Q' y0 y1) : w_X3_howMany h Q → w_X3_howMany h Q' := by
  unfold w_X3_howMany
  repeat' (first | with_reducible exact hQ _ _ | with_reducible refine And.imp ?_ ?_ | with_reducible refine moI ?_ | with_reducible refine moA fun _ => ?_ | with_reducible refine Exists.imp fun _ => ?_ | with_reducible refine mo_X3_howMany_L4 (fun _ _ => ?_) (fun _ _ => ?_) _ _ _ _ | with_reducible exact id | exact False.elim)
theorem mo_X3_fitsOfWalker {a2 : Int32} {a3 : Int32} {h : mH} {Q Q' : Int32 → mH → Prop} (hQ : ∀ (y0 : Int32) (y1 : mH), Q y0 y1 → Q' y0 y1) : w_X3_fitsOfWalker a2 a3 h Q → w_X3_fitsOfWalker a2 a3 h Q' := by
  unfold w_X3_fitsOfWalker
  repeat' (first | with_reducible exact hQ _ _ | with_reducible refine And.imp ?_ ?_ | with_reducible refine moI ?_ | with_reducible refine moA fun _ => ?_ | with_reducible refine Exists.imp fun _ => ?_ | with_reducible refine mo_X3_startAnew (fun _ => ?_) | with_reducible refine mo_X10_partAt (fun _ _ => ?_) | with_reducible refine mo_X3_strike (fun _ => ?_) | with_reducible refine mo_X3_howMany (fun _ _ => ?_) | with_reducible exact id | exact False.elim)
theorem mo_X3_timeOf_L4 {K36 K36' : mH → Prop} {Q Q' : Int32 → mH → Prop} {l1 : Int32} (hK36 : ∀ (y0 : mH), K36 y0 → K36' y0) (hQ : ∀ (y0 : Int32) (y1 : mH), Q y0 y1 → Q' y0 y1) : ∀ (y0 : Nat) (y1 : Int32) (y2 : Int32) (y3 : mH), w_X3_timeOf_L4 K36 Q l1 y0 y1 y2 y3 → w_X3_timeOf_L4 K36' Q' l1 y0 y1 y2 y3 := by
  intro n
  induction n with
  | zero => intro y1 y2 y3; exact False.elim
  | succ n ih =>
    intro y1 y2 y3
    unfold w_X3_timeOf_L4
    repeat' (first | with_reducible exact hK36 _ | with_reducible exact hQ _ _ | with_reducible exact ih _ _ _ | with_reducible refine And.imp ?_ ?_ | with_reducible refine moI ?_ | with_reducible refine moA fun _ => ?_ | with_reducible refine Exists.imp fun _ => ?_ | with_reducible exact id | exact False.elim)
theorem mo_X3_timeOf {a1 : Int32} {h : mH} {Q Q' : Int32 → mH → Prop} (hQ : ∀ (y0 : Int32) (y1 : mH), Q y0 y1 → Q' y0 y1) : w_X3_timeOf a1 h Q → w_X3_timeOf a1 h Q' := by
  unfold w_X3_timeOf
  repeat' (first | with_reducible exact hQ _ _ | with_reducible refine And.imp ?_ ?_ | with_reducible refine moI ?_ | with_reducible refine moA fun _ => ?_ | with_reducible refine Exists.imp fun _ => ?_ | with_reducible refine mo_X3_timeOf_L4 (fun _ => ?_) (fun _ _ => ?_) _ _ _ _ | with_reducible exact id | exact False.elim)
theorem mo_X3_mostAlike_L3 {K24 K24' : mH → Prop} {Q Q' : Int32 → mH → Prop} {l2 : Int32} {l3 : Int32} (hK24 : ∀ (y0 : mH), K24 y0 → K24' y0) (hQ : ∀ (y0 : Int32) (y1 : mH), Q y0 y1 → Q' y0 y1) : ∀ (y0 : Nat) (y1 : Int32) (y2 : mH), w_X3_mostAlike_L3 K24 Q l2 l3 y0 y1 y2 → w_X3_mostAlike_L3 K24' Q' l2 l3 y0 y1 y2 := by
  intro n
  induction n with
  | zero => intro y1 y2; exact False.elim
  | succ n ih =>
    intro y1 y2
    unfold w_X3_mostAlike_L3
    repeat' (first | with_reducible exact hK24 _ | with_reducible exact hQ _ _ | with_reducible exact ih _ _ | with_reducible refine And.imp ?_ ?_ | with_reducible refine moI ?_ | with_reducible refine moA fun _ => ?_ | with_reducible refine Exists.imp fun _ => ?_ | with_reducible exact id | exact False.elim)
theorem mo_X3_mostAlike_L30 {K98 K98' : Int32 → mH → Prop} {Q Q' : Int32 → mH → Prop} {l2 : Int32} {l3 : Int32} (hK98 : ∀ (y0 : Int32) (y1 : mH), K98 y0 y1 → K98' y0 y1) (hQ : ∀ (y0 : Int32) (y1 : mH), Q y0 y1 → Q' y0 y1) : ∀ (y0 : Nat) (y1 : Int32) (y2 : Int32) (y3 : mH), w_X3_mostAlike_L30 K98 Q l2 l3 y0 y1 y2 y3 → w_X3_mostAlike_L30 K98' Q' l2 l3 y0 y1 y2 y3 := by
  intro n
  induction n with
  | zero => intro y1 y2 y3; exact False.elim
  | succ n ih =>
    intro y1 y2 y3
    unfold w_X3_mostAlike_L30
    repeat' (first | with_reducible exact hK98 _ _ | with_reducible exact hQ _ _ | with_reducible exact ih _ _ _ | with_reducible refine And.imp ?_ ?_ | with_reducible refine moI ?_ | with_reducible refine moA fun _ => ?_ | with_reducible refine Exists.imp fun _ => ?_ | with_reducible refine mo_X10_partAt (fun _ _ => ?_) | with_reducible refine mo_X11_isPart (fun _ _ => ?_) | with_reducible exact id | exact False.elim)
theorem mo_X3_mostAlike {a2 : Int32} {a3 : Int32} {h : mH} {Q Q' : Int32 → mH → Prop} (hQ : ∀ (y0 : Int32) (y1 : mH), Q y0 y1 → Q' y0 y1) : w_X3_mostAlike a2 a3 h Q → w_X3_mostAlike a2 a3 h Q' := by
  unfold w_X3_mostAlike
  repeat' (first | with_reducible exact hQ _ _ | with_reducible refine And.imp ?_ ?_ | with_reducible refine moI ?_ | with_reducible refine moA fun _ => ?_ | with_reducible refine Exists.imp fun _ => ?_ | with_reducible refine mo_X3_mostAlike_L3 (fun _ => ?_) (fun _ _ => ?_) _ _ _ | with_reducible refine mo_X3_mostAlike_L30 (fun _ _ => ?_) (fun _ _ => ?_) _ _ _ _ | with_reducible exact id | exact False.elim)
theorem mo_X4_wrongBy_L6 {K80 K80' : Int32 → mH → Prop} {Q Q' : Int32 → mH → Prop} {l1 : Nat} {l2 : Int32} {l3 : Int32} {l4 : Int32} (hK80 : ∀ (y0 : Int32) (y1 : mH), K80 y0 y1 → K80' y0 y1) (hQ : ∀ (y0 : Int32) (y1 : mH), Q y0 y1 → Q' y0 y1) : ∀ (y0 : Nat) (y1 : Int32) (y2 : Int32) (y3 : mH), w_X4_wrongBy_L6 K80 Q l1 l2 l3 l4 y0 y1 y2 y3 → w_X4_wrongBy_L6 K80' Q' l1 l2 l3 l4 y0 y1 y2 y3 := by
  intro n
  induction n with
  | zero => intro y1 y2 y3; exact False.elim
  | succ n ih =>
    intro y1 y2 y3
    unfold w_X4_wrongBy_L6
    repeat' (first | with_reducible exact hK80 _ _ | with_reducible exact hQ _ _ | with_reducible exact ih _ _ _ | with_reducible refine And.imp ?_ ?_ | with_reducible refine moI ?_ | with_reducible refine moA fun _ => ?_ | with_reducible refine Exists.imp fun _ => ?_ | with_reducible refine mo_X2_told (fun _ _ => ?_) | with_reducible refine mo_X10_timeBy (fun _ _ => ?_) | with_reducible refine mo_X10_partOf (fun _ _ => ?_) | with_reducible refine mo_X10_isNear (fun _ _ => ?_) | with_reducible exact id | exact False.elim)
theorem mo_X4_wrongBy {o1 : Nat} {a2 : Int32} {a3 : Int32} {a4 : Int32} {h : mH} {Q Q' : Int32 → mH → Prop} (hQ : ∀ (y0 : Int32) (y1 : mH), Q y0 y1 → Q' y0 y1) : w_X4_wrongBy o1 a2 a3 a4 h Q → w_X4_wrongBy o1 a2 a3 a4 h Q' := by
  unfold w_X4_wrongBy
  repeat' (first | with_reducible exact hQ _ _ | with_reducible refine And.imp ?_ ?_ | with_reducible refine moI ?_ | with_reducible refine moA fun _ => ?_ | with_reducible refine Exists.imp fun _ => ?_ | with_reducible refine mo_X4_wrongBy_L6 (fun _ _ => ?_) (fun _ _ => ?_) _ _ _ _ | with_reducible exact id | exact False.elim)
theorem mo_X4_note_J114 {Q Q' : mH → Prop} {l2 : Int32} {l3 : Int32} {k1 : Int32} {k2 : Int32} {h : mH} (hQ : ∀ (y0 : mH), Q y0 → Q' y0) : w_X4_note_J114 Q l2 l3 k1 k2 h → w_X4_note_J114 Q' l2 l3 k1 k2 h := by
  unfold w_X4_note_J114
  repeat' (first | with_reducible exact hQ _ | with_reducible refine And.imp ?_ ?_ | with_reducible refine moI ?_ | with_reducible refine moA fun _ => ?_ | with_reducible refine Exists.imp fun _ => ?_ | with_reducible exact id | exact False.elim)
theorem mo_X4_note_J90 {Q Q' : mH → Prop} {l2 : Int32} {l3 : Int32} {k1 : Int32} {k2 : Int32} {h : mH} (hQ : ∀ (y0 : mH), Q y0 → Q' y0) : w_X4_note_J90 Q l2 l3 k1 k2 h → w_X4_note_J90 Q' l2 l3 k1 k2 h := by
  unfold w_X4_note_J90
  repeat' (first | with_reducible exact hQ _ | with_reducible refine And.imp ?_ ?_ | with_reducible refine moI ?_ | with_reducible refine moA fun _ => ?_ | with_reducible refine Exists.imp fun _ => ?_ | with_reducible refine mo_X4_note_J114 (fun _ => ?_) | with_reducible exact id | exact False.elim)
theorem mo_X4_note_J66 {Q Q' : mH → Prop} {l1 : Int32} {l2 : Int32} {l3 : Int32} {k1 : Int32} {k2 : Int32} {h : mH} (hQ : ∀ (y0 : mH), Q y0 → Q' y0) : w_X4_note_J66 Q l1 l2 l3 k1 k2 h → w_X4_note_J66 Q' l1 l2 l3 k1 k2 h := by
  unfold w_X4_note_J66
  repeat' (first | with_reducible exact hQ _ | with_reducible refine And.imp ?_ ?_ | with_reducible refine moI ?_ | with_reducible refine moA fun _ => ?_ | with_reducible refine Exists.imp fun _ => ?_ | with_reducible refine mo_X4_note_J90 (fun _ => ?_) | with_reducible exact id | exact False.elim)
theorem mo_X4_note_J43 {Q Q' : mH → Prop} {l1 : Int32} {l2 : Int32} {l3 : Int32} {h : mH} (hQ : ∀ (y0 : mH), Q y0 → Q' y0) : w_X4_note_J43 Q l1 l2 l3 h → w_X4_note_J43 Q' l1 l2 l3 h := by
  unfold w_X4_note_J43
  repeat' (first | with_reducible exact hQ _ | with_reducible refine And.imp ?_ ?_ | with_reducible refine moI ?_ | with_reducible refine moA fun _ => ?_ | with_reducible refine Exists.imp fun _ => ?_ | with_reducible refine mo_X4_note_J66 (fun _ => ?_) | with_reducible exact id | exact False.elim)
theorem mo_X4_note {a1 : Int32} {a2 : Int32} {h : mH} {Q Q' : mH → Prop} (hQ : ∀ (y0 : mH), Q y0 → Q' y0) : w_X4_note a1 a2 h Q → w_X4_note a1 a2 h Q' := by
  unfold w_X4_note
  repeat' (first | with_reducible exact hQ _ | with_reducible refine And.imp ?_ ?_ | with_reducible refine moI ?_ | with_reducible refine moA fun _ => ?_ | with_reducible refine Exists.imp fun _ => ?_ | with_reducible refine mo_X4_note_J43 (fun _ => ?_) | with_reducible exact id | exact False.elim)
theorem mo_X4_find_L22 {K56 K56' : mH → Prop} {Q Q' : mH → Prop} {l2 : Nat} {l3 : Int32} {l4 : Int32} (hK56 : ∀ (y0 : mH), K56 y0 → K56' y0) (hQ : ∀ (y0 : mH), Q y0 → Q' y0) : ∀ (y0 : Nat) (y1 : Int32) (y2 : mH), w_X4_find_L22 K56 Q l2 l3 l4 y0 y1 y2 → w_X4_find_L22 K56' Q' l2 l3 l4 y0 y1 y2 := by
  intro n
  induction n with
  | zero => intro y1 y2; exact False.elim
  | succ n ih =>
    intro y1 y2
    unfold w_X4_find_L22
    repeat' (first | with_reducible exact hK56 _ | with_reducible exact hQ _ | with_reducible exact ih _ _ | with_reducible refine And.imp ?_ ?_ | with_reducible refine moI ?_ | with_reducible refine moA fun _ => ?_ | with_reducible refine Exists.imp fun _ => ?_ | with_reducible refine mo_X4_wrongBy (fun _ _ => ?_) | with_reducible refine mo_X4_note (fun _ => ?_) | with_reducible exact id | exact False.elim)
theorem mo_X4_find_L11 {K62 K62' : mH → Prop} {Q Q' : mH → Prop} {l2 : Nat} {l3 : Int32} (hK62 : ∀ (y0 : mH), K62 y0 → K62' y0) (hQ : ∀ (y0 : mH), Q y0 → Q' y0) : ∀ (y0 : Nat) (y1 : Int32) (y2 : mH), w_X4_find_L11 K62 Q l2 l3 y0 y1 y2 → w_X4_find_L11 K62' Q' l2 l3 y0 y1 y2 := by
  intro n
  induction n with
  | zero => intro y1 y2; exact False.elim
  | succ n ih =>
    intro y1 y2
    unfold w_X4_find_L11
    repeat' (first | with_reducible exact hK62 _ | with_reducible exact hQ _ | with_reducible exact ih _ _ | with_reducible refine And.imp ?_ ?_ | with_reducible refine moI ?_ | with_reducible refine moA fun _ => ?_ | with_reducible refine Exists.imp fun _ => ?_ | with_reducible refine mo_X4_find_L22 (fun _ => ?_) (fun _ => ?_) _ _ _ | with_reducible exact id | exact False.elim)
theorem mo_X4_find {o2 : Nat} {a3 : Int32} {h : mH} {Q Q' : mH → Prop} (hQ : ∀ (y0 : mH), Q y0 → Q' y0) : w_X4_find o2 a3 h Q → w_X4_find o2 a3 h Q' := by
  unfold w_X4_find
  repeat' (first | with_reducible exact hQ _ | with_reducible refine And.imp ?_ ?_ | with_reducible refine moI ?_ | with_reducible refine moA fun _ => ?_ | with_reducible refine Exists.imp fun _ => ?_ | with_reducible refine mo_X4_find_L11 (fun _ => ?_) (fun _ => ?_) _ _ _ | with_reducible exact id | exact False.elim)
theorem mo_J6_bitCount_0f7a4 {a0 : Int32} {h : mH} {Q Q' : Int32 → mH → Prop} (hQ : ∀ (y0 : Int32) (y1 : mH), Q y0 y1 → Q' y0 y1) : w_J6_bitCount_0f7a4 a0 h Q → w_J6_bitCount_0f7a4 a0 h Q' := by
  unfold w_J6_bitCount_0f7a4
  repeat' (first | with_reducible exact hQ _ _ | with_reducible refine And.imp ?_ ?_ | with_reducible refine moI ?_ | with_reducible refine moA fun _ => ?_ | with_reducible refine Exists.imp fun _ => ?_ | with_reducible exact id | exact False.elim)
theorem mo_X4_fewestWrong_L24 {K80 K80' : Int32 → mH → Prop} {Q Q' : Int32 → mH → Prop} {l1 : Nat} {l2 : Int32} {l4 : Int32} (hK80 : ∀ (y0 : Int32) (y1 : mH), K80 y0 y1 → K80' y0 y1) (hQ : ∀ (y0 : Int32) (y1 : mH), Q y0 y1 → Q' y0 y1) : ∀ (y0 : Nat) (y1 : Int32) (y2 : Int32) (y3 : mH), w_X4_fewestWrong_L24 K80 Q l1 l2 l4 y0 y1 y2 y3 → w_X4_fewestWrong_L24 K80' Q' l1 l2 l4 y0 y1 y2 y3 := by
  intro n
  induction n with
  | zero => intro y1 y2 y3; exact False.elim
  | succ n ih =>
    intro y1 y2 y3
    unfold w_X4_fewestWrong_L24
    repeat' (first | with_reducible exact hK80 _ _ | with_reducible exact hQ _ _ | with_reducible exact ih _ _ _ | with_reducible refine And.imp ?_ ?_ | with_reducible refine moI ?_ | with_reducible refine moA fun _ => ?_ | with_reducible refine Exists.imp fun _ => ?_ | with_reducible refine mo_X4_wrongBy (fun _ _ => ?_) | with_reducible refine mo_J6_bitCount_0f7a4 (fun _ _ => ?_) | with_reducible exact id | exact False.elim)
theorem mo_X4_fewestWrong_L13 {K86 K86' : Int32 → mH → Prop} {Q Q' : Int32 → mH → Prop} {l1 : Nat} {l2 : Int32} (hK86 : ∀ (y0 : Int32) (y1 : mH), K86 y0 y1 → K86' y0 y1) (hQ : ∀ (y0 : Int32) (y1 : mH), Q y0 y1 → Q' y0 y1) : ∀ (y0 : Nat) (y1 : Int32) (y2 : Int32) (y3 : mH), w_X4_fewestWrong_L13 K86 Q l1 l2 y0 y1 y2 y3 → w_X4_fewestWrong_L13 K86' Q' l1 l2 y0 y1 y2 y3 := by
  intro n
  induction n with
  | zero => intro y1 y2 y3; exact False.elim
  | succ n ih =>
    intro y1 y2 y3
    unfold w_X4_fewestWrong_L13
    repeat' (first | with_reducible exact hK86 _ _ | with_reducible exact hQ _ _ | with_reducible exact ih _ _ _ | with_reducible refine And.imp ?_ ?_ | with_reducible refine moI ?_ | with_reducible refine moA fun _ => ?_ | with_reducible refine Exists.imp fun _ => ?_ | with_reducible refine mo_X4_fewestWrong_L24 (fun _ _ => ?_) (fun _ _ => ?_) _ _ _ _ | with_reducible exact id | exact False.elim)
theorem mo_X4_fewestWrong {o1 : Nat} {a2 : Int32} {h : mH} {Q Q' : Int32 → mH → Prop} (hQ : ∀ (y0 : Int32) (y1 : mH), Q y0 y1 → Q' y0 y1) : w_X4_fewestWrong o1 a2 h Q → w_X4_fewestWrong o1 a2 h Q' := by
  unfold w_X4_fewestWrong
  repeat' (first | with_reducible exact hQ _ _ | with_reducible refine And.imp ?_ ?_ | with_reducible refine moI ?_ | with_reducible refine moA fun _ => ?_ | with_reducible refine Exists.imp fun _ => ?_ | with_reducible refine mo_X4_wrongBy (fun _ _ => ?_) | with_reducible refine mo_X4_fewestWrong_L13 (fun _ _ => ?_) (fun _ _ => ?_) _ _ _ _ | with_reducible exact id | exact False.elim)
theorem mo_X8_takeByte {a1 : Int32} {h : mH} {Q Q' : Int32 → mH → Prop} (hQ : ∀ (y0 : Int32) (y1 : mH), Q y0 y1 → Q' y0 y1) : w_X8_takeByte a1 h Q → w_X8_takeByte a1 h Q' := by
  unfold w_X8_takeByte
  repeat' (first | with_reducible exact hQ _ _ | with_reducible refine And.imp ?_ ?_ | with_reducible refine moI ?_ | with_reducible refine moA fun _ => ?_ | with_reducible refine Exists.imp fun _ => ?_ | with_reducible exact id | exact False.elim)
theorem mo_X6_takeByte {a1 : Int32} {h : mH} {Q Q' : Int32 → mH → Prop} (hQ : ∀ (y0 : Int32) (y1 : mH), Q y0 y1 → Q' y0 y1) : w_X6_takeByte a1 h Q → w_X6_takeByte a1 h Q' := by
  unfold w_X6_takeByte
  repeat' (first | with_reducible exact hQ _ _ | with_reducible refine And.imp ?_ ?_ | with_reducible refine moI ?_ | with_reducible refine moA fun _ => ?_ | with_reducible refine Exists.imp fun _ => ?_ | with_reducible refine mo_X8_takeByte (fun _ _ => ?_) | with_reducible exact id | exact False.elim)
theorem mo_X6_bytesOnTape {h : mH} {Q Q' : Int32 → mH → Prop} (hQ : ∀ (y0 : Int32) (y1 : mH), Q y0 y1 → Q' y0 y1) : w_X6_bytesOnTape h Q → w_X6_bytesOnTape h Q' := by
  unfold w_X6_bytesOnTape
  repeat' (first | with_reducible exact hQ _ _ | with_reducible refine And.imp ?_ ?_ | with_reducible refine moI ?_ | with_reducible refine moA fun _ => ?_ | with_reducible refine Exists.imp fun _ => ?_ | with_reducible exact id | exact False.elim)
theorem mo_X8_here {h : mH} {Q Q' : Int32 → mH → Prop} (hQ : ∀ (y0 : Int32) (y1 : mH), Q y0 y1 → Q' y0 y1) : w_X8_here h Q → w_X8_here h Q' := by
  unfold w_X8_here
  repeat' (first | with_reducible exact hQ _ _ | with_reducible refine And.imp ?_ ?_ | with_reducible refine moI ?_ | with_reducible refine moA fun _ => ?_ | with_reducible refine Exists.imp fun _ => ?_ | with_reducible exact id | exact False.elim)
theorem mo_X8_rankOf {a0 : Int32} {h : mH} {Q Q' : Int32 → mH → Prop} (hQ : ∀ (y0 : Int32) (y1 : mH), Q y0 y1 → Q' y0 y1) : w_X8_rankOf a0 h Q → w_X8_rankOf a0 h Q' := by
  unfold w_X8_rankOf
  repeat' (first | with_reducible exact hQ _ _ | with_reducible refine And.imp ?_ ?_ | with_reducible refine moI ?_ | with_reducible refine moA fun _ => ?_ | with_reducible refine Exists.imp fun _ => ?_ | with_reducible exact id | exact False.elim)
theorem mo_X7_add {o0 : Nat} {a1 : Int32} {a2 : Int32} {h : mH} {Q Q' : mH → Prop} (hQ : ∀ (y0 : mH), Q y0 → Q' y0) : w_X7_add o0 a1 a2 h Q → w_X7_add o0 a1 a2 h Q' := by
  unfold w_X7_add
  repeat' (first | with_reducible exact hQ _ | with_reducible refine And.imp ?_ ?_ | with_reducible refine moI ?_ | with_reducible refine moA fun _ => ?_ | with_reducible refine Exists.imp fun _ => ?_ | with_reducible exact id | exact False.elim)
theorem mo_X8_number_L4 {K56 K56' : Int32 → mH → Prop} {Q Q' : mH → Prop} (hK56 : ∀ (y0 : Int32) (y1 : mH), K56 y0 y1 → K56' y0 y1) (hQ : ∀ (y0 : mH), Q y0 → Q' y0) : ∀ (y0 : Nat) (y1 : Int32) (y2 : Int32) (y3 : mH), w_X8_number_L4 K56 Q y0 y1 y2 y3 → w_X8_number_L4 K56' Q' y0 y1 y2 y3 := by
  intro n
  induction n with
  | zero => intro y1 y2 y3; exact False.elim
  | succ n ih =>
    intro y1 y2 y3
    unfold w_X8_number_L4
    repeat' (first | with_reducible exact hK56 _ _ | with_reducible exact hQ _ | with_reducible exact ih _ _ _ | with_reducible refine And.imp ?_ ?_ | with_reducible refine moI ?_ | with_reducible refine moA fun _ => ?_ | with_reducible refine Exists.imp fun _ => ?_ | with_reducible refine mo_X8_here (fun _ _ => ?_) | with_reducible exact id | exact False.elim)
theorem mo_X8_number {h : mH} {Q Q' : mH → Prop} (hQ : ∀ (y0 : mH), Q y0 → Q' y0) : w_X8_number h Q → w_X8_number h Q' := by
  unfold w_X8_number
  repeat' (first | with_reducible exact hQ _ | with_reducible refine And.imp ?_ ?_ | with_reducible refine moI ?_ | with_reducible refine moA fun _ => ?_ | with_reducible refine Exists.imp fun _ => ?_ | with_reducible refine mo_X8_number_L4 (fun _ _ => ?_) (fun _ => ?_) _ _ _ _ | with_reducible refine mo_X7_add (fun _ => ?_) | with_reducible exact id | exact False.elim)
theorem mo_X8_takes {a1 : Int32} {h : mH} {Q Q' : Int32 → mH → Prop} (hQ : ∀ (y0 : Int32) (y1 : mH), Q y0 y1 → Q' y0 y1) : w_X8_takes a1 h Q → w_X8_takes a1 h Q' := by
  unfold w_X8_takes
  repeat' (first | with_reducible exact hQ _ _ | with_reducible refine And.imp ?_ ?_ | with_reducible refine moI ?_ | with_reducible refine moA fun _ => ?_ | with_reducible refine Exists.imp fun _ => ?_ | with_reducible refine mo_X8_here (fun _ _ => ?_) | with_reducible exact id | exact False.elim)
theorem mo_X8_close {h : mH} {Q Q' : mH → Prop} (hQ : ∀ (y0 : mH), Q y0 → Q' y0) : w_X8_close h Q → w_X8_close h Q' := by
  unfold w_X8_close
  repeat' (first | with_reducible exact hQ _ | with_reducible refine And.imp ?_ ?_ | with_reducible refine moI ?_ | with_reducible refine moA fun _ => ?_ | with_reducible refine Exists.imp fun _ => ?_ | with_reducible refine mo_X8_takes (fun _ _ => ?_) | with_reducible exact id | exact False.elim)
theorem mo_X8_joined_J50 {R_X8_joined : Int32 → Int32 → mH → (mH → Prop) → Prop} {R_X8_operand : Int32 → mH → (mH → Prop) → Prop} {K21 K21' : Int32 → mH → Prop} {Q Q' : mH → Prop} {l1 : Int32} {l2 : Int32} {l3 : Int32} {h : mH} (hR_X8_joined : ∀ (y0 : Int32) (y1 : Int32) (y2 : mH) (P P' : mH → Prop), (∀ (z0 : mH), P z0 → P' z0) → R_X8_joined y0 y1 y2 P → R_X8_joined y0 y1 y2 P') (hR_X8_operand : ∀ (y0 : Int32) (y1 : mH) (P P' : mH → Prop), (∀ (z0 : mH), P z0 → P' z0) → R_X8_operand y0 y1 P → R_X8_operand y0 y1 P') (hK21 : ∀ (y0 : Int32) (y1 : mH), K21 y0 y1 → K21' y0 y1) (hQ : ∀ (y0 : mH), Q y0 → Q' y0) : w_X8_joined_J50 R_X8_joined R_X8_operand K21 Q l1 l2 l3 h → w_X8_joined_J50 R_X8_joined R_X8_operand K21' Q' l1 l2 l3 h := by
  unfold w_X8_joined_J50
  repeat' (first | with_reducible exact hK21 _ _ | with_reducible exact hQ _ | with_reducible refine And.imp ?_ ?_ | with_reducible refine moI ?_ | with_reducible refine moA fun _ => ?_ | with_reducible refine Exists.imp fun _ => ?_ | with_reducible refine mo_X8_here (fun _ _ => ?_) | with_reducible refine hR_X8_joined _ _ _ _ _ (fun _ => ?_) | with_reducible refine mo_X7_add (fun _ => ?_) | with_reducible exact id | exact False.elim)
theorem mo_X8_joined_L21 {R_X8_joined : Int32 → Int32 → mH → (mH → Prop) → Prop} {R_X8_operand : Int32 → mH → (mH → Prop) → Prop} {K90 K90' : mH → Prop} {Q Q' : mH → Prop} {l1 : Int32} {l2 : Int32} (hR_X8_joined : ∀ (y0 : Int32) (y1 : Int32) (y2 : mH) (P P' : mH → Prop), (∀ (z0 : mH), P z0 → P' z0) → R_X8_joined y0 y1 y2 P → R_X8_joined y0 y1 y2 P') (hR_X8_operand : ∀ (y0 : Int32) (y1 : mH) (P P' : mH → Prop), (∀ (z0 : mH), P z0 → P' z0) → R_X8_operand y0 y1 P → R_X8_operand y0 y1 P') (hK90 : ∀ (y0 : mH), K90 y0 → K90' y0) (hQ : ∀ (y0 : mH), Q y0 → Q' y0) : ∀ (y0 : Nat) (y1 : Int32) (y2 : mH), w_X8_joined_L21 R_X8_joined R_X8_operand K90 Q l1 l2 y0 y1 y2 → w_X8_joined_L21 R_X8_joined R_X8_operand K90' Q' l1 l2 y0 y1 y2 := by
  intro n
  induction n with
  | zero => intro y1 y2; exact False.elim
  | succ n ih =>
    intro y1 y2
    unfold w_X8_joined_L21
    repeat' (first | with_reducible exact hK90 _ | with_reducible exact hQ _ | with_reducible exact ih _ _ | with_reducible refine And.imp ?_ ?_ | with_reducible refine moI ?_ | with_reducible refine moA fun _ => ?_ | with_reducible refine Exists.imp fun _ => ?_ | with_reducible refine mo_X8_here (fun _ _ => ?_) | with_reducible refine mo_X8_rankOf (fun _ _ => ?_) | with_reducible refine mo_X8_joined_J50 hR_X8_joined hR_X8_operand (fun _ _ => ?_) (fun _ => ?_) | with_reducible refine hR_X8_joined _ _ _ _ _ (fun _ => ?_) | with_reducible refine hR_X8_operand _ _ _ _ (fun _ => ?_) | with_reducible exact id | exact False.elim)
theorem mo_wb_X8_joined {R_X8_joined : Int32 → Int32 → mH → (mH → Prop) → Prop} {R_X8_operand : Int32 → mH → (mH → Prop) → Prop} {a1 : Int32} {a2 : Int32} {h : mH} {Q Q' : mH → Prop} (hR_X8_joined : ∀ (y0 : Int32) (y1 : Int32) (y2 : mH) (P P' : mH → Prop), (∀ (z0 : mH), P z0 → P' z0) → R_X8_joined y0 y1 y2 P → R_X8_joined y0 y1 y2 P') (hR_X8_operand : ∀ (y0 : Int32) (y1 : mH) (P P' : mH → Prop), (∀ (z0 : mH), P z0 → P' z0) → R_X8_operand y0 y1 P → R_X8_operand y0 y1 P') (hQ : ∀ (y0 : mH), Q y0 → Q' y0) : wb_X8_joined R_X8_joined R_X8_operand a1 a2 h Q → wb_X8_joined R_X8_joined R_X8_operand a1 a2 h Q' := by
  unfold wb_X8_joined
  repeat' (first | with_reducible exact hQ _ | with_reducible refine And.imp ?_ ?_ | with_reducible refine moI ?_ | with_reducible refine moA fun _ => ?_ | with_reducible refine Exists.imp fun _ => ?_ | with_reducible refine hR_X8_joined _ _ _ _ _ (fun _ => ?_) | with_reducible refine mo_X8_joined_L21 hR_X8_joined hR_X8_operand (fun _ => ?_) (fun _ => ?_) _ _ _ | with_reducible refine hR_X8_operand _ _ _ _ (fun _ => ?_) | with_reducible exact id | exact False.elim)
theorem mo_X8_operand_J54 {R_X8_joined : Int32 → Int32 → mH → (mH → Prop) → Prop} {R_X8_operand : Int32 → mH → (mH → Prop) → Prop} {Q Q' : mH → Prop} {l2 : Int32} {h : mH} (hR_X8_joined : ∀ (y0 : Int32) (y1 : Int32) (y2 : mH) (P P' : mH → Prop), (∀ (z0 : mH), P z0 → P' z0) → R_X8_joined y0 y1 y2 P → R_X8_joined y0 y1 y2 P') (hR_X8_operand : ∀ (y0 : Int32) (y1 : mH) (P P' : mH → Prop), (∀ (z0 : mH), P z0 → P' z0) → R_X8_operand y0 y1 P → R_X8_operand y0 y1 P') (hQ : ∀ (y0 : mH), Q y0 → Q' y0) : w_X8_operand_J54 R_X8_joined R_X8_operand Q l2 h → w_X8_operand_J54 R_X8_joined R_X8_operand Q' l2 h := by
  unfold w_X8_operand_J54
  repeat' (first | with_reducible exact hQ _ | with_reducible refine And.imp ?_ ?_ | with_reducible refine moI ?_ | with_reducible refine moA fun _ => ?_ | with_reducible refine Exists.imp fun _ => ?_ | with_reducible refine mo_X7_add (fun _ => ?_) | with_reducible exact id | exact False.elim)
theorem mo_X8_operand_J125 {R_X8_joined : Int32 → Int32 → mH → (mH → Prop) → Prop} {R_X8_operand : Int32 → mH → (mH → Prop) → Prop} {Q Q' : mH → Prop} {l1 : Int32} {l2 : Int32} {h : mH} (hR_X8_joined : ∀ (y0 : Int32) (y1 : Int32) (y2 : mH) (P P' : mH → Prop), (∀ (z0 : mH), P z0 → P' z0) → R_X8_joined y0 y1 y2 P → R_X8_joined y0 y1 y2 P') (hR_X8_operand : ∀ (y0 : Int32) (y1 : mH) (P P' : mH → Prop), (∀ (z0 : mH), P z0 → P' z0) → R_X8_operand y0 y1 P → R_X8_operand y0 y1 P') (hQ : ∀ (y0 : mH), Q y0 → Q' y0) : w_X8_operand_J125 R_X8_joined R_X8_operand Q l1 l2 h → w_X8_operand_J125 R_X8_joined R_X8_operand Q' l1 l2 h := by
  unfold w_X8_operand_J125
  repeat' (first | with_reducible exact hQ _ | with_reducible refine And.imp ?_ ?_ | with_reducible refine moI ?_ | with_reducible refine moA fun _ => ?_ | with_reducible refine Exists.imp fun _ => ?_ | with_reducible refine hR_X8_operand _ _ _ _ (fun _ => ?_) | with_reducible refine mo_X7_add (fun _ => ?_) | with_reducible exact id | exact False.elim)
theorem mo_X8_operand_J113 {R_X8_joined : Int32 → Int32 → mH → (mH → Prop) → Prop} {R_X8_operand : Int32 → mH → (mH → Prop) → Prop} {Q Q' : mH → Prop} {l1 : Int32} {l2 : Int32} {h : mH} (hR_X8_joined : ∀ (y0 : Int32) (y1 : Int32) (y2 : mH) (P P' : mH → Prop), (∀ (z0 : mH), P z0 → P' z0) → R_X8_joined y0 y1 y2 P → R_X8_joined y0 y1 y2 P') (hR_X8_operand : ∀ (y0 : Int32) (y1 : mH) (P P' : mH → Prop), (∀ (z0 : mH), P z0 → P' z0) → R_X8_operand y0 y1 P → R_X8_operand y0 y1 P') (hQ : ∀ (y0 : mH), Q y0 → Q' y0) : w_X8_operand_J113 R_X8_joined R_X8_operand Q l1 l2 h → w_X8_operand_J113 R_X8_joined R_X8_operand Q' l1 l2 h := by
  unfold w_X8_operand_J113
  repeat' (first | with_reducible exact hQ _ | with_reducible refine And.imp ?_ ?_ | with_reducible refine moI ?_ | with_reducible refine moA fun _ => ?_ | with_reducible refine Exists.imp fun _ => ?_ | with_reducible refine mo_X8_operand_J125 hR_X8_joined hR_X8_operand (fun _ => ?_) | with_reducible refine hR_X8_joined _ _ _ _ _ (fun _ => ?_) | with_reducible refine hR_X8_operand _ _ _ _ (fun _ => ?_) | with_reducible exact id | exact False.elim)
theorem mo_X8_operand_J24 {R_X8_joined : Int32 → Int32 → mH → (mH → Prop) → Prop} {R_X8_operand : Int32 → mH → (mH → Prop) → Prop} {Q Q' : mH → Prop} {l1 : Int32} {l2 : Int32} {h : mH} (hR_X8_joined : ∀ (y0 : Int32) (y1 : Int32) (y2 : mH) (P P' : mH → Prop), (∀ (z0 : mH), P z0 → P' z0) → R_X8_joined y0 y1 y2 P → R_X8_joined y0 y1 y2 P') (hR_X8_operand : ∀ (y0 : Int32) (y1 : mH) (P P' : mH → Prop), (∀ (z0 : mH), P z0 → P' z0) → R_X8_operand y0 y1 P → R_X8_operand y0 y1 P') (hQ : ∀ (y0 : mH), Q y0 → Q' y0) : w_X8_operand_J24 R_X8_joined R_X8_operand Q l1 l2 h → w_X8_operand_J24 R_X8_joined R_X8_operand Q' l1 l2 h := by
  unfold w_X8_operand_J24
  repeat' (first | with_reducible exact hQ _ | with_reducible refine And.imp ?_ ?_ | with_reducible refine moI ?_ | with_reducible refine moA fun _ => ?_ | with_reducible refine Exists.imp fun _ => ?_ | with_reducible refine mo_X8_operand_J54 hR_X8_joined hR_X8_operand (fun _ => ?_) | with_reducible refine hR_X8_joined _ _ _ _ _ (fun _ => ?_) | with_reducible refine hR_X8_operand _ _ _ _ (fun _ => ?_) | with_reducible refine mo_X8_operand_J113 hR_X8_joined hR_X8_operand (fun _ => ?_) | with_reducible refine mo_X8_close (fun _ => ?_) | with_reducible exact id | exact False.elim)
theorem mo_wb_X8_operand {R_X8_joined : Int32 → Int32 → mH → (mH → Prop) → Prop} {R_X8_operand : Int32 → mH → (mH → Prop) → Prop} {a1 : Int32} {h : mH} {Q Q' : mH → Prop} (hR_X8_joined : ∀ (y0 : Int32) (y1 : Int32) (y2 : mH) (P P' : mH → Prop), (∀ (z0 : mH), P z0 → P' z0) → R_X8_joined y0 y1 y2 P → R_X8_joined y0 y1 y2 P') (hR_X8_operand : ∀ (y0 : Int32) (y1 : mH) (P P' : mH → Prop), (∀ (z0 : mH), P z0 → P' z0) → R_X8_operand y0 y1 P → R_X8_operand y0 y1 P') (hQ : ∀ (y0 : mH), Q y0 → Q' y0) : wb_X8_operand R_X8_joined R_X8_operand a1 h Q → wb_X8_operand R_X8_joined R_X8_operand a1 h Q' := by
  unfold wb_X8_operand
  repeat' (first | with_reducible exact hQ _ | with_reducible refine And.imp ?_ ?_ | with_reducible refine moI ?_ | with_reducible refine moA fun _ => ?_ | with_reducible refine Exists.imp fun _ => ?_ | with_reducible refine mo_X8_here (fun _ _ => ?_) | with_reducible refine mo_X8_operand_J24 hR_X8_joined hR_X8_operand (fun _ => ?_) | with_reducible refine hR_X8_joined _ _ _ _ _ (fun _ => ?_) | with_reducible refine hR_X8_operand _ _ _ _ (fun _ => ?_) | with_reducible refine mo_X8_number (fun _ => ?_) | with_reducible exact id | exact False.elim)
theorem mo_wr_0 : ∀ N : Nat, (∀ (y0 : Int32) (y1 : Int32) (y2 : mH) (P P' : mH → Prop), (∀ (z0 : mH), P z0 → P' z0) → (wr_0 N).1 y0 y1 y2 P → (wr_0 N).1 y0 y1 y2 P') ∧ (∀ (y0 : Int32) (y1 : mH) (P P' : mH → Prop), (∀ (z0 : mH), P z0 → P' z0) → (wr_0 N).2 y0 y1 P → (wr_0 N).2 y0 y1 P') := by
  intro N
  induction N with
  | zero => exact ⟨fun _ _ _ _ _ _ z => z, fun _ _ _ _ _ z => z⟩
  | succ N ih => exact ⟨fun _ _ _ _ _ hP => mo_wb_X8_joined ih.1 ih.2 hP, fun _ _ _ _ hP => mo_wb_X8_operand ih.1 ih.2 hP⟩
theorem mo_X8_line {h : mH} {Q Q' : mH → Prop} (hQ : ∀ (y0 : mH), Q y0 → Q' y0) : w_X8_line h Q → w_X8_line h Q' := by
  unfold w_X8_line
  repeat' (first | with_reducible exact hQ _ | with_reducible refine And.imp ?_ ?_ | with_reducible refine moI ?_ | with_reducible refine moA fun _ => ?_ | with_reducible refine Exists.imp fun _ => ?_ | with_reducible refine (mo_wr_0 _).1 _ _ _ _ _ (fun _ => ?_) | with_reducible refine mo_X8_takes (fun _ _ => ?_) | with_reducible refine mo_X7_add (fun _ => ?_) | with_reducible exact id | exact False.elim)
theorem mo_X8_read_L24 {K51 K51' : mH → Prop} {Q Q' : Int32 → mH → Prop} (hK51 : ∀ (y0 : mH), K51 y0 → K51' y0) (hQ : ∀ (y0 : Int32) (y1 : mH), Q y0 y1 → Q' y0 y1) : ∀ (y0 : Nat) (y1 : Int32) (y2 : mH), w_X8_read_L24 K51 Q y0 y1 y2 → w_X8_read_L24 K51' Q' y0 y1 y2 := by
  intro n
  induction n with
  | zero => intro y1 y2; exact False.elim
  | succ n ih =>
    intro y1 y2
    unfold w_X8_read_L24
    repeat' (first | with_reducible exact hK51 _ | with_reducible exact hQ _ _ | with_reducible exact ih _ _ | with_reducible refine And.imp ?_ ?_ | with_reducible refine moI ?_ | with_reducible refine moA fun _ => ?_ | with_reducible refine Exists.imp fun _ => ?_ | with_reducible refine mo_X8_takes (fun _ _ => ?_) | with_reducible refine mo_X8_line (fun _ => ?_) | with_reducible exact id | exact False.elim)
theorem mo_X8_read_J51 {Q Q' : Int32 → mH → Prop} {h : mH} (hQ : ∀ (y0 : Int32) (y1 : mH), Q y0 y1 → Q' y0 y1) : w_X8_read_J51 Q h → w_X8_read_J51 Q' h := by
  unfold w_X8_read_J51
  repeat' (first | with_reducible exact hQ _ _ | with_reducible refine And.imp ?_ ?_ | with_reducible refine moI ?_ | with_reducible refine moA fun _ => ?_ | with_reducible refine Exists.imp fun _ => ?_ | with_reducible exact id | exact False.elim)
theorem mo_X8_read {h : mH} {Q Q' : Int32 → mH → Prop} (hQ : ∀ (y0 : Int32) (y1 : mH), Q y0 y1 → Q' y0 y1) : w_X8_read h Q → w_X8_read h Q' := by
  unfold w_X8_read
  repeat' (first | with_reducible exact hQ _ _ | with_reducible refine And.imp ?_ ?_ | with_reducible refine moI ?_ | with_reducible refine moA fun _ => ?_ | with_reducible refine Exists.imp fun _ => ?_ | with_reducible refine mo_X8_line (fun _ => ?_) | with_reducible refine mo_X8_read_L24 (fun _ => ?_) (fun _ _ => ?_) _ _ _ | with_reducible refine mo_X8_read_J51 (fun _ _ => ?_) | with_reducible exact id | exact False.elim)
theorem mo_X6_readTape {h : mH} {Q Q' : Int32 → mH → Prop} (hQ : ∀ (y0 : Int32) (y1 : mH), Q y0 y1 → Q' y0 y1) : w_X6_readTape h Q → w_X6_readTape h Q' := by
  unfold w_X6_readTape
  repeat' (first | with_reducible exact hQ _ _ | with_reducible refine And.imp ?_ ?_ | with_reducible refine moI ?_ | with_reducible refine moA fun _ => ?_ | with_reducible refine Exists.imp fun _ => ?_ | with_reducible refine mo_X8_read (fun _ _ => ?_) | with_reducible exact id | exact False.elim)
theorem mo_X6_isName {a0 : Int32} {h : mH} {Q Q' : Int32 → mH → Prop} (hQ : ∀ (y0 : Int32) (y1 : mH), Q y0 y1 → Q' y0 y1) : w_X6_isName a0 h Q → w_X6_isName a0 h Q' := by
  unfold w_X6_isName
  repeat' (first | with_reducible exact hQ _ _ | with_reducible refine And.imp ?_ ?_ | with_reducible refine moI ?_ | with_reducible refine moA fun _ => ?_ | with_reducible refine Exists.imp fun _ => ?_ | with_reducible exact id | exact False.elim)
theorem mo_X6_named {a0 : Int32} {a1 : Int32} {a2 : Int32} {a3 : Int32} {h : mH} {Q Q' : Int32 → mH → Prop} (hQ : ∀ (y0 : Int32) (y1 : mH), Q y0 y1 → Q' y0 y1) : w_X6_named a0 a1 a2 a3 h Q → w_X6_named a0 a1 a2 a3 h Q' := by
  unfold w_X6_named
  repeat' (first | with_reducible exact hQ _ _ | with_reducible refine And.imp ?_ ?_ | with_reducible refine moI ?_ | with_reducible refine moA fun _ => ?_ | with_reducible refine Exists.imp fun _ => ?_ | with_reducible exact id | exact False.elim)
theorem mo_X6_push {a1 : Int32} {a2 : Int32} {h : mH} {Q Q' : Int32 → mH → Prop} (hQ : ∀ (y0 : Int32) (y1 : mH), Q y0 y1 → Q' y0 y1) : w_X6_push a1 a2 h Q → w_X6_push a1 a2 h Q' := by
  unfold w_X6_push
  repeat' (first | with_reducible exact hQ _ _ | with_reducible refine And.imp ?_ ?_ | with_reducible refine moI ?_ | with_reducible refine moA fun _ => ?_ | with_reducible refine Exists.imp fun _ => ?_ | with_reducible exact id | exact False.elim)
theorem mo_X6_joined {a0 : Int32} {a1 : Int32} {a2 : Int32} {h : mH} {Q Q' : Int32 → mH → Prop} (hQ : ∀ (y0 : Int32) (y1 : mH), Q y0 y1 → Q' y0 y1) : w_X6_joined a0 a1 a2 h Q → w_X6_joined a0 a1 a2 h Q' := by
  unfold w_X6_joined
  repeat' (first | with_reducible exact hQ _ _ | with_reducible refine And.imp ?_ ?_ | with_reducible refine moI ?_ | with_reducible refine moA fun _ => ?_ | with_reducible refine Exists.imp fun _ => ?_ | with_reducible exact id | exact False.elim)
theorem mo_X6_workOut_J55 {Q Q' : Int32 → mH → Prop} {l1 : Int32} {l2 : Int32} {h : mH} (hQ : ∀ (y0 : Int32) (y1 : mH), Q y0 y1 → Q' y0 y1) : w_X6_workOut_J55 Q l1 l2 h → w_X6_workOut_J55 Q' l1 l2 h := by
  unfold w_X6_workOut_J55
  repeat' (first | with_reducible exact hQ _ _ | with_reducible refine And.imp ?_ ?_ | with_reducible refine moI ?_ | with_reducible refine moA fun _ => ?_ | with_reducible refine Exists.imp fun _ => ?_ | with_reducible refine mo_X6_joined (fun _ _ => ?_) | with_reducible exact id | exact False.elim)
theorem mo_X6_workOut_J16 {Q Q' : Int32 → mH → Prop} {l1 : Int32} {l2 : Int32} {h : mH} (hQ : ∀ (y0 : Int32) (y1 : mH), Q y0 y1 → Q' y0 y1) : w_X6_workOut_J16 Q l1 l2 h → w_X6_workOut_J16 Q' l1 l2 h := by
  unfold w_X6_workOut_J16
  repeat' (first | with_reducible exact hQ _ _ | with_reducible refine And.imp ?_ ?_ | with_reducible refine moI ?_ | with_reducible refine moA fun _ => ?_ | with_reducible refine Exists.imp fun _ => ?_ | with_reducible exact id | exact False.elim)
theorem mo_X6_workOut {a1 : Int32} {a2 : Int32} {h : mH} {Q Q' : Int32 → mH → Prop} (hQ : ∀ (y0 : Int32) (y1 : mH), Q y0 y1 → Q' y0 y1) : w_X6_workOut a1 a2 h Q → w_X6_workOut a1 a2 h Q' := by
  unfold w_X6_workOut
  repeat' (first | with_reducible exact hQ _ _ | with_reducible refine And.imp ?_ ?_ | with_reducible refine moI ?_ | with_reducible refine moA fun _ => ?_ | with_reducible refine Exists.imp fun _ => ?_ | with_reducible refine mo_X6_workOut_J55 (fun _ _ => ?_) | with_reducible refine mo_X6_workOut_J16 (fun _ _ => ?_) | with_reducible exact id | exact False.elim)
theorem mo_X6_valueOf_L9 {K62 K62' : Int32 → mH → Prop} {K189 K189' : mH → Prop} {Q Q' : Int32 → mH → Prop} {l1 : Int32} {l2 : Int32} {l3 : Int32} (hK62 : ∀ (y0 : Int32) (y1 : mH), K62 y0 y1 → K62' y0 y1) (hK189 : ∀ (y0 : mH), K189 y0 → K189' y0) (hQ : ∀ (y0 : Int32) (y1 : mH), Q y0 y1 → Q' y0 y1) : ∀ (y0 : Nat) (y1 : Int32) (y2 : Int32) (y3 : Int32) (y4 : mH), w_X6_valueOf_L9 K62 K189 Q l1 l2 l3 y0 y1 y2 y3 y4 → w_X6_valueOf_L9 K62' K189' Q' l1 l2 l3 y0 y1 y2 y3 y4 := by
  intro n
  induction n with
  | zero => intro y1 y2 y3 y4; exact False.elim
  | succ n ih =>
    intro y1 y2 y3 y4
    unfold w_X6_valueOf_L9
    repeat' (first | with_reducible exact hK62 _ _ | with_reducible exact hK189 _ | with_reducible exact hQ _ _ | with_reducible exact ih _ _ _ _ | with_reducible refine And.imp ?_ ?_ | with_reducible refine moI ?_ | with_reducible refine moA fun _ => ?_ | with_reducible refine Exists.imp fun _ => ?_ | with_reducible refine mo_X6_isName (fun _ _ => ?_) | with_reducible refine mo_X6_workOut (fun _ _ => ?_) | with_reducible refine mo_X6_push (fun _ _ => ?_) | with_reducible refine mo_X6_named (fun _ _ => ?_) | with_reducible exact id | exact False.elim)
theorem mo_X6_valueOf {a1 : Int32} {a2 : Int32} {a3 : Int32} {h : mH} {Q Q' : Int32 → mH → Prop} (hQ : ∀ (y0 : Int32) (y1 : mH), Q y0 y1 → Q' y0 y1) : w_X6_valueOf a1 a2 a3 h Q → w_X6_valueOf a1 a2 a3 h Q' := by
  unfold w_X6_valueOf
  repeat' (first | with_reducible exact hQ _ _ | with_reducible refine And.imp ?_ ?_ | with_reducible refine moI ?_ | with_reducible refine moA fun _ => ?_ | with_reducible refine Exists.imp fun _ => ?_ | with_reducible refine mo_X6_valueOf_L9 (fun _ _ => ?_) (fun _ => ?_) (fun _ _ => ?_) _ _ _ _ _ | with_reducible exact id | exact False.elim)
theorem mo_X6_weightOf {a1 : Int32} {a2 : Int32} {a3 : Int32} {h : mH} {Q Q' : Int32 → mH → Prop} (hQ : ∀ (y0 : Int32) (y1 : mH), Q y0 y1 → Q' y0 y1) : w_X6_weightOf a1 a2 a3 h Q → w_X6_weightOf a1 a2 a3 h Q' := by
  unfold w_X6_weightOf
  repeat' (first | with_reducible exact hQ _ _ | with_reducible refine And.imp ?_ ?_ | with_reducible refine moI ?_ | with_reducible refine moA fun _ => ?_ | with_reducible refine Exists.imp fun _ => ?_ | with_reducible refine mo_X6_valueOf (fun _ _ => ?_) | with_reducible exact id | exact False.elim)
theorem mo_X9_holdsRow {o0 : Nat} {a1 : Int32} {h : mH} {Q Q' : Int32 → mH → Prop} (hQ : ∀ (y0 : Int32) (y1 : mH), Q y0 y1 → Q' y0 y1) : w_X9_holdsRow o0 a1 h Q → w_X9_holdsRow o0 a1 h Q' := by
  unfold w_X9_holdsRow
  repeat' (first | with_reducible exact hQ _ _ | with_reducible refine And.imp ?_ ?_ | with_reducible refine moI ?_ | with_reducible refine moA fun _ => ?_ | with_reducible refine Exists.imp fun _ => ?_ | with_reducible exact id | exact False.elim)
theorem mo_X9_becomeRow_L17 {K36 K36' : mH → Prop} {Q Q' : mH → Prop} {l0 : Nat} (hK36 : ∀ (y0 : mH), K36 y0 → K36' y0) (hQ : ∀ (y0 : mH), Q y0 → Q' y0) : ∀ (y0 : Nat) (y1 : Int32) (y2 : mH), w_X9_becomeRow_L17 K36 Q l0 y0 y1 y2 → w_X9_becomeRow_L17 K36' Q' l0 y0 y1 y2 := by
  intro n
  induction n with
  | zero => intro y1 y2; exact False.elim
  | succ n ih =>
    intro y1 y2
    unfold w_X9_becomeRow_L17
    repeat' (first | with_reducible exact hK36 _ | with_reducible exact hQ _ | with_reducible exact ih _ _ | with_reducible refine And.imp ?_ ?_ | with_reducible refine moI ?_ | with_reducible refine moA fun _ => ?_ | with_reducible refine Exists.imp fun _ => ?_ | with_reducible exact id | exact False.elim)
theorem mo_X9_becomeRow {o0 : Nat} {a1 : Int32} {a2 : Int32} {h : mH} {Q Q' : mH → Prop} (hQ : ∀ (y0 : mH), Q y0 → Q' y0) : w_X9_becomeRow o0 a1 a2 h Q → w_X9_becomeRow o0 a1 a2 h Q' := by
  unfold w_X9_becomeRow
  repeat' (first | with_reducible exact hQ _ | with_reducible refine And.imp ?_ ?_ | with_reducible refine moI ?_ | with_reducible refine moA fun _ => ?_ | with_reducible refine Exists.imp fun _ => ?_ | with_reducible refine mo_X9_becomeRow_L17 (fun _ => ?_) (fun _ => ?_) _ _ _ | with_reducible exact id | exact False.elim)
theorem mo_X9_keptOf {o0 : Nat} {a1 : Int64} {h : mH} {Q Q' : Int64 → mH → Prop} (hQ : ∀ (y0 : Int64) (y1 : mH), Q y0 y1 → Q' y0 y1) : w_X9_keptOf o0 a1 h Q → w_X9_keptOf o0 a1 h Q' := by
  unfold w_X9_keptOf
  repeat' (first | with_reducible exact hQ _ _ | with_reducible refine And.imp ?_ ?_ | with_reducible refine moI ?_ | with_reducible refine moA fun _ => ?_ | with_reducible refine Exists.imp fun _ => ?_ | with_reducible exact id | exact False.elim)
theorem mo_X10_placeOf_J9 {Q Q' : Int32 → mH → Prop} {l0 : Int32} {l1 : Int32} {h : mH} (hQ : ∀ (y0 : Int32) (y1 : mH), Q y0 y1 → Q' y0 y1) : w_X10_placeOf_J9 Q l0 l1 h → w_X10_placeOf_J9 Q' l0 l1 h := by
  unfold w_X10_placeOf_J9
  repeat' (first | with_reducible exact hQ _ _ | with_reducible refine And.imp ?_ ?_ | with_reducible refine moI ?_ | with_reducible refine moA fun _ => ?_ | with_reducible refine Exists.imp fun _ => ?_ | with_reducible refine mo_X11_isClock (fun _ _ => ?_) | with_reducible exact id | exact False.elim)
theorem mo_X10_placeOf {a0 : Int32} {a1 : Int32} {h : mH} {Q Q' : Int32 → mH → Prop} (hQ : ∀ (y0 : Int32) (y1 : mH), Q y0 y1 → Q' y0 y1) : w_X10_placeOf a0 a1 h Q → w_X10_placeOf a0 a1 h Q' := by
  unfold w_X10_placeOf
  repeat' (first | with_reducible exact hQ _ _ | with_reducible refine And.imp ?_ ?_ | with_reducible refine moI ?_ | with_reducible refine moA fun _ => ?_ | with_reducible refine Exists.imp fun _ => ?_ | with_reducible refine mo_X10_placeOf_J9 (fun _ _ => ?_) | with_reducible exact id | exact False.elim)
theorem mo_X10_allows {a1 : Int32} {a2 : Int32} {h : mH} {Q Q' : Int32 → mH → Prop} (hQ : ∀ (y0 : Int32) (y1 : mH), Q y0 y1 → Q' y0 y1) : w_X10_allows a1 a2 h Q → w_X10_allows a1 a2 h Q' := by
  unfold w_X10_allows
  repeat' (first | with_reducible exact hQ _ _ | with_reducible refine And.imp ?_ ?_ | with_reducible refine moI ?_ | with_reducible refine moA fun _ => ?_ | with_reducible refine Exists.imp fun _ => ?_ | with_reducible exact id | exact False.elim)
theorem mo_X10_err {h : mH} {Q Q' : Int32 → mH → Prop} (hQ : ∀ (y0 : Int32) (y1 : mH), Q y0 y1 → Q' y0 y1) : w_X10_err h Q → w_X10_err h Q' := by
  unfold w_X10_err
  repeat' (first | with_reducible exact hQ _ _ | with_reducible refine And.imp ?_ ?_ | with_reducible refine moI ?_ | with_reducible refine moA fun _ => ?_ | with_reducible refine Exists.imp fun _ => ?_ | with_reducible exact id | exact False.elim)
theorem mo_X10_offToShow {a1 : Int32} {a2 : Int32} {a3 : Int32} {h : mH} {Q Q' : Int32 → mH → Prop} (hQ : ∀ (y0 : Int32) (y1 : mH), Q y0 y1 → Q' y0 y1) : w_X10_offToShow a1 a2 a3 h Q → w_X10_offToShow a1 a2 a3 h Q' := by
  unfold w_X10_offToShow
  repeat' (first | with_reducible exact hQ _ _ | with_reducible refine And.imp ?_ ?_ | with_reducible refine moI ?_ | with_reducible refine moA fun _ => ?_ | with_reducible refine Exists.imp fun _ => ?_ | with_reducible refine mo_X10_gain (fun _ _ => ?_) | with_reducible refine mo_X10_timeBy (fun _ _ => ?_) | with_reducible refine mo_J9_floorMod_7cf53 (fun _ _ => ?_) | with_reducible exact id | exact False.elim)
theorem mo_X10_firstMinute_L3 {K33 K33' : mH → Prop} {Q Q' : Int32 → mH → Prop} {l1 : Int32} {l2 : Int32} {l3 : Int32} (hK33 : ∀ (y0 : mH), K33 y0 → K33' y0) (hQ : ∀ (y0 : Int32) (y1 : mH), Q y0 y1 → Q' y0 y1) : ∀ (y0 : Nat) (y1 : Int32) (y2 : mH), w_X10_firstMinute_L3 K33 Q l1 l2 l3 y0 y1 y2 → w_X10_firstMinute_L3 K33' Q' l1 l2 l3 y0 y1 y2 := by
  intro n
  induction n with
  | zero => intro y1 y2; exact False.elim
  | succ n ih =>
    intro y1 y2
    unfold w_X10_firstMinute_L3
    repeat' (first | with_reducible exact hK33 _ | with_reducible exact hQ _ _ | with_reducible exact ih _ _ | with_reducible refine And.imp ?_ ?_ | with_reducible refine moI ?_ | with_reducible refine moA fun _ => ?_ | with_reducible refine Exists.imp fun _ => ?_ | with_reducible refine mo_X10_partAt (fun _ _ => ?_) | with_reducible exact id | exact False.elim)
theorem mo_X10_firstMinute {a1 : Int32} {a2 : Int32} {a3 : Int32} {h : mH} {Q Q' : Int32 → mH → Prop} (hQ : ∀ (y0 : Int32) (y1 : mH), Q y0 y1 → Q' y0 y1) : w_X10_firstMinute a1 a2 a3 h Q → w_X10_firstMinute a1 a2 a3 h Q' := by
  unfold w_X10_firstMinute
  repeat' (first | with_reducible exact hQ _ _ | with_reducible refine And.imp ?_ ?_ | with_reducible refine moI ?_ | with_reducible refine moA fun _ => ?_ | with_reducible refine Exists.imp fun _ => ?_ | with_reducible refine mo_X10_firstMinute_L3 (fun _ => ?_) (fun _ _ => ?_) _ _ _ | with_reducible exact id | exact False.elim)
theorem mo_X10_walkOf {a1 : Int32} {h : mH} {Q Q' : Int32 → mH → Prop} (hQ : ∀ (y0 : Int32) (y1 : mH), Q y0 y1 → Q' y0 y1) : w_X10_walkOf a1 h Q → w_X10_walkOf a1 h Q' := by
  unfold w_X10_walkOf
  repeat' (first | with_reducible exact hQ _ _ | with_reducible refine And.imp ?_ ?_ | with_reducible refine moI ?_ | with_reducible refine moA fun _ => ?_ | with_reducible refine Exists.imp fun _ => ?_ | with_reducible exact id | exact False.elim)
theorem mo_X11_mend {a1 : Int32} {a2 : Int32} {a3 : Int32} {h : mH} {Q Q' : Int32 → mH → Prop} (hQ : ∀ (y0 : Int32) (y1 : mH), Q y0 y1 → Q' y0 y1) : w_X11_mend a1 a2 a3 h Q → w_X11_mend a1 a2 a3 h Q' := by
  unfold w_X11_mend
  repeat' (first | with_reducible exact hQ _ _ | with_reducible refine And.imp ?_ ?_ | with_reducible refine moI ?_ | with_reducible refine moA fun _ => ?_ | with_reducible refine Exists.imp fun _ => ?_ | with_reducible refine mo_X10_placeOf (fun _ _ => ?_) | with_reducible refine mo_X10_allows (fun _ _ => ?_) | with_reducible refine mo_X1_add (fun _ => ?_) | with_reducible exact id | exact False.elim)
theorem mo_X11_of {a1 : Int32} {a2 : Int32} {h : mH} {Q Q' : Int32 → mH → Prop} (hQ : ∀ (y0 : Int32) (y1 : mH), Q y0 y1 → Q' y0 y1) : w_X11_of a1 a2 h Q → w_X11_of a1 a2 h Q' := by
  unfold w_X11_of
  repeat' (first | with_reducible exact hQ _ _ | with_reducible refine And.imp ?_ ?_ | with_reducible refine moI ?_ | with_reducible refine moA fun _ => ?_ | with_reducible refine Exists.imp fun _ => ?_ | with_reducible refine mo_X10_placeOf (fun _ _ => ?_) | with_reducible refine mo_X2_told (fun _ _ => ?_) | with_reducible exact id | exact False.elim)
theorem mo_X11_isMinute {a0 : Int32} {h : mH} {Q Q' : Int32 → mH → Prop} (hQ : ∀ (y0 : Int32) (y1 : mH), Q y0 y1 → Q' y0 y1) : w_X11_isMinute a0 h Q → w_X11_isMinute a0 h Q' := by
  unfold w_X11_isMinute
  repeat' (first | with_reducible exact hQ _ _ | with_reducible refine And.imp ?_ ?_ | with_reducible refine moI ?_ | with_reducible refine moA fun _ => ?_ | with_reducible refine Exists.imp fun _ => ?_ | with_reducible exact id | exact False.elim)
theorem mo_X11_shown {a1 : Int32} {a2 : Int32} {a3 : Int32} {h : mH} {Q Q' : Int32 → mH → Prop} (hQ : ∀ (y0 : Int32) (y1 : mH), Q y0 y1 → Q' y0 y1) : w_X11_shown a1 a2 a3 h Q → w_X11_shown a1 a2 a3 h Q' := by
  unfold w_X11_shown
  repeat' (first | with_reducible exact hQ _ _ | with_reducible refine And.imp ?_ ?_ | with_reducible refine moI ?_ | with_reducible refine moA fun _ => ?_ | with_reducible refine Exists.imp fun _ => ?_ | with_reducible refine mo_X11_isClock (fun _ _ => ?_) | with_reducible refine mo_X11_isMinute (fun _ _ => ?_) | with_reducible refine mo_X11_isOneOf (fun _ _ => ?_) | with_reducible refine mo_X10_partAt (fun _ _ => ?_) | with_reducible refine mo_X10_timeAt (fun _ _ => ?_) | with_reducible exact id | exact False.elim)
theorem mo_X11_feed {a1 : Int32} {h : mH} {Q Q' : Int32 → mH → Prop} (hQ : ∀ (y0 : Int32) (y1 : mH), Q y0 y1 → Q' y0 y1) : w_X11_feed a1 h Q → w_X11_feed a1 h Q' := by
  unfold w_X11_feed
  repeat' (first | with_reducible exact hQ _ _ | with_reducible refine And.imp ?_ ?_ | with_reducible refine moI ?_ | with_reducible refine moA fun _ => ?_ | with_reducible refine Exists.imp fun _ => ?_ | with_reducible refine mo_X6_takeByte (fun _ _ => ?_) | with_reducible exact id | exact False.elim)
theorem mo_X11_law {h : mH} {Q Q' : Int32 → mH → Prop} (hQ : ∀ (y0 : Int32) (y1 : mH), Q y0 y1 → Q' y0 y1) : w_X11_law h Q → w_X11_law h Q' := by
  unfold w_X11_law
  repeat' (first | with_reducible exact hQ _ _ | with_reducible refine And.imp ?_ ?_ | with_reducible refine moI ?_ | with_reducible refine moA fun _ => ?_ | with_reducible refine Exists.imp fun _ => ?_ | with_reducible refine mo_X6_readTape (fun _ _ => ?_) | with_reducible exact id | exact False.elim)
theorem mo_X11_isTime {a0 : Int32} {h : mH} {Q Q' : Int32 → mH → Prop} (hQ : ∀ (y0 : Int32) (y1 : mH), Q y0 y1 → Q' y0 y1) : w_X11_isTime a0 h Q → w_X11_isTime a0 h Q' := by
  unfold w_X11_isTime
  repeat' (first | with_reducible exact hQ _ _ | with_reducible refine And.imp ?_ ?_ | with_reducible refine moI ?_ | with_reducible refine moA fun _ => ?_ | with_reducible refine Exists.imp fun _ => ?_ | with_reducible refine mo_X11_isOneOf (fun _ _ => ?_) | with_reducible exact id | exact False.elim)
theorem mo_X11_weightOf {a1 : Int32} {h : mH} {Q Q' : Int32 → mH → Prop} (hQ : ∀ (y0 : Int32) (y1 : mH), Q y0 y1 → Q' y0 y1) : w_X11_weightOf a1 h Q → w_X11_weightOf a1 h Q' := by
  unfold w_X11_weightOf
  repeat' (first | with_reducible exact hQ _ _ | with_reducible refine And.imp ?_ ?_ | with_reducible refine moI ?_ | with_reducible refine moA fun _ => ?_ | with_reducible refine Exists.imp fun _ => ?_ | with_reducible refine mo_X10_err (fun _ _ => ?_) | with_reducible refine mo_X6_weightOf (fun _ _ => ?_) | with_reducible exact id | exact False.elim)
theorem mo_X11_weight {a1 : Int32} {h : mH} {Q Q' : Int32 → mH → Prop} (hQ : ∀ (y0 : Int32) (y1 : mH), Q y0 y1 → Q' y0 y1) : w_X11_weight a1 h Q → w_X11_weight a1 h Q' := by
  unfold w_X11_weight
  repeat' (first | with_reducible exact hQ _ _ | with_reducible refine And.imp ?_ ?_ | with_reducible refine moI ?_ | with_reducible refine moA fun _ => ?_ | with_reducible refine Exists.imp fun _ => ?_ | with_reducible refine mo_X11_isTime (fun _ _ => ?_) | with_reducible refine mo_X11_weightOf (fun _ _ => ?_) | with_reducible exact id | exact False.elim)
theorem mo_X11_sight {a1 : Int32} {a2 : Int32} {h : mH} {Q Q' : Int32 → mH → Prop} (hQ : ∀ (y0 : Int32) (y1 : mH), Q y0 y1 → Q' y0 y1) : w_X11_sight a1 a2 h Q → w_X11_sight a1 a2 h Q' := by
  unfold w_X11_sight
  repeat' (first | with_reducible exact hQ _ _ | with_reducible refine And.imp ?_ ?_ | with_reducible refine moI ?_ | with_reducible refine moA fun _ => ?_ | with_reducible refine Exists.imp fun _ => ?_ | with_reducible refine mo_X11_isSight (fun _ _ => ?_) | with_reducible refine mo_X2_isFull (fun _ _ => ?_) | with_reducible refine mo_X2_add (fun _ _ => ?_) | with_reducible exact id | exact False.elim)
theorem mo_X11_isShelf {a0 : Int32} {h : mH} {Q Q' : Int32 → mH → Prop} (hQ : ∀ (y0 : Int32) (y1 : mH), Q y0 y1 → Q' y0 y1) : w_X11_isShelf a0 h Q → w_X11_isShelf a0 h Q' := by
  unfold w_X11_isShelf
  repeat' (first | with_reducible exact hQ _ _ | with_reducible refine And.imp ?_ ?_ | with_reducible refine moI ?_ | with_reducible refine moA fun _ => ?_ | with_reducible refine Exists.imp fun _ => ?_ | with_reducible refine mo_X11_isOneOf (fun _ _ => ?_) | with_reducible exact id | exact False.elim)
theorem mo_X11_sightsFrom_L6 {K124 K124' : mH → Prop} {Q Q' : Int32 → mH → Prop} {l1 : Nat} {l3 : Int32} (hK124 : ∀ (y0 : mH), K124 y0 → K124' y0) (hQ : ∀ (y0 : Int32) (y1 : mH), Q y0 y1 → Q' y0 y1) : ∀ (y0 : Nat) (y1 : Int32) (y2 : Int32) (y3 : mH), w_X11_sightsFrom_L6 K124 Q l1 l3 y0 y1 y2 y3 → w_X11_sightsFrom_L6 K124' Q' l1 l3 y0 y1 y2 y3 := by
  intro n
  induction n with
  | zero => intro y1 y2 y3; exact False.elim
  | succ n ih =>
    intro y1 y2 y3
    unfold w_X11_sightsFrom_L6
    repeat' (first | with_reducible exact hK124 _ | with_reducible exact hQ _ _ | with_reducible exact ih _ _ _ | with_reducible refine And.imp ?_ ?_ | with_reducible refine moI ?_ | with_reducible refine moA fun _ => ?_ | with_reducible refine Exists.imp fun _ => ?_ | with_reducible refine mo_X2_isFull (fun _ _ => ?_) | with_reducible refine mo_X11_isSight (fun _ _ => ?_) | with_reducible refine mo_X2_add (fun _ _ => ?_) | with_reducible exact id | exact False.elim)
theorem mo_X11_sightsFrom {o1 : Nat} {a2 : Int32} {a3 : Int32} {h : mH} {Q Q' : Int32 → mH → Prop} (hQ : ∀ (y0 : Int32) (y1 : mH), Q y0 y1 → Q' y0 y1) : w_X11_sightsFrom o1 a2 a3 h Q → w_X11_sightsFrom o1 a2 a3 h Q' := by
  unfold w_X11_sightsFrom
  repeat' (first | with_reducible exact hQ _ _ | with_reducible refine And.imp ?_ ?_ | with_reducible refine moI ?_ | with_reducible refine moA fun _ => ?_ | with_reducible refine Exists.imp fun _ => ?_ | with_reducible refine mo_X11_sightsFrom_L6 (fun _ => ?_) (fun _ _ => ?_) _ _ _ _ | with_reducible exact id | exact False.elim)
theorem mo_X11_sights {a1 : Int32} {a2 : Int32} {a3 : Int32} {h : mH} {Q Q' : Int32 → mH → Prop} (hQ : ∀ (y0 : Int32) (y1 : mH), Q y0 y1 → Q' y0 y1) : w_X11_sights a1 a2 a3 h Q → w_X11_sights a1 a2 a3 h Q' := by
  unfold w_X11_sights
  repeat' (first | with_reducible exact hQ _ _ | with_reducible refine And.imp ?_ ?_ | with_reducible refine moI ?_ | with_reducible refine moA fun _ => ?_ | with_reducible refine Exists.imp fun _ => ?_ | with_reducible refine mo_X11_isShelf (fun _ _ => ?_) | with_reducible refine mo_X9_holdsRow (fun _ _ => ?_) | with_reducible refine mo_X11_sightsFrom (fun _ _ => ?_) | with_reducible exact id | exact False.elim)
theorem mo_X11_forget {h : mH} {Q Q' : Int32 → mH → Prop} (hQ : ∀ (y0 : Int32) (y1 : mH), Q y0 y1 → Q' y0 y1) : w_X11_forget h Q → w_X11_forget h Q' := by
  unfold w_X11_forget
  repeat' (first | with_reducible exact hQ _ _ | with_reducible refine And.imp ?_ ?_ | with_reducible refine moI ?_ | with_reducible refine moA fun _ => ?_ | with_reducible refine Exists.imp fun _ => ?_ | with_reducible exact id | exact False.elim)
theorem mo_X11_fits {a1 : Int32} {h : mH} {Q Q' : Int32 → mH → Prop} (hQ : ∀ (y0 : Int32) (y1 : mH), Q y0 y1 → Q' y0 y1) : w_X11_fits a1 h Q → w_X11_fits a1 h Q' := by
  unfold w_X11_fits
  repeat' (first | with_reducible exact hQ _ _ | with_reducible refine And.imp ?_ ?_ | with_reducible refine moI ?_ | with_reducible refine moA fun _ => ?_ | with_reducible refine Exists.imp fun _ => ?_ | with_reducible refine mo_X3_findAll (fun _ => ?_) | with_reducible refine mo_X3_timeOf (fun _ _ => ?_) | with_reducible refine mo_X3_howMany (fun _ _ => ?_) | with_reducible exact id | exact False.elim)
theorem mo_X11_weightOfFits_L5 {K51 K51' : Int32 → mH → Prop} {Q Q' : Int32 → mH → Prop} {l2 : Int32} (hK51 : ∀ (y0 : Int32) (y1 : mH), K51 y0 y1 → K51' y0 y1) (hQ : ∀ (y0 : Int32) (y1 : mH), Q y0 y1 → Q' y0 y1) : ∀ (y0 : Nat) (y1 : Int32) (y2 : Int32) (y3 : mH), w_X11_weightOfFits_L5 K51 Q l2 y0 y1 y2 y3 → w_X11_weightOfFits_L5 K51' Q' l2 y0 y1 y2 y3 := by
  intro n
  induction n with
  | zero => intro y1 y2 y3; exact False.elim
  | succ n ih =>
    intro y1 y2 y3
    unfold w_X11_weightOfFits_L5
    repeat' (first | with_reducible exact hK51 _ _ | with_reducible exact hQ _ _ | with_reducible exact ih _ _ _ | with_reducible refine And.imp ?_ ?_ | with_reducible refine moI ?_ | with_reducible refine moA fun _ => ?_ | with_reducible refine Exists.imp fun _ => ?_ | with_reducible refine mo_X11_weightOf (fun _ _ => ?_) | with_reducible exact id | exact False.elim)
theorem mo_X11_weightOfFits {a1 : Int32} {a2 : Int32} {h : mH} {Q Q' : Int32 → mH → Prop} (hQ : ∀ (y0 : Int32) (y1 : mH), Q y0 y1 → Q' y0 y1) : w_X11_weightOfFits a1 a2 h Q → w_X11_weightOfFits a1 a2 h Q' := by
  unfold w_X11_weightOfFits
  repeat' (first | with_reducible exact hQ _ _ | with_reducible refine And.imp ?_ ?_ | with_reducible refine moI ?_ | with_reducible refine moA fun _ => ?_ | with_reducible refine Exists.imp fun _ => ?_ | with_reducible refine mo_X11_weightOfFits_L5 (fun _ _ => ?_) (fun _ _ => ?_) _ _ _ _ | with_reducible exact id | exact False.elim)
theorem mo_X11_commonMeasure_L7 {K34 K34' : Int32 → mH → Prop} {Q Q' : Int32 → mH → Prop} (hK34 : ∀ (y0 : Int32) (y1 : mH), K34 y0 y1 → K34' y0 y1) (hQ : ∀ (y0 : Int32) (y1 : mH), Q y0 y1 → Q' y0 y1) : ∀ (y0 : Nat) (y1 : Int32) (y2 : Int32) (y3 : Int32) (y4 : mH), w_X11_commonMeasure_L7 K34 Q y0 y1 y2 y3 y4 → w_X11_commonMeasure_L7 K34' Q' y0 y1 y2 y3 y4 := by
  intro n
  induction n with
  | zero => intro y1 y2 y3 y4; exact False.elim
  | succ n ih =>
    intro y1 y2 y3 y4
    unfold w_X11_commonMeasure_L7
    repeat' (first | with_reducible exact hK34 _ _ | with_reducible exact hQ _ _ | with_reducible exact ih _ _ _ _ | with_reducible refine And.imp ?_ ?_ | with_reducible refine moI ?_ | with_reducible refine moA fun _ => ?_ | with_reducible refine Exists.imp fun _ => ?_ | with_reducible exact id | exact False.elim)
theorem mo_X11_commonMeasure {a0 : Int32} {a1 : Int32} {h : mH} {Q Q' : Int32 → mH → Prop} (hQ : ∀ (y0 : Int32) (y1 : mH), Q y0 y1 → Q' y0 y1) : w_X11_commonMeasure a0 a1 h Q → w_X11_commonMeasure a0 a1 h Q' := by
  unfold w_X11_commonMeasure
  repeat' (first | with_reducible exact hQ _ _ | with_reducible refine And.imp ?_ ?_ | with_reducible refine moI ?_ | with_reducible refine moA fun _ => ?_ | with_reducible refine Exists.imp fun _ => ?_ | with_reducible refine mo_X11_commonMeasure_L7 (fun _ _ => ?_) (fun _ _ => ?_) _ _ _ _ _ | with_reducible exact id | exact False.elim)
theorem mo_X11_chance {a1 : Int32} {a2 : Int32} {h : mH} {Q Q' : Int32 → mH → Prop} (hQ : ∀ (y0 : Int32) (y1 : mH), Q y0 y1 → Q' y0 y1) : w_X11_chance a1 a2 h Q → w_X11_chance a1 a2 h Q' := by
  unfold w_X11_chance
  repeat' (first | with_reducible exact hQ _ _ | with_reducible refine And.imp ?_ ?_ | with_reducible refine moI ?_ | with_reducible refine moA fun _ => ?_ | with_reducible refine Exists.imp fun _ => ?_ | with_reducible refine mo_X11_isOneOf (fun _ _ => ?_) | with_reducible refine mo_X11_isTime (fun _ _ => ?_) | with_reducible refine mo_X3_findAll (fun _ => ?_) | with_reducible refine mo_X11_weightOfFits (fun _ _ => ?_) | with_reducible refine mo_X11_commonMeasure (fun _ _ => ?_) | with_reducible exact id | exact False.elim)
theorem mo_X11_likely_L23 {K66 K66' : Int32 → mH → Prop} {Q Q' : Int32 → mH → Prop} (hK66 : ∀ (y0 : Int32) (y1 : mH), K66 y0 y1 → K66' y0 y1) (hQ : ∀ (y0 : Int32) (y1 : mH), Q y0 y1 → Q' y0 y1) : ∀ (y0 : Nat) (y1 : Int32) (y2 : Int32) (y3 : Int32) (y4 : mH), w_X11_likely_L23 K66 Q y0 y1 y2 y3 y4 → w_X11_likely_L23 K66' Q' y0 y1 y2 y3 y4 := by
  intro n
  induction n with
  | zero => intro y1 y2 y3 y4; exact False.elim
  | succ n ih =>
    intro y1 y2 y3 y4
    unfold w_X11_likely_L23
    repeat' (first | with_reducible exact hK66 _ _ | with_reducible exact hQ _ _ | with_reducible exact ih _ _ _ _ | with_reducible refine And.imp ?_ ?_ | with_reducible refine moI ?_ | with_reducible refine moA fun _ => ?_ | with_reducible refine Exists.imp fun _ => ?_ | with_reducible refine mo_X11_weightOf (fun _ _ => ?_) | with_reducible exact id | exact False.elim)
theorem mo_X11_likely {h : mH} {Q Q' : Int32 → mH → Prop} (hQ : ∀ (y0 : Int32) (y1 : mH), Q y0 y1 → Q' y0 y1) : w_X11_likely h Q → w_X11_likely h Q' := by
  unfold w_X11_likely
  repeat' (first | with_reducible exact hQ _ _ | with_reducible refine And.imp ?_ ?_ | with_reducible refine moI ?_ | with_reducible refine moA fun _ => ?_ | with_reducible refine Exists.imp fun _ => ?_ | with_reducible refine mo_X3_findAll (fun _ => ?_) | with_reducible refine mo_X11_likely_L23 (fun _ _ => ?_) (fun _ _ => ?_) _ _ _ _ _ | with_reducible exact id | exact False.elim)
theorem mo_X11_tells {a1 : Int32} {h : mH} {Q Q' : Int32 → mH → Prop} (hQ : ∀ (y0 : Int32) (y1 : mH), Q y0 y1 → Q' y0 y1) : w_X11_tells a1 h Q → w_X11_tells a1 h Q' := by
  unfold w_X11_tells
  repeat' (first | with_reducible exact hQ _ _ | with_reducible refine And.imp ?_ ?_ | with_reducible refine moI ?_ | with_reducible refine moA fun _ => ?_ | with_reducible refine Exists.imp fun _ => ?_ | with_reducible refine mo_X11_isOneOf (fun _ _ => ?_) | with_reducible refine mo_X3_findAll (fun _ => ?_) | with_reducible refine mo_X3_howMany (fun _ _ => ?_) | with_reducible exact id | exact False.elim)
theorem mo_X11_next {a1 : Int32} {a2 : Int32} {h : mH} {Q Q' : Int32 → mH → Prop} (hQ : ∀ (y0 : Int32) (y1 : mH), Q y0 y1 → Q' y0 y1) : w_X11_next a1 a2 h Q → w_X11_next a1 a2 h Q' := by
  unfold w_X11_next
  repeat' (first | with_reducible exact hQ _ _ | with_reducible refine And.imp ?_ ?_ | with_reducible refine moI ?_ | with_reducible refine moA fun _ => ?_ | with_reducible refine Exists.imp fun _ => ?_ | with_reducible refine mo_X11_isOneOf (fun _ _ => ?_) | with_reducible refine mo_X3_findAll (fun _ => ?_) | with_reducible refine mo_X3_howMany (fun _ _ => ?_) | with_reducible refine mo_X3_mostAlike (fun _ _ => ?_) | with_reducible exact id | exact False.elim)
theorem mo_X11_drawn {a0 : Int32} {h : mH} {Q Q' : Int32 → mH → Prop} (hQ : ∀ (y0 : Int32) (y1 : mH), Q y0 y1 → Q' y0 y1) : w_X11_drawn a0 h Q → w_X11_drawn a0 h Q' := by
  unfold w_X11_drawn
  repeat' (first | with_reducible exact hQ _ _ | with_reducible refine And.imp ?_ ?_ | with_reducible refine moI ?_ | with_reducible refine moA fun _ => ?_ | with_reducible refine Exists.imp fun _ => ?_ | with_reducible exact id | exact False.elim)
theorem mo_X11_lot_L33 {K120 K120' : Int32 → Int32 → mH → Prop} {Q Q' : Int32 → mH → Prop} {l2 : Int32} {l3 : Int32} (hK120 : ∀ (y0 : Int32) (y1 : Int32) (y2 : mH), K120 y0 y1 y2 → K120' y0 y1 y2) (hQ : ∀ (y0 : Int32) (y1 : mH), Q y0 y1 → Q' y0 y1) : ∀ (y0 : Nat) (y1 : Int32) (y2 : Int32) (y3 : Int32) (y4 : Int32) (y5 : mH), w_X11_lot_L33 K120 Q l2 l3 y0 y1 y2 y3 y4 y5 → w_X11_lot_L33 K120' Q' l2 l3 y0 y1 y2 y3 y4 y5 := by
  intro n
  induction n with
  | zero => intro y1 y2 y3 y4 y5; exact False.elim
  | succ n ih =>
    intro y1 y2 y3 y4 y5
    unfold w_X11_lot_L33
    repeat' (first | with_reducible exact hK120 _ _ _ | with_reducible exact hQ _ _ | with_reducible exact ih _ _ _ _ _ | with_reducible refine And.imp ?_ ?_ | with_reducible refine moI ?_ | with_reducible refine moA fun _ => ?_ | with_reducible refine Exists.imp fun _ => ?_ | with_reducible refine mo_X11_drawn (fun _ _ => ?_) | with_reducible refine mo_X10_walkOf (fun _ _ => ?_) | with_reducible refine mo_X3_fitsOfWalker (fun _ _ => ?_) | with_reducible exact id | exact False.elim)
theorem mo_X11_lot {a1 : Int32} {a2 : Int32} {a3 : Int32} {h : mH} {Q Q' : Int32 → mH → Prop} (hQ : ∀ (y0 : Int32) (y1 : mH), Q y0 y1 → Q' y0 y1) : w_X11_lot a1 a2 a3 h Q → w_X11_lot a1 a2 a3 h Q' := by
  unfold w_X11_lot
  repeat' (first | with_reducible exact hQ _ _ | with_reducible refine And.imp ?_ ?_ | with_reducible refine moI ?_ | with_reducible refine moA fun _ => ?_ | with_reducible refine Exists.imp fun _ => ?_ | with_reducible refine mo_X11_isOneOf (fun _ _ => ?_) | with_reducible refine mo_X11_lot_L33 (fun _ _ _ => ?_) (fun _ _ => ?_) _ _ _ _ _ _ | with_reducible exact id | exact False.elim)
theorem mo_X11_gun {a1 : Int32} {a2 : Int32} {h : mH} {Q Q' : Int32 → mH → Prop} (hQ : ∀ (y0 : Int32) (y1 : mH), Q y0 y1 → Q' y0 y1) : w_X11_gun a1 a2 h Q → w_X11_gun a1 a2 h Q' := by
  unfold w_X11_gun
  repeat' (first | with_reducible exact hQ _ _ | with_reducible refine And.imp ?_ ?_ | with_reducible refine moI ?_ | with_reducible refine moA fun _ => ?_ | with_reducible refine Exists.imp fun _ => ?_ | with_reducible refine mo_X11_isClock (fun _ _ => ?_) | with_reducible refine mo_X11_isPart (fun _ _ => ?_) | with_reducible refine mo_X2_isFull (fun _ _ => ?_) | with_reducible refine mo_X2_add (fun _ _ => ?_) | with_reducible exact id | exact False.elim)
theorem mo_X11_guess {a1 : Int32} {a2 : Int32} {h : mH} {Q Q' : Int32 → mH → Prop} (hQ : ∀ (y0 : Int32) (y1 : mH), Q y0 y1 → Q' y0 y1) : w_X11_guess a1 a2 h Q → w_X11_guess a1 a2 h Q' := by
  unfold w_X11_guess
  repeat' (first | with_reducible exact hQ _ _ | with_reducible refine And.imp ?_ ?_ | with_reducible refine moI ?_ | with_reducible refine moA fun _ => ?_ | with_reducible refine Exists.imp fun _ => ?_ | with_reducible refine mo_X11_isClock (fun _ _ => ?_) | with_reducible refine mo_X11_isOneOf (fun _ _ => ?_) | with_reducible refine mo_X4_find (fun _ => ?_) | with_reducible exact id | exact False.elim)
theorem mo_X11_liars {a1 : Int32} {h : mH} {Q Q' : Int32 → mH → Prop} (hQ : ∀ (y0 : Int32) (y1 : mH), Q y0 y1 → Q' y0 y1) : w_X11_liars a1 h Q → w_X11_liars a1 h Q' := by
  unfold w_X11_liars
  repeat' (first | with_reducible exact hQ _ _ | with_reducible refine And.imp ?_ ?_ | with_reducible refine moI ?_ | with_reducible refine moA fun _ => ?_ | with_reducible refine Exists.imp fun _ => ?_ | with_reducible refine mo_X11_isClock (fun _ _ => ?_) | with_reducible refine mo_X4_fewestWrong (fun _ _ => ?_) | with_reducible exact id | exact False.elim)
theorem mo_X11_agree_L48 {K100 K100' : Int32 → Int32 → mH → Prop} {Q Q' : Int32 → mH → Prop} {l2 : Int32} {l3 : Int32} (hK100 : ∀ (y0 : Int32) (y1 : Int32) (y2 : mH), K100 y0 y1 y2 → K100' y0 y1 y2) (hQ : ∀ (y0 : Int32) (y1 : mH), Q y0 y1 → Q' y0 y1) : ∀ (y0 : Nat) (y1 : Int32) (y2 : Int32) (y3 : Int32) (y4 : mH), w_X11_agree_L48 K100 Q l2 l3 y0 y1 y2 y3 y4 → w_X11_agree_L48 K100' Q' l2 l3 y0 y1 y2 y3 y4 := by
  intro n
  induction n with
  | zero => intro y1 y2 y3 y4; exact False.elim
  | succ n ih =>
    intro y1 y2 y3 y4
    unfold w_X11_agree_L48
    repeat' (first | with_reducible exact hK100 _ _ _ | with_reducible exact hQ _ _ | with_reducible exact ih _ _ _ _ | with_reducible refine And.imp ?_ ?_ | with_reducible refine moI ?_ | with_reducible refine moA fun _ => ?_ | with_reducible refine Exists.imp fun _ => ?_ | with_reducible refine mo_X10_timeAt (fun _ _ => ?_) | with_reducible exact id | exact False.elim)
theorem mo_X11_agree {a1 : Int32} {a2 : Int32} {a3 : Int32} {h : mH} {Q Q' : Int32 → mH → Prop} (hQ : ∀ (y0 : Int32) (y1 : mH), Q y0 y1 → Q' y0 y1) : w_X11_agree a1 a2 a3 h Q → w_X11_agree a1 a2 a3 h Q' := by
  unfold w_X11_agree
  repeat' (first | with_reducible exact hQ _ _ | with_reducible refine And.imp ?_ ?_ | with_reducible refine moI ?_ | with_reducible refine moA fun _ => ?_ | with_reducible refine Exists.imp fun _ => ?_ | with_reducible refine mo_X11_isMinute (fun _ _ => ?_) | with_reducible refine mo_X11_isOneOf (fun _ _ => ?_) | with_reducible refine mo_X11_agree_L48 (fun _ _ _ => ?_) (fun _ _ => ?_) _ _ _ _ _ | with_reducible exact id | exact False.elim)
theorem mo_X11_meet {a1 : Int32} {a2 : Int32} {a3 : Int32} {h : mH} {Q Q' : Int32 → mH → Prop} (hQ : ∀ (y0 : Int32) (y1 : mH), Q y0 y1 → Q' y0 y1) : w_X11_meet a1 a2 a3 h Q → w_X11_meet a1 a2 a3 h Q' := by
  unfold w_X11_meet
  repeat' (first | with_reducible exact hQ _ _ | with_reducible refine And.imp ?_ ?_ | with_reducible refine moI ?_ | with_reducible refine moA fun _ => ?_ | with_reducible refine Exists.imp fun _ => ?_ | with_reducible refine mo_X11_isMinute (fun _ _ => ?_) | with_reducible refine mo_X11_isPart (fun _ _ => ?_) | with_reducible refine mo_X11_isOneOf (fun _ _ => ?_) | with_reducible refine mo_X10_firstMinute (fun _ _ => ?_) | with_reducible exact id | exact False.elim)
theorem mo_X11_round_L31 {K64 K64' : mH → Prop} {Q Q' : Int32 → mH → Prop} {l2 : Int32} {l3 : Int32} (hK64 : ∀ (y0 : mH), K64 y0 → K64' y0) (hQ : ∀ (y0 : Int32) (y1 : mH), Q y0 y1 → Q' y0 y1) : ∀ (y0 : Nat) (y1 : Int32) (y2 : mH), w_X11_round_L31 K64 Q l2 l3 y0 y1 y2 → w_X11_round_L31 K64' Q' l2 l3 y0 y1 y2 := by
  intro n
  induction n with
  | zero => intro y1 y2; exact False.elim
  | succ n ih =>
    intro y1 y2
    unfold w_X11_round_L31
    repeat' (first | with_reducible exact hK64 _ | with_reducible exact hQ _ _ | with_reducible exact ih _ _ | with_reducible refine And.imp ?_ ?_ | with_reducible refine moI ?_ | with_reducible refine moA fun _ => ?_ | with_reducible refine Exists.imp fun _ => ?_ | with_reducible exact id | exact False.elim)
theorem mo_X11_round {a1 : Int32} {a2 : Int32} {h : mH} {Q Q' : Int32 → mH → Prop} (hQ : ∀ (y0 : Int32) (y1 : mH), Q y0 y1 → Q' y0 y1) : w_X11_round a1 a2 h Q → w_X11_round a1 a2 h Q' := by
  unfold w_X11_round
  repeat' (first | with_reducible exact hQ _ _ | with_reducible refine And.imp ?_ ?_ | with_reducible refine moI ?_ | with_reducible refine moA fun _ => ?_ | with_reducible refine Exists.imp fun _ => ?_ | with_reducible refine mo_X11_isClock (fun _ _ => ?_) | with_reducible refine mo_X10_gain (fun _ _ => ?_) | with_reducible refine mo_X11_round_L31 (fun _ => ?_) (fun _ _ => ?_) _ _ _ | with_reducible exact id | exact False.elim)
theorem mo_X11_set {a1 : Int32} {a2 : Int32} {h : mH} {Q Q' : Int32 → mH → Prop} (hQ : ∀ (y0 : Int32) (y1 : mH), Q y0 y1 → Q' y0 y1) : w_X11_set a1 a2 h Q → w_X11_set a1 a2 h Q' := by
  unfold w_X11_set
  repeat' (first | with_reducible exact hQ _ _ | with_reducible refine And.imp ?_ ?_ | with_reducible refine moI ?_ | with_reducible refine moA fun _ => ?_ | with_reducible refine Exists.imp fun _ => ?_ | with_reducible refine mo_X11_isClock (fun _ _ => ?_) | with_reducible refine mo_X11_isMinute (fun _ _ => ?_) | with_reducible refine mo_X10_timeAt (fun _ _ => ?_) | with_reducible refine mo_X10_offToShow (fun _ _ => ?_) | with_reducible exact id | exact False.elim)
theorem mo_X11_led {a1 : Int32} {a2 : Int32} {h : mH} {Q Q' : Int32 → mH → Prop} (hQ : ∀ (y0 : Int32) (y1 : mH), Q y0 y1 → Q' y0 y1) : w_X11_led a1 a2 h Q → w_X11_led a1 a2 h Q' := by
  unfold w_X11_led
  repeat' (first | with_reducible exact hQ _ _ | with_reducible refine And.imp ?_ ?_ | with_reducible refine moI ?_ | with_reducible refine moA fun _ => ?_ | with_reducible refine Exists.imp fun _ => ?_ | with_reducible refine mo_X11_isClock (fun _ _ => ?_) | with_reducible refine mo_X11_isOneOf (fun _ _ => ?_) | with_reducible exact id | exact False.elim)
theorem mo_X11_refusalOfRow {a1 : Int32} {h : mH} {Q Q' : Int32 → mH → Prop} (hQ : ∀ (y0 : Int32) (y1 : mH), Q y0 y1 → Q' y0 y1) : w_X11_refusalOfRow a1 h Q → w_X11_refusalOfRow a1 h Q' := by
  unfold w_X11_refusalOfRow
  repeat' (first | with_reducible exact hQ _ _ | with_reducible refine And.imp ?_ ?_ | with_reducible refine moI ?_ | with_reducible refine moA fun _ => ?_ | with_reducible refine Exists.imp fun _ => ?_ | with_reducible refine mo_X11_isShelf (fun _ _ => ?_) | with_reducible exact id | exact False.elim)
theorem mo_X11_isSo {o1 : Nat} {a2 : Int32} {h : mH} {Q Q' : Int32 → mH → Prop} (hQ : ∀ (y0 : Int32) (y1 : mH), Q y0 y1 → Q' y0 y1) : w_X11_isSo o1 a2 h Q → w_X11_isSo o1 a2 h Q' := by
  unfold w_X11_isSo
  repeat' (first | with_reducible exact hQ _ _ | with_reducible refine And.imp ?_ ?_ | with_reducible refine moI ?_ | with_reducible refine moA fun _ => ?_ | with_reducible refine Exists.imp fun _ => ?_ | with_reducible refine mo_X11_isClock (fun _ _ => ?_) | with_reducible refine mo_X10_partAt (fun _ _ => ?_) | with_reducible exact id | exact False.elim)
theorem mo_X11_judge_L33 {K65 K65' : mH → Prop} {Q Q' : Int32 → mH → Prop} {l3 : Nat} (hK65 : ∀ (y0 : mH), K65 y0 → K65' y0) (hQ : ∀ (y0 : Int32) (y1 : mH), Q y0 y1 → Q' y0 y1) : ∀ (y0 : Nat) (y1 : Int32) (y2 : mH), w_X11_judge_L33 K65 Q l3 y0 y1 y2 → w_X11_judge_L33 K65' Q' l3 y0 y1 y2 := by
  intro n
  induction n with
  | zero => intro y1 y2; exact False.elim
  | succ n ih =>
    intro y1 y2
    unfold w_X11_judge_L33
    repeat' (first | with_reducible exact hK65 _ | with_reducible exact hQ _ _ | with_reducible exact ih _ _ | with_reducible refine And.imp ?_ ?_ | with_reducible refine moI ?_ | with_reducible refine moA fun _ => ?_ | with_reducible refine Exists.imp fun _ => ?_ | with_reducible refine mo_X11_isSo (fun _ _ => ?_) | with_reducible exact id | exact False.elim)
theorem mo_X11_judge {a1 : Int32} {h : mH} {Q Q' : Int32 → mH → Prop} (hQ : ∀ (y0 : Int32) (y1 : mH), Q y0 y1 → Q' y0 y1) : w_X11_judge a1 h Q → w_X11_judge a1 h Q' := by
  unfold w_X11_judge
  repeat' (first | with_reducible exact hQ _ _ | with_reducible refine And.imp ?_ ?_ | with_reducible refine moI ?_ | with_reducible refine moA fun _ => ?_ | with_reducible refine Exists.imp fun _ => ?_ | with_reducible refine mo_X11_refusalOfRow (fun _ _ => ?_) | with_reducible refine mo_X9_holdsRow (fun _ _ => ?_) | with_reducible refine mo_X11_judge_L33 (fun _ => ?_) (fun _ _ => ?_) _ _ _ | with_reducible exact id | exact False.elim)
theorem mo_X11_image_L38 {K102 K102' : mH → Prop} {Q Q' : Int32 → mH → Prop} (hK102 : ∀ (y0 : mH), K102 y0 → K102' y0) (hQ : ∀ (y0 : Int32) (y1 : mH), Q y0 y1 → Q' y0 y1) : ∀ (y0 : Nat) (y1 : Int32) (y2 : mH), w_X11_image_L38 K102 Q y0 y1 y2 → w_X11_image_L38 K102' Q' y0 y1 y2 := by
  intro n
  induction n with
  | zero => intro y1 y2; exact False.elim
  | succ n ih =>
    intro y1 y2
    unfold w_X11_image_L38
    repeat' (first | with_reducible exact hK102 _ | with_reducible exact hQ _ _ | with_reducible exact ih _ _ | with_reducible refine And.imp ?_ ?_ | with_reducible refine moI ?_ | with_reducible refine moA fun _ => ?_ | with_reducible refine Exists.imp fun _ => ?_ | with_reducible refine mo_X10_off (fun _ _ => ?_) | with_reducible exact id | exact False.elim)
theorem mo_X11_image {h : mH} {Q Q' : Int32 → mH → Prop} (hQ : ∀ (y0 : Int32) (y1 : mH), Q y0 y1 → Q' y0 y1) : w_X11_image h Q → w_X11_image h Q' := by
  unfold w_X11_image
  repeat' (first | with_reducible exact hQ _ _ | with_reducible refine And.imp ?_ ?_ | with_reducible refine moI ?_ | with_reducible refine moA fun _ => ?_ | with_reducible refine Exists.imp fun _ => ?_ | with_reducible refine mo_X2_become (fun _ => ?_) | with_reducible refine mo_X11_image_L38 (fun _ => ?_) (fun _ _ => ?_) _ _ _ | with_reducible exact id | exact False.elim)
theorem mo_X11_back_L43 {K110 K110' : mH → Prop} {Q Q' : Int32 → mH → Prop} (hK110 : ∀ (y0 : mH), K110 y0 → K110' y0) (hQ : ∀ (y0 : Int32) (y1 : mH), Q y0 y1 → Q' y0 y1) : ∀ (y0 : Nat) (y1 : Int32) (y2 : mH), w_X11_back_L43 K110 Q y0 y1 y2 → w_X11_back_L43 K110' Q' y0 y1 y2 := by
  intro n
  induction n with
  | zero => intro y1 y2; exact False.elim
  | succ n ih =>
    intro y1 y2
    unfold w_X11_back_L43
    repeat' (first | with_reducible exact hK110 _ | with_reducible exact hQ _ _ | with_reducible exact ih _ _ | with_reducible refine And.imp ?_ ?_ | with_reducible refine moI ?_ | with_reducible refine moA fun _ => ?_ | with_reducible refine Exists.imp fun _ => ?_ | with_reducible exact id | exact False.elim)
theorem mo_X11_back {h : mH} {Q Q' : Int32 → mH → Prop} (hQ : ∀ (y0 : Int32) (y1 : mH), Q y0 y1 → Q' y0 y1) : w_X11_back h Q → w_X11_back h Q' := by
  unfold w_X11_back
  repeat' (first | with_reducible exact hQ _ _ | with_reducible refine And.imp ?_ ?_ | with_reducible refine moI ?_ | with_reducible refine moA fun _ => ?_ | with_reducible refine Exists.imp fun _ => ?_ | with_reducible refine mo_X2_become (fun _ => ?_) | with_reducible refine mo_X11_back_L43 (fun _ => ?_) (fun _ _ => ?_) _ _ _ | with_reducible exact id | exact False.elim)
theorem mo_X11_undo {h : mH} {Q Q' : Int32 → mH → Prop} (hQ : ∀ (y0 : Int32) (y1 : mH), Q y0 y1 → Q' y0 y1) : w_X11_undo h Q → w_X11_undo h Q' := by
  unfold w_X11_undo
  repeat' (first | with_reducible exact hQ _ _ | with_reducible refine And.imp ?_ ?_ | with_reducible refine moI ?_ | with_reducible refine moA fun _ => ?_ | with_reducible refine Exists.imp fun _ => ?_ | with_reducible refine mo_X1_undoIn (fun _ _ => ?_) | with_reducible exact id | exact False.elim)
theorem mo_X11_redo {h : mH} {Q Q' : Int32 → mH → Prop} (hQ : ∀ (y0 : Int32) (y1 : mH), Q y0 y1 → Q' y0 y1) : w_X11_redo h Q → w_X11_redo h Q' := by
  unfold w_X11_redo
  repeat' (first | with_reducible exact hQ _ _ | with_reducible refine And.imp ?_ ?_ | with_reducible refine moI ?_ | with_reducible refine moA fun _ => ?_ | with_reducible refine Exists.imp fun _ => ?_ | with_reducible refine mo_X1_redoIn (fun _ _ => ?_) | with_reducible exact id | exact False.elim)
theorem mo_X11_isKind {a0 : Int32} {h : mH} {Q Q' : Int32 → mH → Prop} (hQ : ∀ (y0 : Int32) (y1 : mH), Q y0 y1 → Q' y0 y1) : w_X11_isKind a0 h Q → w_X11_isKind a0 h Q' := by
  unfold w_X11_isKind
  repeat' (first | with_reducible exact hQ _ _ | with_reducible refine And.imp ?_ ?_ | with_reducible refine moI ?_ | with_reducible refine moA fun _ => ?_ | with_reducible refine Exists.imp fun _ => ?_ | with_reducible refine mo_X11_isOneOf (fun _ _ => ?_) | with_reducible exact id | exact False.elim)
theorem mo_X11_body {a1 : Int32} {h : mH} {Q Q' : Int32 → mH → Prop} (hQ : ∀ (y0 : Int32) (y1 : mH), Q y0 y1 → Q' y0 y1) : w_X11_body a1 h Q → w_X11_body a1 h Q' := by
  unfold w_X11_body
  repeat' (first | with_reducible exact hQ _ _ | with_reducible refine And.imp ?_ ?_ | with_reducible refine moI ?_ | with_reducible refine moA fun _ => ?_ | with_reducible refine Exists.imp fun _ => ?_ | with_reducible refine mo_X11_isKind (fun _ _ => ?_) | with_reducible refine mo_X0_add (fun _ _ => ?_) | with_reducible exact id | exact False.elim)
theorem mo_X11_act {a1 : Int32} {a2 : Int32} {a3 : Int32} {h : mH} {Q Q' : Int32 → mH → Prop} (hQ : ∀ (y0 : Int32) (y1 : mH), Q y0 y1 → Q' y0 y1) : w_X11_act a1 a2 a3 h Q → w_X11_act a1 a2 a3 h Q' := by
  unfold w_X11_act
  repeat' (first | with_reducible exact hQ _ _ | with_reducible refine And.imp ?_ ?_ | with_reducible refine moI ?_ | with_reducible refine moA fun _ => ?_ | with_reducible refine Exists.imp fun _ => ?_ | with_reducible refine mo_X0_actOf (fun _ _ => ?_) | with_reducible exact id | exact False.elim)
theorem mo_X11_trace {a1 : Int32} {h : mH} {Q Q' : Int32 → mH → Prop} (hQ : ∀ (y0 : Int32) (y1 : mH), Q y0 y1 → Q' y0 y1) : w_X11_trace a1 h Q → w_X11_trace a1 h Q' := by
  unfold w_X11_trace
  repeat' (first | with_reducible exact hQ _ _ | with_reducible refine And.imp ?_ ?_ | with_reducible refine moI ?_ | with_reducible refine moA fun _ => ?_ | with_reducible refine Exists.imp fun _ => ?_ | with_reducible refine mo_X11_isOneOf (fun _ _ => ?_) | with_reducible exact id | exact False.elim)
theorem mo_X11_keep {a1 : Int32} {a2 : Int32} {h : mH} {Q Q' : Int32 → mH → Prop} (hQ : ∀ (y0 : Int32) (y1 : mH), Q y0 y1 → Q' y0 y1) : w_X11_keep a1 a2 h Q → w_X11_keep a1 a2 h Q' := by
  unfold w_X11_keep
  repeat' (first | with_reducible exact hQ _ _ | with_reducible refine And.imp ?_ ?_ | with_reducible refine moI ?_ | with_reducible refine moA fun _ => ?_ | with_reducible refine Exists.imp fun _ => ?_ | with_reducible refine mo_X11_isShelf (fun _ _ => ?_) | with_reducible exact id | exact False.elim)
theorem mo_X11_row {a1 : Int32} {a2 : Int32} {a3 : Int32} {h : mH} {Q Q' : Int32 → mH → Prop} (hQ : ∀ (y0 : Int32) (y1 : mH), Q y0 y1 → Q' y0 y1) : w_X11_row a1 a2 a3 h Q → w_X11_row a1 a2 a3 h Q' := by
  unfold w_X11_row
  repeat' (first | with_reducible exact hQ _ _ | with_reducible refine And.imp ?_ ?_ | with_reducible refine moI ?_ | with_reducible refine moA fun _ => ?_ | with_reducible refine Exists.imp fun _ => ?_ | with_reducible refine mo_X11_isShelf (fun _ _ => ?_) | with_reducible refine mo_X11_isOneOf (fun _ _ => ?_) | with_reducible refine mo_X9_becomeRow (fun _ => ?_) | with_reducible exact id | exact False.elim)
theorem mo_X11_refusalOfPlace {a1 : Int32} {a2 : Int32} {h : mH} {Q Q' : Int32 → mH → Prop} (hQ : ∀ (y0 : Int32) (y1 : mH), Q y0 y1 → Q' y0 y1) : w_X11_refusalOfPlace a1 a2 h Q → w_X11_refusalOfPlace a1 a2 h Q' := by
  unfold w_X11_refusalOfPlace
  repeat' (first | with_reducible exact hQ _ _ | with_reducible refine And.imp ?_ ?_ | with_reducible refine moI ?_ | with_reducible refine moA fun _ => ?_ | with_reducible refine Exists.imp fun _ => ?_ | with_reducible refine mo_X11_refusalOfRow (fun _ _ => ?_) | with_reducible refine mo_X11_isOneOf (fun _ _ => ?_) | with_reducible exact id | exact False.elim)
theorem mo_X11_put {a1 : Int32} {a2 : Int32} {a3 : Int64} {h : mH} {Q Q' : Int32 → mH → Prop} (hQ : ∀ (y0 : Int32) (y1 : mH), Q y0 y1 → Q' y0 y1) : w_X11_put a1 a2 a3 h Q → w_X11_put a1 a2 a3 h Q' := by
  unfold w_X11_put
  repeat' (first | with_reducible exact hQ _ _ | with_reducible refine And.imp ?_ ?_ | with_reducible refine moI ?_ | with_reducible refine moA fun _ => ?_ | with_reducible refine Exists.imp fun _ => ?_ | with_reducible refine mo_X11_refusalOfPlace (fun _ _ => ?_) | with_reducible refine mo_X9_keptOf (fun _ _ => ?_) | with_reducible exact id | exact False.elim)
theorem mo_X11_element {a1 : Int32} {a2 : Int32} {h : mH} {Q Q' : Int64 → mH → Prop} (hQ : ∀ (y0 : Int64) (y1 : mH), Q y0 y1 → Q' y0 y1) : w_X11_element a1 a2 h Q → w_X11_element a1 a2 h Q' := by
  unfold w_X11_element
  repeat' (first | with_reducible exact hQ _ _ | with_reducible refine And.imp ?_ ?_ | with_reducible refine moI ?_ | with_reducible refine moA fun _ => ?_ | with_reducible refine Exists.imp fun _ => ?_ | with_reducible refine mo_X11_refusalOfPlace (fun _ _ => ?_) | with_reducible exact id | exact False.elim)
theorem mo_X11_shift {a1 : Int32} {a2 : Int32} {a3 : Int32} {a4 : Int32} {a5 : Int32} {h : mH} {Q Q' : Int32 → mH → Prop} (hQ : ∀ (y0 : Int32) (y1 : mH), Q y0 y1 → Q' y0 y1) : w_X11_shift a1 a2 a3 a4 a5 h Q → w_X11_shift a1 a2 a3 a4 a5 h Q' := by
  unfold w_X11_shift
  repeat' (first | with_reducible exact hQ _ _ | with_reducible refine And.imp ?_ ?_ | with_reducible refine moI ?_ | with_reducible refine moA fun _ => ?_ | with_reducible refine Exists.imp fun _ => ?_ | with_reducible refine mo_X11_isShelf (fun _ _ => ?_) | with_reducible refine mo_X9_holdsRow (fun _ _ => ?_) | with_reducible exact id | exact False.elim)
theorem mo_X11_taken {a1 : Int32} {a2 : Int32} {h : mH} {Q Q' : Int32 → mH → Prop} (hQ : ∀ (y0 : Int32) (y1 : mH), Q y0 y1 → Q' y0 y1) : w_X11_taken a1 a2 h Q → w_X11_taken a1 a2 h Q' := by
  unfold w_X11_taken
  repeat' (first | with_reducible exact hQ _ _ | with_reducible refine And.imp ?_ ?_ | with_reducible refine moI ?_ | with_reducible refine moA fun _ => ?_ | with_reducible refine Exists.imp fun _ => ?_ | with_reducible refine mo_X11_isShelf (fun _ _ => ?_) | with_reducible refine mo_X11_isKind (fun _ _ => ?_) | with_reducible refine mo_X0_kindOf (fun _ _ => ?_) | with_reducible refine mo_X0_isUnder (fun _ _ => ?_) | with_reducible exact id | exact False.elim)
theorem mo_X11_count {a1 : Int32} {h : mH} {Q Q' : Int32 → mH → Prop} (hQ : ∀ (y0 : Int32) (y1 : mH), Q y0 y1 → Q' y0 y1) : w_X11_count a1 h Q → w_X11_count a1 h Q' := by
  unfold w_X11_count
  repeat' (first | with_reducible exact hQ _ _ | with_reducible refine And.imp ?_ ?_ | with_reducible refine moI ?_ | with_reducible refine moA fun _ => ?_ | with_reducible refine Exists.imp fun _ => ?_ | with_reducible refine mo_X6_bytesOnTape (fun _ _ => ?_) | with_reducible exact id | exact False.elim)
theorem mo_X12_in {a0 : Int32} {a1 : Int32} {a2 : Int32} {h : mH} {Q Q' : Int32 → mH → Prop} (hQ : ∀ (y0 : Int32) (y1 : mH), Q y0 y1 → Q' y0 y1) : w_X12_in a0 a1 a2 h Q → w_X12_in a0 a1 a2 h Q' := by
  unfold w_X12_in
  repeat' (first | with_reducible exact hQ _ _ | with_reducible refine And.imp ?_ ?_ | with_reducible refine moI ?_ | with_reducible refine moA fun _ => ?_ | with_reducible refine Exists.imp fun _ => ?_ | with_reducible exact id | exact False.elim)
theorem mo_X12_bitsOf_L4 {K20 K20' : Int32 → mH → Prop} {Q Q' : Int32 → mH → Prop} (hK20 : ∀ (y0 : Int32) (y1 : mH), K20 y0 y1 → K20' y0 y1) (hQ : ∀ (y0 : Int32) (y1 : mH), Q y0 y1 → Q' y0 y1) : ∀ (y0 : Nat) (y1 : Int32) (y2 : Int32) (y3 : mH), w_X12_bitsOf_L4 K20 Q y0 y1 y2 y3 → w_X12_bitsOf_L4 K20' Q' y0 y1 y2 y3 := by
  intro n
  induction n with
  | zero => intro y1 y2 y3; exact False.elim
  | succ n ih =>
    intro y1 y2 y3
    unfold w_X12_bitsOf_L4
    repeat' (first | with_reducible exact hK20 _ _ | with_reducible exact hQ _ _ | with_reducible exact ih _ _ _ | with_reducible refine And.imp ?_ ?_ | with_reducible refine moI ?_ | with_reducible refine moA fun _ => ?_ | with_reducible refine Exists.imp fun _ => ?_ | with_reducible exact id | exact False.elim)
theorem mo_X12_bitsOf {a0 : Int32} {h : mH} {Q Q' : Int32 → mH → Prop} (hQ : ∀ (y0 : Int32) (y1 : mH), Q y0 y1 → Q' y0 y1) : w_X12_bitsOf a0 h Q → w_X12_bitsOf a0 h Q' := by
  unfold w_X12_bitsOf
  repeat' (first | with_reducible exact hQ _ _ | with_reducible refine And.imp ?_ ?_ | with_reducible refine moI ?_ | with_reducible refine moA fun _ => ?_ | with_reducible refine Exists.imp fun _ => ?_ | with_reducible refine mo_X12_bitsOf_L4 (fun _ _ => ?_) (fun _ _ => ?_) _ _ _ _ | with_reducible exact id | exact False.elim)
theorem mo_X12_isClock {a0 : Int32} {h : mH} {Q Q' : Int32 → mH → Prop} (hQ : ∀ (y0 : Int32) (y1 : mH), Q y0 y1 → Q' y0 y1) : w_X12_isClock a0 h Q → w_X12_isClock a0 h Q' := by
  unfold w_X12_isClock
  repeat' (first | with_reducible exact hQ _ _ | with_reducible refine And.imp ?_ ?_ | with_reducible refine moI ?_ | with_reducible refine moA fun _ => ?_ | with_reducible refine Exists.imp fun _ => ?_ | with_reducible refine mo_X12_in (fun _ _ => ?_) | with_reducible exact id | exact False.elim)
theorem mo_X12_isMinute {a0 : Int32} {h : mH} {Q Q' : Int32 → mH → Prop} (hQ : ∀ (y0 : Int32) (y1 : mH), Q y0 y1 → Q' y0 y1) : w_X12_isMinute a0 h Q → w_X12_isMinute a0 h Q' := by
  unfold w_X12_isMinute
  repeat' (first | with_reducible exact hQ _ _ | with_reducible refine And.imp ?_ ?_ | with_reducible refine moI ?_ | with_reducible refine moA fun _ => ?_ | with_reducible refine Exists.imp fun _ => ?_ | with_reducible refine mo_X12_in (fun _ _ => ?_) | with_reducible exact id | exact False.elim)
theorem mo_X12_showBy {a0 : Int32} {a1 : Int32} {a2 : Int32} {h : mH} {Q Q' : Int32 → mH → Prop} (hQ : ∀ (y0 : Int32) (y1 : mH), Q y0 y1 → Q' y0 y1) : w_X12_showBy a0 a1 a2 h Q → w_X12_showBy a0 a1 a2 h Q' := by
  unfold w_X12_showBy
  repeat' (first | with_reducible exact hQ _ _ | with_reducible refine And.imp ?_ ?_ | with_reducible refine moI ?_ | with_reducible refine moA fun _ => ?_ | with_reducible refine Exists.imp fun _ => ?_ | with_reducible exact id | exact False.elim)
theorem mo_X12_show {a1 : Int32} {a2 : Int32} {h : mH} {Q Q' : Int32 → mH → Prop} (hQ : ∀ (y0 : Int32) (y1 : mH), Q y0 y1 → Q' y0 y1) : w_X12_show a1 a2 h Q → w_X12_show a1 a2 h Q' := by
  unfold w_X12_show
  repeat' (first | with_reducible exact hQ _ _ | with_reducible refine And.imp ?_ ?_ | with_reducible refine moI ?_ | with_reducible refine moA fun _ => ?_ | with_reducible refine Exists.imp fun _ => ?_ | with_reducible refine mo_X12_showBy (fun _ _ => ?_) | with_reducible exact id | exact False.elim)
theorem mo_X12_partOf {a0 : Int32} {a1 : Int32} {h : mH} {Q Q' : Int32 → mH → Prop} (hQ : ∀ (y0 : Int32) (y1 : mH), Q y0 y1 → Q' y0 y1) : w_X12_partOf a0 a1 h Q → w_X12_partOf a0 a1 h Q' := by
  unfold w_X12_partOf
  repeat' (first | with_reducible exact hQ _ _ | with_reducible refine And.imp ?_ ?_ | with_reducible refine moI ?_ | with_reducible refine moA fun _ => ?_ | with_reducible refine Exists.imp fun _ => ?_ | with_reducible exact id | exact False.elim)
theorem mo_X12_partAt {a1 : Int32} {a2 : Int32} {h : mH} {Q Q' : Int32 → mH → Prop} (hQ : ∀ (y0 : Int32) (y1 : mH), Q y0 y1 → Q' y0 y1) : w_X12_partAt a1 a2 h Q → w_X12_partAt a1 a2 h Q' := by
  unfold w_X12_partAt
  repeat' (first | with_reducible exact hQ _ _ | with_reducible refine And.imp ?_ ?_ | with_reducible refine moI ?_ | with_reducible refine moA fun _ => ?_ | with_reducible refine Exists.imp fun _ => ?_ | with_reducible refine mo_X12_show (fun _ _ => ?_) | with_reducible refine mo_X12_partOf (fun _ _ => ?_) | with_reducible exact id | exact False.elim)
theorem mo_X12_isNear {a1 : Int32} {a2 : Int32} {h : mH} {Q Q' : Int32 → mH → Prop} (hQ : ∀ (y0 : Int32) (y1 : mH), Q y0 y1 → Q' y0 y1) : w_X12_isNear a1 a2 h Q → w_X12_isNear a1 a2 h Q' := by
  unfold w_X12_isNear
  repeat' (first | with_reducible exact hQ _ _ | with_reducible refine And.imp ?_ ?_ | with_reducible refine moI ?_ | with_reducible refine moA fun _ => ?_ | with_reducible refine Exists.imp fun _ => ?_ | with_reducible exact id | exact False.elim)
theorem mo_X12_shown {a1 : Int32} {a2 : Int32} {a3 : Int32} {h : mH} {Q Q' : Int32 → mH → Prop} (hQ : ∀ (y0 : Int32) (y1 : mH), Q y0 y1 → Q' y0 y1) : w_X12_shown a1 a2 a3 h Q → w_X12_shown a1 a2 a3 h Q' := by
  unfold w_X12_shown
  repeat' (first | with_reducible exact hQ _ _ | with_reducible refine And.imp ?_ ?_ | with_reducible refine moI ?_ | with_reducible refine moA fun _ => ?_ | with_reducible refine Exists.imp fun _ => ?_ | with_reducible refine mo_X12_isClock (fun _ _ => ?_) | with_reducible refine mo_X12_isMinute (fun _ _ => ?_) | with_reducible refine mo_X12_in (fun _ _ => ?_) | with_reducible refine mo_X12_partAt (fun _ _ => ?_) | with_reducible refine mo_X12_show (fun _ _ => ?_) | with_reducible exact id | exact False.elim)
theorem mo_X12_valueAt {a1 : Int32} {a2 : Int32} {h : mH} {Q Q' : Int32 → mH → Prop} (hQ : ∀ (y0 : Int32) (y1 : mH), Q y0 y1 → Q' y0 y1) : w_X12_valueAt a1 a2 h Q → w_X12_valueAt a1 a2 h Q' := by
  unfold w_X12_valueAt
  repeat' (first | with_reducible exact hQ _ _ | with_reducible refine And.imp ?_ ?_ | with_reducible refine moI ?_ | with_reducible refine moA fun _ => ?_ | with_reducible refine Exists.imp fun _ => ?_ | with_reducible exact id | exact False.elim)
theorem mo_X12_lays {a1 : Int32} {a2 : Int32} {a3 : Int32} {h : mH} {Q Q' : mH → Prop} (hQ : ∀ (y0 : mH), Q y0 → Q' y0) : w_X12_lays a1 a2 a3 h Q → w_X12_lays a1 a2 a3 h Q' := by
  unfold w_X12_lays
  repeat' (first | with_reducible exact hQ _ | with_reducible refine And.imp ?_ ?_ | with_reducible refine moI ?_ | with_reducible refine moA fun _ => ?_ | with_reducible refine Exists.imp fun _ => ?_ | with_reducible exact id | exact False.elim)
theorem mo_X12_changes_J121 {Q Q' : Int32 → mH → Prop} {l1 : Int32} {l2 : Int32} {l3 : Int32} {l4 : Int32} {h : mH} (hQ : ∀ (y0 : Int32) (y1 : mH), Q y0 y1 → Q' y0 y1) : w_X12_changes_J121 Q l1 l2 l3 l4 h → w_X12_changes_J121 Q' l1 l2 l3 l4 h := by
  unfold w_X12_changes_J121
  repeat' (first | with_reducible exact hQ _ _ | with_reducible refine And.imp ?_ ?_ | with_reducible refine moI ?_ | with_reducible refine moA fun _ => ?_ | with_reducible refine Exists.imp fun _ => ?_ | with_reducible refine mo_X12_lays (fun _ => ?_) | with_reducible exact id | exact False.elim)
theorem mo_X12_changes_L34 {K111 K111' : mH → Prop} {Q Q' : Int32 → mH → Prop} {l1 : Int32} {l2 : Int32} {l3 : Int32} {l4 : Int32} (hK111 : ∀ (y0 : mH), K111 y0 → K111' y0) (hQ : ∀ (y0 : Int32) (y1 : mH), Q y0 y1 → Q' y0 y1) : ∀ (y0 : Nat) (y1 : Int32) (y2 : mH), w_X12_changes_L34 K111 Q l1 l2 l3 l4 y0 y1 y2 → w_X12_changes_L34 K111' Q' l1 l2 l3 l4 y0 y1 y2 := by
  intro n
  induction n with
  | zero => intro y1 y2; exact False.elim
  | succ n ih =>
    intro y1 y2
    unfold w_X12_changes_L34
    repeat' (first | with_reducible exact hK111 _ | with_reducible exact hQ _ _ | with_reducible exact ih _ _ | with_reducible refine And.imp ?_ ?_ | with_reducible refine moI ?_ | with_reducible refine moA fun _ => ?_ | with_reducible refine Exists.imp fun _ => ?_ | with_reducible exact id | exact False.elim)
theorem mo_X12_changes {a1 : Int32} {a2 : Int32} {a3 : Int32} {h : mH} {Q Q' : Int32 → mH → Prop} (hQ : ∀ (y0 : Int32) (y1 : mH), Q y0 y1 → Q' y0 y1) : w_X12_changes a1 a2 a3 h Q → w_X12_changes a1 a2 a3 h Q' := by
  unfold w_X12_changes
  repeat' (first | with_reducible exact hQ _ _ | with_reducible refine And.imp ?_ ?_ | with_reducible refine moI ?_ | with_reducible refine moA fun _ => ?_ | with_reducible refine Exists.imp fun _ => ?_ | with_reducible refine mo_X12_valueAt (fun _ _ => ?_) | with_reducible refine mo_X12_changes_J121 (fun _ _ => ?_) | with_reducible refine mo_X12_changes_L34 (fun _ => ?_) (fun _ _ => ?_) _ _ _ | with_reducible exact id | exact False.elim)
theorem mo_X12_undo {h : mH} {Q Q' : Int32 → mH → Prop} (hQ : ∀ (y0 : Int32) (y1 : mH), Q y0 y1 → Q' y0 y1) : w_X12_undo h Q → w_X12_undo h Q' := by
  unfold w_X12_undo
  repeat' (first | with_reducible exact hQ _ _ | with_reducible refine And.imp ?_ ?_ | with_reducible refine moI ?_ | with_reducible refine moA fun _ => ?_ | with_reducible refine Exists.imp fun _ => ?_ | with_reducible refine mo_X12_lays (fun _ => ?_) | with_reducible exact id | exact False.elim)
theorem mo_X12_redo {h : mH} {Q Q' : Int32 → mH → Prop} (hQ : ∀ (y0 : Int32) (y1 : mH), Q y0 y1 → Q' y0 y1) : w_X12_redo h Q → w_X12_redo h Q' := by
  unfold w_X12_redo
  repeat' (first | with_reducible exact hQ _ _ | with_reducible refine And.imp ?_ ?_ | with_reducible refine moI ?_ | with_reducible refine moA fun _ => ?_ | with_reducible refine Exists.imp fun _ => ?_ | with_reducible refine mo_X12_lays (fun _ => ?_) | with_reducible exact id | exact False.elim)
theorem mo_X12_mend {a1 : Int32} {a2 : Int32} {a3 : Int32} {h : mH} {Q Q' : Int32 → mH → Prop} (hQ : ∀ (y0 : Int32) (y1 : mH), Q y0 y1 → Q' y0 y1) : w_X12_mend a1 a2 a3 h Q → w_X12_mend a1 a2 a3 h Q' := by
  unfold w_X12_mend
  repeat' (first | with_reducible exact hQ _ _ | with_reducible refine And.imp ?_ ?_ | with_reducible refine moI ?_ | with_reducible refine moA fun _ => ?_ | with_reducible refine Exists.imp fun _ => ?_ | with_reducible refine mo_X12_isClock (fun _ _ => ?_) | with_reducible refine mo_X12_in (fun _ _ => ?_) | with_reducible refine mo_X12_changes (fun _ _ => ?_) | with_reducible exact id | exact False.elim)
theorem mo_X12_of {a1 : Int32} {a2 : Int32} {h : mH} {Q Q' : Int32 → mH → Prop} (hQ : ∀ (y0 : Int32) (y1 : mH), Q y0 y1 → Q' y0 y1) : w_X12_of a1 a2 h Q → w_X12_of a1 a2 h Q' := by
  unfold w_X12_of
  repeat' (first | with_reducible exact hQ _ _ | with_reducible refine And.imp ?_ ?_ | with_reducible refine moI ?_ | with_reducible refine moA fun _ => ?_ | with_reducible refine Exists.imp fun _ => ?_ | with_reducible refine mo_X12_in (fun _ _ => ?_) | with_reducible refine mo_X12_isClock (fun _ _ => ?_) | with_reducible exact id | exact False.elim)
theorem mo_X12_isSight {a0 : Int32} {a1 : Int32} {a2 : Int32} {a3 : Int32} {h : mH} {Q Q' : Int32 → mH → Prop} (hQ : ∀ (y0 : Int32) (y1 : mH), Q y0 y1 → Q' y0 y1) : w_X12_isSight a0 a1 a2 a3 h Q → w_X12_isSight a0 a1 a2 a3 h Q' := by
  unfold w_X12_isSight
  repeat' (first | with_reducible exact hQ _ _ | with_reducible refine And.imp ?_ ?_ | with_reducible refine moI ?_ | with_reducible refine moA fun _ => ?_ | with_reducible refine Exists.imp fun _ => ?_ | with_reducible refine mo_X12_isClock (fun _ _ => ?_) | with_reducible refine mo_X12_in (fun _ _ => ?_) | with_reducible exact id | exact False.elim)
theorem mo_X12_addSight {a1 : Int32} {a2 : Int32} {a3 : Int32} {a4 : Int32} {h : mH} {Q Q' : Int32 → mH → Prop} (hQ : ∀ (y0 : Int32) (y1 : mH), Q y0 y1 → Q' y0 y1) : w_X12_addSight a1 a2 a3 a4 h Q → w_X12_addSight a1 a2 a3 a4 h Q' := by
  unfold w_X12_addSight
  repeat' (first | with_reducible exact hQ _ _ | with_reducible refine And.imp ?_ ?_ | with_reducible refine moI ?_ | with_reducible refine moA fun _ => ?_ | with_reducible refine Exists.imp fun _ => ?_ | with_reducible exact id | exact False.elim)
theorem mo_X12_sight {a1 : Int32} {a2 : Int32} {h : mH} {Q Q' : Int32 → mH → Prop} (hQ : ∀ (y0 : Int32) (y1 : mH), Q y0 y1 → Q' y0 y1) : w_X12_sight a1 a2 h Q → w_X12_sight a1 a2 h Q' := by
  unfold w_X12_sight
  repeat' (first | with_reducible exact hQ _ _ | with_reducible refine And.imp ?_ ?_ | with_reducible refine moI ?_ | with_reducible refine moA fun _ => ?_ | with_reducible refine Exists.imp fun _ => ?_ | with_reducible refine mo_X12_isSight (fun _ _ => ?_) | with_reducible refine mo_X12_addSight (fun _ _ => ?_) | with_reducible exact id | exact False.elim)
theorem mo_X12_isShelf {a0 : Int32} {h : mH} {Q Q' : Int32 → mH → Prop} (hQ : ∀ (y0 : Int32) (y1 : mH), Q y0 y1 → Q' y0 y1) : w_X12_isShelf a0 h Q → w_X12_isShelf a0 h Q' := by
  unfold w_X12_isShelf
  repeat' (first | with_reducible exact hQ _ _ | with_reducible refine And.imp ?_ ?_ | with_reducible refine moI ?_ | with_reducible refine moA fun _ => ?_ | with_reducible refine Exists.imp fun _ => ?_ | with_reducible refine mo_X12_in (fun _ _ => ?_) | with_reducible exact id | exact False.elim)
theorem mo_X12_sights_L58 {K216 K216' : mH → Prop} {Q Q' : Int32 → mH → Prop} {l1 : Int32} {l2 : Int32} {l3 : Int32} (hK216 : ∀ (y0 : mH), K216 y0 → K216' y0) (hQ : ∀ (y0 : Int32) (y1 : mH), Q y0 y1 → Q' y0 y1) : ∀ (y0 : Nat) (y1 : Int32) (y2 : mH), w_X12_sights_L58 K216 Q l1 l2 l3 y0 y1 y2 → w_X12_sights_L58 K216' Q' l1 l2 l3 y0 y1 y2 := by
  intro n
  induction n with
  | zero => intro y1 y2; exact False.elim
  | succ n ih =>
    intro y1 y2
    unfold w_X12_sights_L58
    repeat' (first | with_reducible exact hK216 _ | with_reducible exact hQ _ _ | with_reducible exact ih _ _ | with_reducible refine And.imp ?_ ?_ | with_reducible refine moI ?_ | with_reducible refine moA fun _ => ?_ | with_reducible refine Exists.imp fun _ => ?_ | with_reducible refine mo_X12_isSight (fun _ _ => ?_) | with_reducible refine mo_X12_addSight (fun _ _ => ?_) | with_reducible exact id | exact False.elim)
theorem mo_X12_sights {a1 : Int32} {a2 : Int32} {a3 : Int32} {h : mH} {Q Q' : Int32 → mH → Prop} (hQ : ∀ (y0 : Int32) (y1 : mH), Q y0 y1 → Q' y0 y1) : w_X12_sights a1 a2 a3 h Q → w_X12_sights a1 a2 a3 h Q' := by
  unfold w_X12_sights
  repeat' (first | with_reducible exact hQ _ _ | with_reducible refine And.imp ?_ ?_ | with_reducible refine moI ?_ | with_reducible refine moA fun _ => ?_ | with_reducible refine Exists.imp fun _ => ?_ | with_reducible refine mo_X12_isShelf (fun _ _ => ?_) | with_reducible refine mo_X12_in (fun _ _ => ?_) | with_reducible refine mo_X12_sights_L58 (fun _ => ?_) (fun _ _ => ?_) _ _ _ | with_reducible exact id | exact False.elim)
theorem mo_X12_forget {h : mH} {Q Q' : Int32 → mH → Prop} (hQ : ∀ (y0 : Int32) (y1 : mH), Q y0 y1 → Q' y0 y1) : w_X12_forget h Q → w_X12_forget h Q' := by
  unfold w_X12_forget
  repeat' (first | with_reducible exact hQ _ _ | with_reducible refine And.imp ?_ ?_ | with_reducible refine moI ?_ | with_reducible refine moA fun _ => ?_ | with_reducible refine Exists.imp fun _ => ?_ | with_reducible exact id | exact False.elim)
theorem mo_X12_gun {a1 : Int32} {a2 : Int32} {h : mH} {Q Q' : Int32 → mH → Prop} (hQ : ∀ (y0 : Int32) (y1 : mH), Q y0 y1 → Q' y0 y1) : w_X12_gun a1 a2 h Q → w_X12_gun a1 a2 h Q' := by
  unfold w_X12_gun
  repeat' (first | with_reducible exact hQ _ _ | with_reducible refine And.imp ?_ ?_ | with_reducible refine moI ?_ | with_reducible refine moA fun _ => ?_ | with_reducible refine Exists.imp fun _ => ?_ | with_reducible refine mo_X12_isClock (fun _ _ => ?_) | with_reducible refine mo_X12_in (fun _ _ => ?_) | with_reducible exact id | exact False.elim)
theorem mo_X12_feed {a1 : Int32} {h : mH} {Q Q' : Int32 → mH → Prop} (hQ : ∀ (y0 : Int32) (y1 : mH), Q y0 y1 → Q' y0 y1) : w_X12_feed a1 h Q → w_X12_feed a1 h Q' := by
  unfold w_X12_feed
  repeat' (first | with_reducible exact hQ _ _ | with_reducible refine And.imp ?_ ?_ | with_reducible refine moI ?_ | with_reducible refine moA fun _ => ?_ | with_reducible refine Exists.imp fun _ => ?_ | with_reducible refine mo_X12_in (fun _ _ => ?_) | with_reducible exact id | exact False.elim)
theorem mo_X12_look {h : mH} {Q Q' : Int32 → mH → Prop} (hQ : ∀ (y0 : Int32) (y1 : mH), Q y0 y1 → Q' y0 y1) : w_X12_look h Q → w_X12_look h Q' := by
  unfold w_X12_look
  repeat' (first | with_reducible exact hQ _ _ | with_reducible refine And.imp ?_ ?_ | with_reducible refine moI ?_ | with_reducible refine moA fun _ => ?_ | with_reducible refine Exists.imp fun _ => ?_ | with_reducible exact id | exact False.elim)
theorem mo_X12_faulty {h : mH} {Q Q' : mH → Prop} (hQ : ∀ (y0 : mH), Q y0 → Q' y0) : w_X12_faulty h Q → w_X12_faulty h Q' := by
  unfold w_X12_faulty
  repeat' (first | with_reducible exact hQ _ | with_reducible refine And.imp ?_ ?_ | with_reducible refine moI ?_ | with_reducible refine moA fun _ => ?_ | with_reducible refine Exists.imp fun _ => ?_ | with_reducible exact id | exact False.elim)
theorem mo_X12_addStep {a1 : Int32} {a2 : Int32} {h : mH} {Q Q' : mH → Prop} (hQ : ∀ (y0 : mH), Q y0 → Q' y0) : w_X12_addStep a1 a2 h Q → w_X12_addStep a1 a2 h Q' := by
  unfold w_X12_addStep
  repeat' (first | with_reducible exact hQ _ | with_reducible refine And.imp ?_ ?_ | with_reducible refine moI ?_ | with_reducible refine moA fun _ => ?_ | with_reducible refine Exists.imp fun _ => ?_ | with_reducible exact id | exact False.elim)
theorem mo_X12_nameOf {a0 : Int32} {h : mH} {Q Q' : Int32 → mH → Prop} (hQ : ∀ (y0 : Int32) (y1 : mH), Q y0 y1 → Q' y0 y1) : w_X12_nameOf a0 h Q → w_X12_nameOf a0 h Q' := by
  unfold w_X12_nameOf
  repeat' (first | with_reducible exact hQ _ _ | with_reducible refine And.imp ?_ ?_ | with_reducible refine moI ?_ | with_reducible refine moA fun _ => ?_ | with_reducible refine Exists.imp fun _ => ?_ | with_reducible exact id | exact False.elim)
theorem mo_X12_opens {h : mH} {Q Q' : Int32 → mH → Prop} (hQ : ∀ (y0 : Int32) (y1 : mH), Q y0 y1 → Q' y0 y1) : w_X12_opens h Q → w_X12_opens h Q' := by
  unfold w_X12_opens
  repeat' (first | with_reducible exact hQ _ _ | with_reducible refine And.imp ?_ ?_ | with_reducible refine moI ?_ | with_reducible refine moA fun _ => ?_ | with_reducible refine Exists.imp fun _ => ?_ | with_reducible refine mo_X12_faulty (fun _ => ?_) | with_reducible exact id | exact False.elim)
theorem mo_X12_figure_L4 {K52 K52' : Int32 → Int32 → mH → Prop} {Q Q' : mH → Prop} (hK52 : ∀ (y0 : Int32) (y1 : Int32) (y2 : mH), K52 y0 y1 y2 → K52' y0 y1 y2) (hQ : ∀ (y0 : mH), Q y0 → Q' y0) : ∀ (y0 : Nat) (y1 : Int32) (y2 : Int32) (y3 : mH), w_X12_figure_L4 K52 Q y0 y1 y2 y3 → w_X12_figure_L4 K52' Q' y0 y1 y2 y3 := by
  intro n
  induction n with
  | zero => intro y1 y2 y3; exact False.elim
  | succ n ih =>
    intro y1 y2 y3
    unfold w_X12_figure_L4
    repeat' (first | with_reducible exact hK52 _ _ _ | with_reducible exact hQ _ | with_reducible exact ih _ _ _ | with_reducible refine And.imp ?_ ?_ | with_reducible refine moI ?_ | with_reducible refine moA fun _ => ?_ | with_reducible refine Exists.imp fun _ => ?_ | with_reducible refine mo_X12_look (fun _ _ => ?_) | with_reducible refine mo_X12_in (fun _ _ => ?_) | with_reducible exact id | exact False.elim)
theorem mo_X12_figure_J52 {Q Q' : mH → Prop} {l1 : Int32} {l2 : Int32} {h : mH} (hQ : ∀ (y0 : mH), Q y0 → Q' y0) : w_X12_figure_J52 Q l1 l2 h → w_X12_figure_J52 Q' l1 l2 h := by
  unfold w_X12_figure_J52
  repeat' (first | with_reducible exact hQ _ | with_reducible refine And.imp ?_ ?_ | with_reducible refine moI ?_ | with_reducible refine moA fun _ => ?_ | with_reducible refine Exists.imp fun _ => ?_ | with_reducible refine mo_X12_faulty (fun _ => ?_) | with_reducible refine mo_X12_addStep (fun _ => ?_) | with_reducible refine mo_X12_look (fun _ _ => ?_) | with_reducible refine mo_X12_in (fun _ _ => ?_) | with_reducible exact id | exact False.elim)
theorem mo_X12_figure {h : mH} {Q Q' : mH → Prop} (hQ : ∀ (y0 : mH), Q y0 → Q' y0) : w_X12_figure h Q → w_X12_figure h Q' := by
  unfold w_X12_figure
  repeat' (first | with_reducible exact hQ _ | with_reducible refine And.imp ?_ ?_ | with_reducible refine moI ?_ | with_reducible refine moA fun _ => ?_ | with_reducible refine Exists.imp fun _ => ?_ | with_reducible refine mo_X12_figure_L4 (fun _ _ _ => ?_) (fun _ => ?_) _ _ _ _ | with_reducible refine mo_X12_figure_J52 (fun _ => ?_) | with_reducible exact id | exact False.elim)
theorem mo_X12_operand_J46 {R_X12_operand : mH → (mH → Prop) → Prop} {R_X12_product : mH → (mH → Prop) → Prop} {R_X12_sum : mH → (mH → Prop) → Prop} {R_X12_compared : mH → (mH → Prop) → Prop} {R_X12_both : mH → (mH → Prop) → Prop} {R_X12_either : mH → (mH → Prop) → Prop} {Q Q' : mH → Prop} {l1 : Int32} {h : mH} (hR_X12_operand : ∀ (y0 : mH) (P P' : mH → Prop), (∀ (z0 : mH), P z0 → P' z0) → R_X12_operand y0 P → R_X12_operand y0 P') (hR_X12_product : ∀ (y0 : mH) (P P' : mH → Prop), (∀ (z0 : mH), P z0 → P' z0) → R_X12_product y0 P → R_X12_product y0 P') (hR_X12_sum : ∀ (y0 : mH) (P P' : mH → Prop), (∀ (z0 : mH), P z0 → P' z0) → R_X12_sum y0 P → R_X12_sum y0 P') (hR_X12_compared : ∀ (y0 : mH) (P P' : mH → Prop), (∀ (z0 : mH), P z0 → P' z0) → R_X12_compared y0 P → R_X12_compared y0 P') (hR_X12_both : ∀ (y0 : mH) (P P' : mH → Prop), (∀ (z0 : mH), P z0 → P' z0) → R_X12_both y0 P → R_X12_both y0 P') (hR_X12_either : ∀ (y0 : mH) (P P' : mH → Prop), (∀ (z0 : mH), P z0 → P' z0) → R_X12_either y0 P → R_X12_either y0 P') (hQ : ∀ (y0 : mH), Q y0 → Q' y0) : w_X12_operand_J46 R_X12_operand R_X12_product R_X12_sum R_X12_compared R_X12_both R_X12_either Q l1 h → w_X12_operand_J46 R_X12_operand R_X12_product R_X12_sum R_X12_compared R_X12_both R_X12_either Q' l1 h := by
  unfold w_X12_operand_J46
  repeat' (first | with_reducible exact hQ _ | with_reducible refine And.imp ?_ ?_ | with_reducible refine moI ?_ | with_reducible refine moA fun _ => ?_ | with_reducible refine Exists.imp fun _ => ?_ | with_reducible refine mo_X12_opens (fun _ _ => ?_) | with_reducible refine hR_X12_operand _ _ _ (fun _ => ?_) | with_reducible refine mo_X12_addStep (fun _ => ?_) | with_reducible exact id | exact False.elim)
theorem mo_wb_X12_operand {R_X12_operand : mH → (mH → Prop) → Prop} {R_X12_product : mH → (mH → Prop) → Prop} {R_X12_sum : mH → (mH → Prop) → Prop} {R_X12_compared : mH → (mH → Prop) → Prop} {R_X12_both : mH → (mH → Prop) → Prop} {R_X12_either : mH → (mH → Prop) → Prop} {h : mH} {Q Q' : mH → Prop} (hR_X12_operand : ∀ (y0 : mH) (P P' : mH → Prop), (∀ (z0 : mH), P z0 → P' z0) → R_X12_operand y0 P → R_X12_operand y0 P') (hR_X12_product : ∀ (y0 : mH) (P P' : mH → Prop), (∀ (z0 : mH), P z0 → P' z0) → R_X12_product y0 P → R_X12_product y0 P') (hR_X12_sum : ∀ (y0 : mH) (P P' : mH → Prop), (∀ (z0 : mH), P z0 → P' z0) → R_X12_sum y0 P → R_X12_sum y0 P') (hR_X12_compared : ∀ (y0 : mH) (P P' : mH → Prop), (∀ (z0 : mH), P z0 → P' z0) → R_X12_compared y0 P → R_X12_compared y0 P') (hR_X12_both : ∀ (y0 : mH) (P P' : mH → Prop), (∀ (z0 : mH), P z0 → P' z0) → R_X12_both y0 P → R_X12_both y0 P') (hR_X12_either : ∀ (y0 : mH) (P P' : mH → Prop), (∀ (z0 : mH), P z0 → P' z0) → R_X12_either y0 P → R_X12_either y0 P') (hQ : ∀ (y0 : mH), Q y0 → Q' y0) : wb_X12_operand R_X12_operand R_X12_product R_X12_sum R_X12_compared R_X12_both R_X12_either h Q → wb_X12_operand R_X12_operand R_X12_product R_X12_sum R_X12_compared R_X12_both R_X12_either h Q' := by
  unfold wb_X12_operand
  repeat' (first | with_reducible exact hQ _ | with_reducible refine And.imp ?_ ?_ | with_reducible refine moI ?_ | with_reducible refine moA fun _ => ?_ | with_reducible refine Exists.imp fun _ => ?_ | with_reducible refine mo_X12_look (fun _ _ => ?_) | with_reducible refine mo_X12_nameOf (fun _ _ => ?_) | with_reducible refine mo_X12_operand_J46 hR_X12_operand hR_X12_product hR_X12_sum hR_X12_compared hR_X12_both hR_X12_either (fun _ => ?_) | with_reducible refine hR_X12_operand _ _ _ (fun _ => ?_) | with_reducible refine hR_X12_product _ _ _ (fun _ => ?_) | with_reducible refine hR_X12_sum _ _ _ (fun _ => ?_) | with_reducible refine hR_X12_compared _ _ _ (fun _ => ?_) | with_reducible refine hR_X12_both _ _ _ (fun _ => ?_) | with_reducible refine hR_X12_either _ _ _ (fun _ => ?_) | with_reducible refine mo_X12_figure (fun _ => ?_) | with_reducible refine mo_X12_opens (fun _ _ => ?_) | with_reducible refine mo_X12_faulty (fun _ => ?_) | with_reducible refine mo_X12_addStep (fun _ => ?_) | with_reducible exact id | exact False.elim)
theorem mo_X12_product_J38 {R_X12_operand : mH → (mH → Prop) → Prop} {R_X12_product : mH → (mH → Prop) → Prop} {R_X12_sum : mH → (mH → Prop) → Prop} {R_X12_compared : mH → (mH → Prop) → Prop} {R_X12_both : mH → (mH → Prop) → Prop} {R_X12_either : mH → (mH → Prop) → Prop} {K4 K4' : mH → Prop} {Q Q' : mH → Prop} {h : mH} (hR_X12_operand : ∀ (y0 : mH) (P P' : mH → Prop), (∀ (z0 : mH), P z0 → P' z0) → R_X12_operand y0 P → R_X12_operand y0 P') (hR_X12_product : ∀ (y0 : mH) (P P' : mH → Prop), (∀ (z0 : mH), P z0 → P' z0) → R_X12_product y0 P → R_X12_product y0 P') (hR_X12_sum : ∀ (y0 : mH) (P P' : mH → Prop), (∀ (z0 : mH), P z0 → P' z0) → R_X12_sum y0 P → R_X12_sum y0 P') (hR_X12_compared : ∀ (y0 : mH) (P P' : mH → Prop), (∀ (z0 : mH), P z0 → P' z0) → R_X12_compared y0 P → R_X12_compared y0 P') (hR_X12_both : ∀ (y0 : mH) (P P' : mH → Prop), (∀ (z0 : mH), P z0 → P' z0) → R_X12_both y0 P → R_X12_both y0 P') (hR_X12_either : ∀ (y0 : mH) (P P' : mH → Prop), (∀ (z0 : mH), P z0 → P' z0) → R_X12_either y0 P → R_X12_either y0 P') (hK4 : ∀ (y0 : mH), K4 y0 → K4' y0) (hQ : ∀ (y0 : mH), Q y0 → Q' y0) : w_X12_product_J38 R_X12_operand R_X12_product R_X12_sum R_X12_compared R_X12_both R_X12_either K4 Q h → w_X12_product_J38 R_X12_operand R_X12_product R_X12_sum R_X12_compared R_X12_both R_X12_either K4' Q' h := by
  unfold w_X12_product_J38
  repeat' (first | with_reducible exact hK4 _ | with_reducible exact hQ _ | with_reducible refine And.imp ?_ ?_ | with_reducible refine moI ?_ | with_reducible refine moA fun _ => ?_ | with_reducible refine Exists.imp fun _ => ?_ | with_reducible refine mo_X12_look (fun _ _ => ?_) | with_reducible refine hR_X12_operand _ _ _ (fun _ => ?_) | with_reducible refine mo_X12_addStep (fun _ => ?_) | with_reducible exact id | exact False.elim)
theorem mo_X12_product_L4 {R_X12_operand : mH → (mH → Prop) → Prop} {R_X12_product : mH → (mH → Prop) → Prop} {R_X12_sum : mH → (mH → Prop) → Prop} {R_X12_compared : mH → (mH → Prop) → Prop} {R_X12_both : mH → (mH → Prop) → Prop} {R_X12_either : mH → (mH → Prop) → Prop} {K66 K66' : mH → Prop} {Q Q' : mH → Prop} (hR_X12_operand : ∀ (y0 : mH) (P P' : mH → Prop), (∀ (z0 : mH), P z0 → P' z0) → R_X12_operand y0 P → R_X12_operand y0 P') (hR_X12_product : ∀ (y0 : mH) (P P' : mH → Prop), (∀ (z0 : mH), P z0 → P' z0) → R_X12_product y0 P → R_X12_product y0 P') (hR_X12_sum : ∀ (y0 : mH) (P P' : mH → Prop), (∀ (z0 : mH), P z0 → P' z0) → R_X12_sum y0 P → R_X12_sum y0 P') (hR_X12_compared : ∀ (y0 : mH) (P P' : mH → Prop), (∀ (z0 : mH), P z0 → P' z0) → R_X12_compared y0 P → R_X12_compared y0 P') (hR_X12_both : ∀ (y0 : mH) (P P' : mH → Prop), (∀ (z0 : mH), P z0 → P' z0) → R_X12_both y0 P → R_X12_both y0 P') (hR_X12_either : ∀ (y0 : mH) (P P' : mH → Prop), (∀ (z0 : mH), P z0 → P' z0) → R_X12_either y0 P → R_X12_either y0 P') (hK66 : ∀ (y0 : mH), K66 y0 → K66' y0) (hQ : ∀ (y0 : mH), Q y0 → Q' y0) : ∀ (y0 : Nat) (y1 : mH), w_X12_product_L4 R_X12_operand R_X12_product R_X12_sum R_X12_compared R_X12_both R_X12_either K66 Q y0 y1 → w_X12_product_L4 R_X12_operand R_X12_product R_X12_sum R_X12_compared R_X12_both R_X12_either K66' Q' y0 y1 := by
  intro n
  induction n with
  | zero => intro y1; exact False.elim
  | succ n ih =>
    intro y1
    unfold w_X12_product_L4
    repeat' (first | with_reducible exact hK66 _ | with_reducible exact hQ _ | with_reducible exact ih _ | with_reducible refine And.imp ?_ ?_ | with_reducible refine moI ?_ | with_reducible refine moA fun _ => ?_ | with_reducible refine Exists.imp fun _ => ?_ | with_reducible refine mo_X12_look (fun _ _ => ?_) | with_reducible refine mo_X12_product_J38 hR_X12_operand hR_X12_product hR_X12_sum hR_X12_compared hR_X12_both hR_X12_either (fun _ => ?_) (fun _ => ?_) | with_reducible refine hR_X12_operand _ _ _ (fun _ => ?_) | with_reducible refine hR_X12_product _ _ _ (fun _ => ?_) | with_reducible refine hR_X12_sum _ _ _ (fun _ => ?_) | with_reducible refine hR_X12_compared _ _ _ (fun _ => ?_) | with_reducible refine hR_X12_both _ _ _ (fun _ => ?_) | with_reducible refine hR_X12_either _ _ _ (fun _ => ?_) | with_reducible exact id | exact False.elim)
theorem mo_wb_X12_product {R_X12_operand : mH → (mH → Prop) → Prop} {R_X12_product : mH → (mH → Prop) → Prop} {R_X12_sum : mH → (mH → Prop) → Prop} {R_X12_compared : mH → (mH → Prop) → Prop} {R_X12_both : mH → (mH → Prop) → Prop} {R_X12_either : mH → (mH → Prop) → Prop} {h : mH} {Q Q' : mH → Prop} (hR_X12_operand : ∀ (y0 : mH) (P P' : mH → Prop), (∀ (z0 : mH), P z0 → P' z0) → R_X12_operand y0 P → R_X12_operand y0 P') (hR_X12_product : ∀ (y0 : mH) (P P' : mH → Prop), (∀ (z0 : mH), P z0 → P' z0) → R_X12_product y0 P → R_X12_product y0 P') (hR_X12_sum : ∀ (y0 : mH) (P P' : mH → Prop), (∀ (z0 : mH), P z0 → P' z0) → R_X12_sum y0 P → R_X12_sum y0 P') (hR_X12_compared : ∀ (y0 : mH) (P P' : mH → Prop), (∀ (z0 : mH), P z0 → P' z0) → R_X12_compared y0 P → R_X12_compared y0 P') (hR_X12_both : ∀ (y0 : mH) (P P' : mH → Prop), (∀ (z0 : mH), P z0 → P' z0) → R_X12_both y0 P → R_X12_both y0 P') (hR_X12_either : ∀ (y0 : mH) (P P' : mH → Prop), (∀ (z0 : mH), P z0 → P' z0) → R_X12_either y0 P → R_X12_either y0 P') (hQ : ∀ (y0 : mH), Q y0 → Q' y0) : wb_X12_product R_X12_operand R_X12_product R_X12_sum R_X12_compared R_X12_both R_X12_either h Q → wb_X12_product R_X12_operand R_X12_product R_X12_sum R_X12_compared R_X12_both R_X12_either h Q' := by
  unfold wb_X12_product
  repeat' (first | with_reducible exact hQ _ | with_reducible refine And.imp ?_ ?_ | with_reducible refine moI ?_ | with_reducible refine moA fun _ => ?_ | with_reducible refine Exists.imp fun _ => ?_ | with_reducible refine hR_X12_operand _ _ _ (fun _ => ?_) | with_reducible refine mo_X12_product_L4 hR_X12_operand hR_X12_product hR_X12_sum hR_X12_compared hR_X12_both hR_X12_either (fun _ => ?_) (fun _ => ?_) _ _ | with_reducible refine hR_X12_product _ _ _ (fun _ => ?_) | with_reducible refine hR_X12_sum _ _ _ (fun _ => ?_) | with_reducible refine hR_X12_compared _ _ _ (fun _ => ?_) | with_reducible refine hR_X12_both _ _ _ (fun _ => ?_) | with_reducible refine hR_X12_either _ _ _ (fun _ => ?_) | with_reducible exact id | exact False.elim)
theorem mo_X12_sum_J29 {R_X12_operand : mH → (mH → Prop) → Prop} {R_X12_product : mH → (mH → Prop) → Prop} {R_X12_sum : mH → (mH → Prop) → Prop} {R_X12_compared : mH → (mH → Prop) → Prop} {R_X12_both : mH → (mH → Prop) → Prop} {R_X12_either : mH → (mH → Prop) → Prop} {K4 K4' : mH → Prop} {Q Q' : mH → Prop} {h : mH} (hR_X12_operand : ∀ (y0 : mH) (P P' : mH → Prop), (∀ (z0 : mH), P z0 → P' z0) → R_X12_operand y0 P → R_X12_operand y0 P') (hR_X12_product : ∀ (y0 : mH) (P P' : mH → Prop), (∀ (z0 : mH), P z0 → P' z0) → R_X12_product y0 P → R_X12_product y0 P') (hR_X12_sum : ∀ (y0 : mH) (P P' : mH → Prop), (∀ (z0 : mH), P z0 → P' z0) → R_X12_sum y0 P → R_X12_sum y0 P') (hR_X12_compared : ∀ (y0 : mH) (P P' : mH → Prop), (∀ (z0 : mH), P z0 → P' z0) → R_X12_compared y0 P → R_X12_compared y0 P') (hR_X12_both : ∀ (y0 : mH) (P P' : mH → Prop), (∀ (z0 : mH), P z0 → P' z0) → R_X12_both y0 P → R_X12_both y0 P') (hR_X12_either : ∀ (y0 : mH) (P P' : mH → Prop), (∀ (z0 : mH), P z0 → P' z0) → R_X12_either y0 P → R_X12_either y0 P') (hK4 : ∀ (y0 : mH), K4 y0 → K4' y0) (hQ : ∀ (y0 : mH), Q y0 → Q' y0) : w_X12_sum_J29 R_X12_operand R_X12_product R_X12_sum R_X12_compared R_X12_both R_X12_either K4 Q h → w_X12_sum_J29 R_X12_operand R_X12_product R_X12_sum R_X12_compared R_X12_both R_X12_either K4' Q' h := by
  unfold w_X12_sum_J29
  repeat' (first | with_reducible exact hK4 _ | with_reducible exact hQ _ | with_reducible refine And.imp ?_ ?_ | with_reducible refine moI ?_ | with_reducible refine moA fun _ => ?_ | with_reducible refine Exists.imp fun _ => ?_ | with_reducible refine mo_X12_look (fun _ _ => ?_) | with_reducible refine hR_X12_product _ _ _ (fun _ => ?_) | with_reducible refine mo_X12_addStep (fun _ => ?_) | with_reducible exact id | exact False.elim)
theorem mo_X12_sum_L4 {R_X12_operand : mH → (mH → Prop) → Prop} {R_X12_product : mH → (mH → Prop) → Prop} {R_X12_sum : mH → (mH → Prop) → Prop} {R_X12_compared : mH → (mH → Prop) → Prop} {R_X12_both : mH → (mH → Prop) → Prop} {R_X12_either : mH → (mH → Prop) → Prop} {K57 K57' : mH → Prop} {Q Q' : mH → Prop} (hR_X12_operand : ∀ (y0 : mH) (P P' : mH → Prop), (∀ (z0 : mH), P z0 → P' z0) → R_X12_operand y0 P → R_X12_operand y0 P') (hR_X12_product : ∀ (y0 : mH) (P P' : mH → Prop), (∀ (z0 : mH), P z0 → P' z0) → R_X12_product y0 P → R_X12_product y0 P') (hR_X12_sum : ∀ (y0 : mH) (P P' : mH → Prop), (∀ (z0 : mH), P z0 → P' z0) → R_X12_sum y0 P → R_X12_sum y0 P') (hR_X12_compared : ∀ (y0 : mH) (P P' : mH → Prop), (∀ (z0 : mH), P z0 → P' z0) → R_X12_compared y0 P → R_X12_compared y0 P') (hR_X12_both : ∀ (y0 : mH) (P P' : mH → Prop), (∀ (z0 : mH), P z0 → P' z0) → R_X12_both y0 P → R_X12_both y0 P') (hR_X12_either : ∀ (y0 : mH) (P P' : mH → Prop), (∀ (z0 : mH), P z0 → P' z0) → R_X12_either y0 P → R_X12_either y0 P') (hK57 : ∀ (y0 : mH), K57 y0 → K57' y0) (hQ : ∀ (y0 : mH), Q y0 → Q' y0) : ∀ (y0 : Nat) (y1 : mH), w_X12_sum_L4 R_X12_operand R_X12_product R_X12_sum R_X12_compared R_X12_both R_X12_either K57 Q y0 y1 → w_X12_sum_L4 R_X12_operand R_X12_product R_X12_sum R_X12_compared R_X12_both R_X12_either K57' Q' y0 y1 := by
  intro n
  induction n with
  | zero => intro y1; exact False.elim
  | succ n ih =>
    intro y1
    unfold w_X12_sum_L4
    repeat' (first | with_reducible exact hK57 _ | with_reducible exact hQ _ | with_reducible exact ih _ | with_reducible refine And.imp ?_ ?_ | with_reducible refine moI ?_ | with_reducible refine moA fun _ => ?_ | with_reducible refine Exists.imp fun _ => ?_ | with_reducible refine mo_X12_look (fun _ _ => ?_) | with_reducible refine mo_X12_sum_J29 hR_X12_operand hR_X12_product hR_X12_sum hR_X12_compared hR_X12_both hR_X12_either (fun _ => ?_) (fun _ => ?_) | with_reducible refine hR_X12_operand _ _ _ (fun _ => ?_) | with_reducible refine hR_X12_product _ _ _ (fun _ => ?_) | with_reducible refine hR_X12_sum _ _ _ (fun _ => ?_) | with_reducible refine hR_X12_compared _ _ _ (fun _ => ?_) | with_reducible refine hR_X12_both _ _ _ (fun _ => ?_) | with_reducible refine hR_X12_either _ _ _ (fun _ => ?_) | with_reducible exact id | exact False.elim)
theorem mo_wb_X12_sum {R_X12_operand : mH → (mH → Prop) → Prop} {R_X12_product : mH → (mH → Prop) → Prop} {R_X12_sum : mH → (mH → Prop) → Prop} {R_X12_compared : mH → (mH → Prop) → Prop} {R_X12_both : mH → (mH → Prop) → Prop} {R_X12_either : mH → (mH → Prop) → Prop} {h : mH} {Q Q' : mH → Prop} (hR_X12_operand : ∀ (y0 : mH) (P P' : mH → Prop), (∀ (z0 : mH), P z0 → P' z0) → R_X12_operand y0 P → R_X12_operand y0 P') (hR_X12_product : ∀ (y0 : mH) (P P' : mH → Prop), (∀ (z0 : mH), P z0 → P' z0) → R_X12_product y0 P → R_X12_product y0 P') (hR_X12_sum : ∀ (y0 : mH) (P P' : mH → Prop), (∀ (z0 : mH), P z0 → P' z0) → R_X12_sum y0 P → R_X12_sum y0 P') (hR_X12_compared : ∀ (y0 : mH) (P P' : mH → Prop), (∀ (z0 : mH), P z0 → P' z0) → R_X12_compared y0 P → R_X12_compared y0 P') (hR_X12_both : ∀ (y0 : mH) (P P' : mH → Prop), (∀ (z0 : mH), P z0 → P' z0) → R_X12_both y0 P → R_X12_both y0 P') (hR_X12_either : ∀ (y0 : mH) (P P' : mH → Prop), (∀ (z0 : mH), P z0 → P' z0) → R_X12_either y0 P → R_X12_either y0 P') (hQ : ∀ (y0 : mH), Q y0 → Q' y0) : wb_X12_sum R_X12_operand R_X12_product R_X12_sum R_X12_compared R_X12_both R_X12_either h Q → wb_X12_sum R_X12_operand R_X12_product R_X12_sum R_X12_compared R_X12_both R_X12_either h Q' := by
  unfold wb_X12_sum
  repeat' (first | with_reducible exact hQ _ | with_reducible refine And.imp ?_ ?_ | with_reducible refine moI ?_ | with_reducible refine moA fun _ => ?_ | with_reducible refine Exists.imp fun _ => ?_ | with_reducible refine hR_X12_product _ _ _ (fun _ => ?_) | with_reducible refine mo_X12_sum_L4 hR_X12_operand hR_X12_product hR_X12_sum hR_X12_compared hR_X12_both hR_X12_either (fun _ => ?_) (fun _ => ?_) _ _ | with_reducible refine hR_X12_operand _ _ _ (fun _ => ?_) | with_reducible refine hR_X12_sum _ _ _ (fun _ => ?_) | with_reducible refine hR_X12_compared _ _ _ (fun _ => ?_) | with_reducible refine hR_X12_both _ _ _ (fun _ => ?_) | with_reducible refine hR_X12_either _ _ _ (fun _ => ?_) | with_reducible exact id | exact False.elim)
theorem mo_X12_compared_J35 {R_X12_operand : mH → (mH → Prop) → Prop} {R_X12_product : mH → (mH → Prop) → Prop} {R_X12_sum : mH → (mH → Prop) → Prop} {R_X12_compared : mH → (mH → Prop) → Prop} {R_X12_both : mH → (mH → Prop) → Prop} {R_X12_either : mH → (mH → Prop) → Prop} {Q Q' : mH → Prop} {l1 : Int32} {h : mH} (hR_X12_operand : ∀ (y0 : mH) (P P' : mH → Prop), (∀ (z0 : mH), P z0 → P' z0) → R_X12_operand y0 P → R_X12_operand y0 P') (hR_X12_product : ∀ (y0 : mH) (P P' : mH → Prop), (∀ (z0 : mH), P z0 → P' z0) → R_X12_product y0 P → R_X12_product y0 P') (hR_X12_sum : ∀ (y0 : mH) (P P' : mH → Prop), (∀ (z0 : mH), P z0 → P' z0) → R_X12_sum y0 P → R_X12_sum y0 P') (hR_X12_compared : ∀ (y0 : mH) (P P' : mH → Prop), (∀ (z0 : mH), P z0 → P' z0) → R_X12_compared y0 P → R_X12_compared y0 P') (hR_X12_both : ∀ (y0 : mH) (P P' : mH → Prop), (∀ (z0 : mH), P z0 → P' z0) → R_X12_both y0 P → R_X12_both y0 P') (hR_X12_either : ∀ (y0 : mH) (P P' : mH → Prop), (∀ (z0 : mH), P z0 → P' z0) → R_X12_either y0 P → R_X12_either y0 P') (hQ : ∀ (y0 : mH), Q y0 → Q' y0) : w_X12_compared_J35 R_X12_operand R_X12_product R_X12_sum R_X12_compared R_X12_both R_X12_either Q l1 h → w_X12_compared_J35 R_X12_operand R_X12_product R_X12_sum R_X12_compared R_X12_both R_X12_either Q' l1 h := by
  unfold w_X12_compared_J35
  repeat' (first | with_reducible exact hQ _ | with_reducible refine And.imp ?_ ?_ | with_reducible refine moI ?_ | with_reducible refine moA fun _ => ?_ | with_reducible refine Exists.imp fun _ => ?_ | with_reducible refine hR_X12_sum _ _ _ (fun _ => ?_) | with_reducible refine mo_X12_addStep (fun _ => ?_) | with_reducible exact id | exact False.elim)
theorem mo_wb_X12_compared {R_X12_operand : mH → (mH → Prop) → Prop} {R_X12_product : mH → (mH → Prop) → Prop} {R_X12_sum : mH → (mH → Prop) → Prop} {R_X12_compared : mH → (mH → Prop) → Prop} {R_X12_both : mH → (mH → Prop) → Prop} {R_X12_either : mH → (mH → Prop) → Prop} {h : mH} {Q Q' : mH → Prop} (hR_X12_operand : ∀ (y0 : mH) (P P' : mH → Prop), (∀ (z0 : mH), P z0 → P' z0) → R_X12_operand y0 P → R_X12_operand y0 P') (hR_X12_product : ∀ (y0 : mH) (P P' : mH → Prop), (∀ (z0 : mH), P z0 → P' z0) → R_X12_product y0 P → R_X12_product y0 P') (hR_X12_sum : ∀ (y0 : mH) (P P' : mH → Prop), (∀ (z0 : mH), P z0 → P' z0) → R_X12_sum y0 P → R_X12_sum y0 P') (hR_X12_compared : ∀ (y0 : mH) (P P' : mH → Prop), (∀ (z0 : mH), P z0 → P' z0) → R_X12_compared y0 P → R_X12_compared y0 P') (hR_X12_both : ∀ (y0 : mH) (P P' : mH → Prop), (∀ (z0 : mH), P z0 → P' z0) → R_X12_both y0 P → R_X12_both y0 P') (hR_X12_either : ∀ (y0 : mH) (P P' : mH → Prop), (∀ (z0 : mH), P z0 → P' z0) → R_X12_either y0 P → R_X12_either y0 P') (hQ : ∀ (y0 : mH), Q y0 → Q' y0) : wb_X12_compared R_X12_operand R_X12_product R_X12_sum R_X12_compared R_X12_both R_X12_either h Q → wb_X12_compared R_X12_operand R_X12_product R_X12_sum R_X12_compared R_X12_both R_X12_either h Q' := by
  unfold wb_X12_compared
  repeat' (first | with_reducible exact hQ _ | with_reducible refine And.imp ?_ ?_ | with_reducible refine moI ?_ | with_reducible refine moA fun _ => ?_ | with_reducible refine Exists.imp fun _ => ?_ | with_reducible refine hR_X12_sum _ _ _ (fun _ => ?_) | with_reducible refine mo_X12_look (fun _ _ => ?_) | with_reducible refine mo_X12_compared_J35 hR_X12_operand hR_X12_product hR_X12_sum hR_X12_compared hR_X12_both hR_X12_either (fun _ => ?_) | with_reducible refine hR_X12_operand _ _ _ (fun _ => ?_) | with_reducible refine hR_X12_product _ _ _ (fun _ => ?_) | with_reducible refine hR_X12_compared _ _ _ (fun _ => ?_) | with_reducible refine hR_X12_both _ _ _ (fun _ => ?_) | with_reducible refine hR_X12_either _ _ _ (fun _ => ?_) | with_reducible exact id | exact False.elim)
theorem mo_X12_both_L4 {R_X12_operand : mH → (mH → Prop) → Prop} {R_X12_product : mH → (mH → Prop) → Prop} {R_X12_sum : mH → (mH → Prop) → Prop} {R_X12_compared : mH → (mH → Prop) → Prop} {R_X12_both : mH → (mH → Prop) → Prop} {R_X12_either : mH → (mH → Prop) → Prop} {K44 K44' : mH → Prop} {Q Q' : mH → Prop} (hR_X12_operand : ∀ (y0 : mH) (P P' : mH → Prop), (∀ (z0 : mH), P z0 → P' z0) → R_X12_operand y0 P → R_X12_operand y0 P') (hR_X12_product : ∀ (y0 : mH) (P P' : mH → Prop), (∀ (z0 : mH), P z0 → P' z0) → R_X12_product y0 P → R_X12_product y0 P') (hR_X12_sum : ∀ (y0 : mH) (P P' : mH → Prop), (∀ (z0 : mH), P z0 → P' z0) → R_X12_sum y0 P → R_X12_sum y0 P') (hR_X12_compared : ∀ (y0 : mH) (P P' : mH → Prop), (∀ (z0 : mH), P z0 → P' z0) → R_X12_compared y0 P → R_X12_compared y0 P') (hR_X12_both : ∀ (y0 : mH) (P P' : mH → Prop), (∀ (z0 : mH), P z0 → P' z0) → R_X12_both y0 P → R_X12_both y0 P') (hR_X12_either : ∀ (y0 : mH) (P P' : mH → Prop), (∀ (z0 : mH), P z0 → P' z0) → R_X12_either y0 P → R_X12_either y0 P') (hK44 : ∀ (y0 : mH), K44 y0 → K44' y0) (hQ : ∀ (y0 : mH), Q y0 → Q' y0) : ∀ (y0 : Nat) (y1 : mH), w_X12_both_L4 R_X12_operand R_X12_product R_X12_sum R_X12_compared R_X12_both R_X12_either K44 Q y0 y1 → w_X12_both_L4 R_X12_operand R_X12_product R_X12_sum R_X12_compared R_X12_both R_X12_either K44' Q' y0 y1 := by
  intro n
  induction n with
  | zero => intro y1; exact False.elim
  | succ n ih =>
    intro y1
    unfold w_X12_both_L4
    repeat' (first | with_reducible exact hK44 _ | with_reducible exact hQ _ | with_reducible exact ih _ | with_reducible refine And.imp ?_ ?_ | with_reducible refine moI ?_ | with_reducible refine moA fun _ => ?_ | with_reducible refine Exists.imp fun _ => ?_ | with_reducible refine mo_X12_look (fun _ _ => ?_) | with_reducible refine hR_X12_compared _ _ _ (fun _ => ?_) | with_reducible refine mo_X12_addStep (fun _ => ?_) | with_reducible refine hR_X12_operand _ _ _ (fun _ => ?_) | with_reducible refine hR_X12_product _ _ _ (fun _ => ?_) | with_reducible refine hR_X12_sum _ _ _ (fun _ => ?_) | with_reducible refine hR_X12_both _ _ _ (fun _ => ?_) | with_reducible refine hR_X12_either _ _ _ (fun _ => ?_) | with_reducible exact id | exact False.elim)
theorem mo_wb_X12_both {R_X12_operand : mH → (mH → Prop) → Prop} {R_X12_product : mH → (mH → Prop) → Prop} {R_X12_sum : mH → (mH → Prop) → Prop} {R_X12_compared : mH → (mH → Prop) → Prop} {R_X12_both : mH → (mH → Prop) → Prop} {R_X12_either : mH → (mH → Prop) → Prop} {h : mH} {Q Q' : mH → Prop} (hR_X12_operand : ∀ (y0 : mH) (P P' : mH → Prop), (∀ (z0 : mH), P z0 → P' z0) → R_X12_operand y0 P → R_X12_operand y0 P') (hR_X12_product : ∀ (y0 : mH) (P P' : mH → Prop), (∀ (z0 : mH), P z0 → P' z0) → R_X12_product y0 P → R_X12_product y0 P') (hR_X12_sum : ∀ (y0 : mH) (P P' : mH → Prop), (∀ (z0 : mH), P z0 → P' z0) → R_X12_sum y0 P → R_X12_sum y0 P') (hR_X12_compared : ∀ (y0 : mH) (P P' : mH → Prop), (∀ (z0 : mH), P z0 → P' z0) → R_X12_compared y0 P → R_X12_compared y0 P') (hR_X12_both : ∀ (y0 : mH) (P P' : mH → Prop), (∀ (z0 : mH), P z0 → P' z0) → R_X12_both y0 P → R_X12_both y0 P') (hR_X12_either : ∀ (y0 : mH) (P P' : mH → Prop), (∀ (z0 : mH), P z0 → P' z0) → R_X12_either y0 P → R_X12_either y0 P') (hQ : ∀ (y0 : mH), Q y0 → Q' y0) : wb_X12_both R_X12_operand R_X12_product R_X12_sum R_X12_compared R_X12_both R_X12_either h Q → wb_X12_both R_X12_operand R_X12_product R_X12_sum R_X12_compared R_X12_both R_X12_either h Q' := by
  unfold wb_X12_both
  repeat' (first | with_reducible exact hQ _ | with_reducible refine And.imp ?_ ?_ | with_reducible refine moI ?_ | with_reducible refine moA fun _ => ?_ | with_reducible refine Exists.imp fun _ => ?_ | with_reducible refine hR_X12_compared _ _ _ (fun _ => ?_) | with_reducible refine mo_X12_both_L4 hR_X12_operand hR_X12_product hR_X12_sum hR_X12_compared hR_X12_both hR_X12_either (fun _ => ?_) (fun _ => ?_) _ _ | with_reducible refine hR_X12_operand _ _ _ (fun _ => ?_) | with_reducible refine hR_X12_product _ _ _ (fun _ => ?_) | with_reducible refine hR_X12_sum _ _ _ (fun _ => ?_) | with_reducible refine hR_X12_both _ _ _ (fun _ => ?_) | with_reducible refine hR_X12_either _ _ _ (fun _ => ?_) | with_reducible exact id | exact False.elim)
theorem mo_X12_either_L4 {R_X12_operand : mH → (mH → Prop) → Prop} {R_X12_product : mH → (mH → Prop) → Prop} {R_X12_sum : mH → (mH → Prop) → Prop} {R_X12_compared : mH → (mH → Prop) → Prop} {R_X12_both : mH → (mH → Prop) → Prop} {R_X12_either : mH → (mH → Prop) → Prop} {K44 K44' : mH → Prop} {Q Q' : mH → Prop} (hR_X12_operand : ∀ (y0 : mH) (P P' : mH → Prop), (∀ (z0 : mH), P z0 → P' z0) → R_X12_operand y0 P → R_X12_operand y0 P') (hR_X12_product : ∀ (y0 : mH) (P P' : mH → Prop), (∀ (z0 : mH), P z0 → P' z0) → R_X12_product y0 P → R_X12_product y0 P') (hR_X12_sum : ∀ (y0 : mH) (P P' : mH → Prop), (∀ (z0 : mH), P z0 → P' z0) → R_X12_sum y0 P → R_X12_sum y0 P') (hR_X12_compared : ∀ (y0 : mH) (P P' : mH → Prop), (∀ (z0 : mH), P z0 → P' z0) → R_X12_compared y0 P → R_X12_compared y0 P') (hR_X12_both : ∀ (y0 : mH) (P P' : mH → Prop), (∀ (z0 : mH), P z0 → P' z0) → R_X12_both y0 P → R_X12_both y0 P') (hR_X12_either : ∀ (y0 : mH) (P P' : mH → Prop), (∀ (z0 : mH), P z0 → P' z0) → R_X12_either y0 P → R_X12_either y0 P') (hK44 : ∀ (y0 : mH), K44 y0 → K44' y0) (hQ : ∀ (y0 : mH), Q y0 → Q' y0) : ∀ (y0 : Nat) (y1 : mH), w_X12_either_L4 R_X12_operand R_X12_product R_X12_sum R_X12_compared R_X12_both R_X12_either K44 Q y0 y1 → w_X12_either_L4 R_X12_operand R_X12_product R_X12_sum R_X12_compared R_X12_both R_X12_either K44' Q' y0 y1 := by
  intro n
  induction n with
  | zero => intro y1; exact False.elim
  | succ n ih =>
    intro y1
    unfold w_X12_either_L4
    repeat' (first | with_reducible exact hK44 _ | with_reducible exact hQ _ | with_reducible exact ih _ | with_reducible refine And.imp ?_ ?_ | with_reducible refine moI ?_ | with_reducible refine moA fun _ => ?_ | with_reducible refine Exists.imp fun _ => ?_ | with_reducible refine mo_X12_look (fun _ _ => ?_) | with_reducible refine hR_X12_both _ _ _ (fun _ => ?_) | with_reducible refine mo_X12_addStep (fun _ => ?_) | with_reducible refine hR_X12_operand _ _ _ (fun _ => ?_) | with_reducible refine hR_X12_product _ _ _ (fun _ => ?_) | with_reducible refine hR_X12_sum _ _ _ (fun _ => ?_) | with_reducible refine hR_X12_compared _ _ _ (fun _ => ?_) | with_reducible refine hR_X12_either _ _ _ (fun _ => ?_) | with_reducible exact id | exact False.elim)
theorem mo_wb_X12_either {R_X12_operand : mH → (mH → Prop) → Prop} {R_X12_product : mH → (mH → Prop) → Prop} {R_X12_sum : mH → (mH → Prop) → Prop} {R_X12_compared : mH → (mH → Prop) → Prop} {R_X12_both : mH → (mH → Prop) → Prop} {R_X12_either : mH → (mH → Prop) → Prop} {h : mH} {Q Q' : mH → Prop} (hR_X12_operand : ∀ (y0 : mH) (P P' : mH → Prop), (∀ (z0 : mH), P z0 → P' z0) → R_X12_operand y0 P → R_X12_operand y0 P') (hR_X12_product : ∀ (y0 : mH) (P P' : mH → Prop), (∀ (z0 : mH), P z0 → P' z0) → R_X12_product y0 P → R_X12_product y0 P') (hR_X12_sum : ∀ (y0 : mH) (P P' : mH → Prop), (∀ (z0 : mH), P z0 → P' z0) → R_X12_sum y0 P → R_X12_sum y0 P') (hR_X12_compared : ∀ (y0 : mH) (P P' : mH → Prop), (∀ (z0 : mH), P z0 → P' z0) → R_X12_compared y0 P → R_X12_compared y0 P') (hR_X12_both : ∀ (y0 : mH) (P P' : mH → Prop), (∀ (z0 : mH), P z0 → P' z0) → R_X12_both y0 P → R_X12_both y0 P') (hR_X12_either : ∀ (y0 : mH) (P P' : mH → Prop), (∀ (z0 : mH), P z0 → P' z0) → R_X12_either y0 P → R_X12_either y0 P') (hQ : ∀ (y0 : mH), Q y0 → Q' y0) : wb_X12_either R_X12_operand R_X12_product R_X12_sum R_X12_compared R_X12_both R_X12_either h Q → wb_X12_either R_X12_operand R_X12_product R_X12_sum R_X12_compared R_X12_both R_X12_either h Q' := by
  unfold wb_X12_either
  repeat' (first | with_reducible exact hQ _ | with_reducible refine And.imp ?_ ?_ | with_reducible refine moI ?_ | with_reducible refine moA fun _ => ?_ | with_reducible refine Exists.imp fun _ => ?_ | with_reducible refine hR_X12_both _ _ _ (fun _ => ?_) | with_reducible refine mo_X12_either_L4 hR_X12_operand hR_X12_product hR_X12_sum hR_X12_compared hR_X12_both hR_X12_either (fun _ => ?_) (fun _ => ?_) _ _ | with_reducible refine hR_X12_operand _ _ _ (fun _ => ?_) | with_reducible refine hR_X12_product _ _ _ (fun _ => ?_) | with_reducible refine hR_X12_sum _ _ _ (fun _ => ?_) | with_reducible refine hR_X12_compared _ _ _ (fun _ => ?_) | with_reducible refine hR_X12_either _ _ _ (fun _ => ?_) | with_reducible exact id | exact False.elim)
theorem mo_wr_2 : ∀ N : Nat, (∀ (y0 : mH) (P P' : mH → Prop), (∀ (z0 : mH), P z0 → P' z0) → (wr_2 N).1 y0 P → (wr_2 N).1 y0 P') ∧ (∀ (y0 : mH) (P P' : mH → Prop), (∀ (z0 : mH), P z0 → P' z0) → (wr_2 N).2.1 y0 P → (wr_2 N).2.1 y0 P') ∧ (∀ (y0 : mH) (P P' : mH → Prop), (∀ (z0 : mH), P z0 → P' z0) → (wr_2 N).2.2.1 y0 P → (wr_2 N).2.2.1 y0 P') ∧ (∀ (y0 : mH) (P P' : mH → Prop), (∀ (z0 : mH), P z0 → P' z0) → (wr_2 N).2.2.2.1 y0 P → (wr_2 N).2.2.2.1 y0 P') ∧ (∀ (y0 : mH) (P P' : mH → Prop), (∀ (z0 : mH), P z0 → P' z0) → (wr_2 N).2.2.2.2.1 y0 P → (wr_2 N).2.2.2.2.1 y0 P') ∧ (∀ (y0 : mH) (P P' : mH → Prop), (∀ (z0 : mH), P z0 → P' z0) → (wr_2 N).2.2.2.2.2 y0 P → (wr_2 N).2.2.2.2.2 y0 P') := by
  intro N
  induction N with
  | zero => exact ⟨fun _ _ _ _ z => z, fun _ _ _ _ z => z, fun _ _ _ _ z => z, fun _ _ _ _ z => z, fun _ _ _ _ z => z, fun _ _ _ _ z => z⟩
  | succ N ih => exact ⟨fun _ _ _ hP => mo_wb_X12_operand ih.1 ih.2.1 ih.2.2.1 ih.2.2.2.1 ih.2.2.2.2.1 ih.2.2.2.2.2 hP, fun _ _ _ hP => mo_wb_X12_product ih.1 ih.2.1 ih.2.2.1 ih.2.2.2.1 ih.2.2.2.2.1 ih.2.2.2.2.2 hP, fun _ _ _ hP => mo_wb_X12_sum ih.1 ih.2.1 ih.2.2.1 ih.2.2.2.1 ih.2.2.2.2.1 ih.2.2.2.2.2 hP, fun _ _ _ hP => mo_wb_X12_compared ih.1 ih.2.1 ih.2.2.1 ih.2.2.2.1 ih.2.2.2.2.1 ih.2.2.2.2.2 hP, fun _ _ _ hP => mo_wb_X12_both ih.1 ih.2.1 ih.2.2.1 ih.2.2.2.1 ih.2.2.2.2.1 ih.2.2.2.2.2 hP, fun _ _ _ hP => mo_wb_X12_either ih.1 ih.2.1 ih.2.2.1 ih.2.2.2.1 ih.2.2.2.2.1 ih.2.2.2.2.2 hP⟩
theorem mo_X12_line_J66 {Q Q' : mH → Prop} {l1 : Int32} {h : mH} (hQ : ∀ (y0 : mH), Q y0 → Q' y0) : w_X12_line_J66 Q l1 h → w_X12_line_J66 Q' l1 h := by
  unfold w_X12_line_J66
  repeat' (first | with_reducible exact hQ _ | with_reducible refine And.imp ?_ ?_ | with_reducible refine moI ?_ | with_reducible refine moA fun _ => ?_ | with_reducible refine Exists.imp fun _ => ?_ | with_reducible exact id | exact False.elim)
theorem mo_X12_line {h : mH} {Q Q' : mH → Prop} (hQ : ∀ (y0 : mH), Q y0 → Q' y0) : w_X12_line h Q → w_X12_line h Q' := by
  unfold w_X12_line
  repeat' (first | with_reducible exact hQ _ | with_reducible refine And.imp ?_ ?_ | with_reducible refine moI ?_ | with_reducible refine moA fun _ => ?_ | with_reducible refine Exists.imp fun _ => ?_ | with_reducible refine (mo_wr_2 _).2.2.2.2.2 _ _ _ (fun _ => ?_) | with_reducible refine mo_X12_line_J66 (fun _ => ?_) | with_reducible refine mo_X12_look (fun _ _ => ?_) | with_reducible exact id | exact False.elim)
theorem mo_X12_readText_L31 {K64 K64' : mH → Prop} {Q Q' : Int32 → mH → Prop} {l1 : Int32} (hK64 : ∀ (y0 : mH), K64 y0 → K64' y0) (hQ : ∀ (y0 : Int32) (y1 : mH), Q y0 y1 → Q' y0 y1) : ∀ (y0 : Nat) (y1 : mH), w_X12_readText_L31 K64 Q l1 y0 y1 → w_X12_readText_L31 K64' Q' l1 y0 y1 := by
  intro n
  induction n with
  | zero => intro y1; exact False.elim
  | succ n ih =>
    intro y1
    unfold w_X12_readText_L31
    repeat' (first | with_reducible exact hK64 _ | with_reducible exact hQ _ _ | with_reducible exact ih _ | with_reducible refine And.imp ?_ ?_ | with_reducible refine moI ?_ | with_reducible refine moA fun _ => ?_ | with_reducible refine Exists.imp fun _ => ?_ | with_reducible refine mo_X12_look (fun _ _ => ?_) | with_reducible refine mo_X12_line (fun _ => ?_) | with_reducible exact id | exact False.elim)
theorem mo_X12_readText_L105 {K163 K163' : mH → Prop} {Q Q' : Int32 → mH → Prop} {l1 : Int32} (hK163 : ∀ (y0 : mH), K163 y0 → K163' y0) (hQ : ∀ (y0 : Int32) (y1 : mH), Q y0 y1 → Q' y0 y1) : ∀ (y0 : Nat) (y1 : Int32) (y2 : mH), w_X12_readText_L105 K163 Q l1 y0 y1 y2 → w_X12_readText_L105 K163' Q' l1 y0 y1 y2 := by
  intro n
  induction n with
  | zero => intro y1 y2; exact False.elim
  | succ n ih =>
    intro y1 y2
    unfold w_X12_readText_L105
    repeat' (first | with_reducible exact hK163 _ | with_reducible exact hQ _ _ | with_reducible exact ih _ _ | with_reducible refine And.imp ?_ ?_ | with_reducible refine moI ?_ | with_reducible refine moA fun _ => ?_ | with_reducible refine Exists.imp fun _ => ?_ | with_reducible exact id | exact False.elim)
theorem mo_X12_readText_L177 {K233 K233' : mH → Prop} {Q Q' : Int32 → mH → Prop} {l1 : Int32} (hK233 : ∀ (y0 : mH), K233 y0 → K233' y0) (hQ : ∀ (y0 : Int32) (y1 : mH), Q y0 y1 → Q' y0 y1) : ∀ (y0 : Nat) (y1 : Int32) (y2 : mH), w_X12_readText_L177 K233 Q l1 y0 y1 y2 → w_X12_readText_L177 K233' Q' l1 y0 y1 y2 := by
  intro n
  induction n with
  | zero => intro y1 y2; exact False.elim
  | succ n ih =>
    intro y1 y2
    unfold w_X12_readText_L177
    repeat' (first | with_reducible exact hK233 _ | with_reducible exact hQ _ _ | with_reducible exact ih _ _ | with_reducible refine And.imp ?_ ?_ | with_reducible refine moI ?_ | with_reducible refine moA fun _ => ?_ | with_reducible refine Exists.imp fun _ => ?_ | with_reducible exact id | exact False.elim)
theorem mo_X12_readText_J64 {Q Q' : Int32 → mH → Prop} {l1 : Int32} {h : mH} (hQ : ∀ (y0 : Int32) (y1 : mH), Q y0 y1 → Q' y0 y1) : w_X12_readText_J64 Q l1 h → w_X12_readText_J64 Q' l1 h := by
  unfold w_X12_readText_J64
  repeat' (first | with_reducible exact hQ _ _ | with_reducible refine And.imp ?_ ?_ | with_reducible refine moI ?_ | with_reducible refine moA fun _ => ?_ | with_reducible refine Exists.imp fun _ => ?_ | with_reducible refine mo_X12_readText_L105 (fun _ => ?_) (fun _ _ => ?_) _ _ _ | with_reducible refine mo_X12_readText_L177 (fun _ => ?_) (fun _ _ => ?_) _ _ _ | with_reducible refine mo_X12_faulty (fun _ => ?_) | with_reducible exact id | exact False.elim)
theorem mo_X12_readText {a1 : Int32} {h : mH} {Q Q' : Int32 → mH → Prop} (hQ : ∀ (y0 : Int32) (y1 : mH), Q y0 y1 → Q' y0 y1) : w_X12_readText a1 h Q → w_X12_readText a1 h Q' := by
  unfold w_X12_readText
  repeat' (first | with_reducible exact hQ _ _ | with_reducible refine And.imp ?_ ?_ | with_reducible refine moI ?_ | with_reducible refine moA fun _ => ?_ | with_reducible refine Exists.imp fun _ => ?_ | with_reducible refine mo_X12_line (fun _ => ?_) | with_reducible refine mo_X12_readText_L31 (fun _ => ?_) (fun _ _ => ?_) _ _ | with_reducible refine mo_X12_readText_J64 (fun _ _ => ?_) | with_reducible exact id | exact False.elim)
theorem mo_X12_twoOf {a0 : Int32} {a1 : Int32} {a2 : Int32} {h : mH} {Q Q' : Int32 → mH → Prop} (hQ : ∀ (y0 : Int32) (y1 : mH), Q y0 y1 → Q' y0 y1) : w_X12_twoOf a0 a1 a2 h Q → w_X12_twoOf a0 a1 a2 h Q' := by
  unfold w_X12_twoOf
  repeat' (first | with_reducible exact hQ _ _ | with_reducible refine And.imp ?_ ?_ | with_reducible refine moI ?_ | with_reducible refine moA fun _ => ?_ | with_reducible refine Exists.imp fun _ => ?_ | with_reducible exact id | exact False.elim)
theorem mo_X12_worked_J45 {K12 K12' : Int32 → Int32 → mH → Prop} {Q Q' : Int32 → mH → Prop} {l1 : Int32} {l3 : Int32} {l4 : Int32} {l5 : Int32} {l6 : Int32} {h : mH} (hK12 : ∀ (y0 : Int32) (y1 : Int32) (y2 : mH), K12 y0 y1 y2 → K12' y0 y1 y2) (hQ : ∀ (y0 : Int32) (y1 : mH), Q y0 y1 → Q' y0 y1) : w_X12_worked_J45 K12 Q l1 l3 l4 l5 l6 h → w_X12_worked_J45 K12' Q' l1 l3 l4 l5 l6 h := by
  unfold w_X12_worked_J45
  repeat' (first | with_reducible exact hK12 _ _ _ | with_reducible exact hQ _ _ | with_reducible refine And.imp ?_ ?_ | with_reducible refine moI ?_ | with_reducible refine moA fun _ => ?_ | with_reducible refine Exists.imp fun _ => ?_ | with_reducible exact id | exact False.elim)
theorem mo_X12_worked_L12 {K188 K188' : mH → Prop} {Q Q' : Int32 → mH → Prop} {l1 : Int32} {l3 : Int32} (hK188 : ∀ (y0 : mH), K188 y0 → K188' y0) (hQ : ∀ (y0 : Int32) (y1 : mH), Q y0 y1 → Q' y0 y1) : ∀ (y0 : Nat) (y1 : Int32) (y2 : Int32) (y3 : mH), w_X12_worked_L12 K188 Q l1 l3 y0 y1 y2 y3 → w_X12_worked_L12 K188' Q' l1 l3 y0 y1 y2 y3 := by
  intro n
  induction n with
  | zero => intro y1 y2 y3; exact False.elim
  | succ n ih =>
    intro y1 y2 y3
    unfold w_X12_worked_L12
    repeat' (first | with_reducible exact hK188 _ | with_reducible exact hQ _ _ | with_reducible exact ih _ _ _ | with_reducible refine And.imp ?_ ?_ | with_reducible refine moI ?_ | with_reducible refine moA fun _ => ?_ | with_reducible refine Exists.imp fun _ => ?_ | with_reducible refine mo_X12_worked_J45 (fun _ _ _ => ?_) (fun _ _ => ?_) | with_reducible refine mo_X12_twoOf (fun _ _ => ?_) | with_reducible exact id | exact False.elim)
theorem mo_X12_worked {a1 : Int32} {a2 : Int32} {a3 : Int32} {h : mH} {Q Q' : Int32 → mH → Prop} (hQ : ∀ (y0 : Int32) (y1 : mH), Q y0 y1 → Q' y0 y1) : w_X12_worked a1 a2 a3 h Q → w_X12_worked a1 a2 a3 h Q' := by
  unfold w_X12_worked
  repeat' (first | with_reducible exact hQ _ _ | with_reducible refine And.imp ?_ ?_ | with_reducible refine moI ?_ | with_reducible refine moA fun _ => ?_ | with_reducible refine Exists.imp fun _ => ?_ | with_reducible refine mo_X12_worked_L12 (fun _ => ?_) (fun _ _ => ?_) _ _ _ _ | with_reducible exact id | exact False.elim)
theorem mo_X12_gives_L7 {K47 K47' : Int32 → mH → Prop} {K78 K78' : mH → Prop} {Q Q' : Int32 → mH → Prop} {l1 : Int32} (hK47 : ∀ (y0 : Int32) (y1 : mH), K47 y0 y1 → K47' y0 y1) (hK78 : ∀ (y0 : mH), K78 y0 → K78' y0) (hQ : ∀ (y0 : Int32) (y1 : mH), Q y0 y1 → Q' y0 y1) : ∀ (y0 : Nat) (y1 : Int32) (y2 : Int32) (y3 : mH), w_X12_gives_L7 K47 K78 Q l1 y0 y1 y2 y3 → w_X12_gives_L7 K47' K78' Q' l1 y0 y1 y2 y3 := by
  intro n
  induction n with
  | zero => intro y1 y2 y3; exact False.elim
  | succ n ih =>
    intro y1 y2 y3
    unfold w_X12_gives_L7
    repeat' (first | with_reducible exact hK47 _ _ | with_reducible exact hK78 _ | with_reducible exact hQ _ _ | with_reducible exact ih _ _ _ | with_reducible refine And.imp ?_ ?_ | with_reducible refine moI ?_ | with_reducible refine moA fun _ => ?_ | with_reducible refine Exists.imp fun _ => ?_ | with_reducible refine mo_X12_worked (fun _ _ => ?_) | with_reducible exact id | exact False.elim)
theorem mo_X12_gives {a1 : Int32} {h : mH} {Q Q' : Int32 → mH → Prop} (hQ : ∀ (y0 : Int32) (y1 : mH), Q y0 y1 → Q' y0 y1) : w_X12_gives a1 h Q → w_X12_gives a1 h Q' := by
  unfold w_X12_gives
  repeat' (first | with_reducible exact hQ _ _ | with_reducible refine And.imp ?_ ?_ | with_reducible refine moI ?_ | with_reducible refine moA fun _ => ?_ | with_reducible refine Exists.imp fun _ => ?_ | with_reducible refine mo_X12_gives_L7 (fun _ _ => ?_) (fun _ => ?_) (fun _ _ => ?_) _ _ _ _ | with_reducible refine mo_X12_worked (fun _ _ => ?_) | with_reducible exact id | exact False.elim)
theorem mo_X12_law {h : mH} {Q Q' : Int32 → mH → Prop} (hQ : ∀ (y0 : Int32) (y1 : mH), Q y0 y1 → Q' y0 y1) : w_X12_law h Q → w_X12_law h Q' := by
  unfold w_X12_law
  repeat' (first | with_reducible exact hQ _ _ | with_reducible refine And.imp ?_ ?_ | with_reducible refine moI ?_ | with_reducible refine moA fun _ => ?_ | with_reducible refine Exists.imp fun _ => ?_ | with_reducible refine mo_X12_readText (fun _ _ => ?_) | with_reducible exact id | exact False.elim)
theorem mo_X12_weightOf {a1 : Int32} {h : mH} {Q Q' : Int32 → mH → Prop} (hQ : ∀ (y0 : Int32) (y1 : mH), Q y0 y1 → Q' y0 y1) : w_X12_weightOf a1 h Q → w_X12_weightOf a1 h Q' := by
  unfold w_X12_weightOf
  repeat' (first | with_reducible exact hQ _ _ | with_reducible refine And.imp ?_ ?_ | with_reducible refine moI ?_ | with_reducible refine moA fun _ => ?_ | with_reducible refine Exists.imp fun _ => ?_ | with_reducible refine mo_X12_gives (fun _ _ => ?_) | with_reducible exact id | exact False.elim)
theorem mo_X12_weight {a1 : Int32} {h : mH} {Q Q' : Int32 → mH → Prop} (hQ : ∀ (y0 : Int32) (y1 : mH), Q y0 y1 → Q' y0 y1) : w_X12_weight a1 h Q → w_X12_weight a1 h Q' := by
  unfold w_X12_weight
  repeat' (first | with_reducible exact hQ _ _ | with_reducible refine And.imp ?_ ?_ | with_reducible refine moI ?_ | with_reducible refine moA fun _ => ?_ | with_reducible refine Exists.imp fun _ => ?_ | with_reducible refine mo_X12_in (fun _ _ => ?_) | with_reducible refine mo_X12_weightOf (fun _ _ => ?_) | with_reducible exact id | exact False.elim)
theorem mo_X12_isSeen_L7 {K51 K51' : mH → Prop} {Q Q' : Int32 → mH → Prop} {l1 : Int32} {l2 : Int32} (hK51 : ∀ (y0 : mH), K51 y0 → K51' y0) (hQ : ∀ (y0 : Int32) (y1 : mH), Q y0 y1 → Q' y0 y1) : ∀ (y0 : Nat) (y1 : Int32) (y2 : mH), w_X12_isSeen_L7 K51 Q l1 l2 y0 y1 y2 → w_X12_isSeen_L7 K51' Q' l1 l2 y0 y1 y2 := by
  intro n
  induction n with
  | zero => intro y1 y2; exact False.elim
  | succ n ih =>
    intro y1 y2
    unfold w_X12_isSeen_L7
    repeat' (first | with_reducible exact hK51 _ | with_reducible exact hQ _ _ | with_reducible exact ih _ _ | with_reducible refine And.imp ?_ ?_ | with_reducible refine moI ?_ | with_reducible refine moA fun _ => ?_ | with_reducible refine Exists.imp fun _ => ?_ | with_reducible refine mo_X12_partAt (fun _ _ => ?_) | with_reducible refine mo_X12_isNear (fun _ _ => ?_) | with_reducible exact id | exact False.elim)
theorem mo_X12_isSeen {a1 : Int32} {a2 : Int32} {h : mH} {Q Q' : Int32 → mH → Prop} (hQ : ∀ (y0 : Int32) (y1 : mH), Q y0 y1 → Q' y0 y1) : w_X12_isSeen a1 a2 h Q → w_X12_isSeen a1 a2 h Q' := by
  unfold w_X12_isSeen
  repeat' (first | with_reducible exact hQ _ _ | with_reducible refine And.imp ?_ ?_ | with_reducible refine moI ?_ | with_reducible refine moA fun _ => ?_ | with_reducible refine Exists.imp fun _ => ?_ | with_reducible refine mo_X12_isSeen_L7 (fun _ => ?_) (fun _ _ => ?_) _ _ _ | with_reducible exact id | exact False.elim)
theorem mo_X12_findFits_L19 {K60 K60' : Int32 → mH → Prop} {Q Q' : mH → Prop} {l1 : Int32} {l2 : Int32} (hK60 : ∀ (y0 : Int32) (y1 : mH), K60 y0 y1 → K60' y0 y1) (hQ : ∀ (y0 : mH), Q y0 → Q' y0) : ∀ (y0 : Nat) (y1 : Int32) (y2 : Int32) (y3 : mH), w_X12_findFits_L19 K60 Q l1 l2 y0 y1 y2 y3 → w_X12_findFits_L19 K60' Q' l1 l2 y0 y1 y2 y3 := by
  intro n
  induction n with
  | zero => intro y1 y2 y3; exact False.elim
  | succ n ih =>
    intro y1 y2 y3
    unfold w_X12_findFits_L19
    repeat' (first | with_reducible exact hK60 _ _ | with_reducible exact hQ _ | with_reducible exact ih _ _ _ | with_reducible refine And.imp ?_ ?_ | with_reducible refine moI ?_ | with_reducible refine moA fun _ => ?_ | with_reducible refine Exists.imp fun _ => ?_ | with_reducible refine mo_X12_isSeen (fun _ _ => ?_) | with_reducible exact id | exact False.elim)
theorem mo_X12_findFits_L7 {K87 K87' : mH → Prop} {Q Q' : mH → Prop} {l1 : Int32} (hK87 : ∀ (y0 : mH), K87 y0 → K87' y0) (hQ : ∀ (y0 : mH), Q y0 → Q' y0) : ∀ (y0 : Nat) (y1 : Int32) (y2 : mH), w_X12_findFits_L7 K87 Q l1 y0 y1 y2 → w_X12_findFits_L7 K87' Q' l1 y0 y1 y2 := by
  intro n
  induction n with
  | zero => intro y1 y2; exact False.elim
  | succ n ih =>
    intro y1 y2
    unfold w_X12_findFits_L7
    repeat' (first | with_reducible exact hK87 _ | with_reducible exact hQ _ | with_reducible exact ih _ _ | with_reducible refine And.imp ?_ ?_ | with_reducible refine moI ?_ | with_reducible refine moA fun _ => ?_ | with_reducible refine Exists.imp fun _ => ?_ | with_reducible refine mo_X12_findFits_L19 (fun _ _ => ?_) (fun _ => ?_) _ _ _ _ | with_reducible exact id | exact False.elim)
theorem mo_X12_findFits {a1 : Int32} {h : mH} {Q Q' : mH → Prop} (hQ : ∀ (y0 : mH), Q y0 → Q' y0) : w_X12_findFits a1 h Q → w_X12_findFits a1 h Q' := by
  unfold w_X12_findFits
  repeat' (first | with_reducible exact hQ _ | with_reducible refine And.imp ?_ ?_ | with_reducible refine moI ?_ | with_reducible refine moA fun _ => ?_ | with_reducible refine Exists.imp fun _ => ?_ | with_reducible refine mo_X12_findFits_L7 (fun _ => ?_) (fun _ => ?_) _ _ _ | with_reducible exact id | exact False.elim)
theorem mo_X12_fits_L25 {K59 K59' : mH → Prop} {Q Q' : Int32 → mH → Prop} (hK59 : ∀ (y0 : mH), K59 y0 → K59' y0) (hQ : ∀ (y0 : Int32) (y1 : mH), Q y0 y1 → Q' y0 y1) : ∀ (y0 : Nat) (y1 : Int32) (y2 : Int32) (y3 : mH), w_X12_fits_L25 K59 Q y0 y1 y2 y3 → w_X12_fits_L25 K59' Q' y0 y1 y2 y3 := by
  intro n
  induction n with
  | zero => intro y1 y2 y3; exact False.elim
  | succ n ih =>
    intro y1 y2 y3
    unfold w_X12_fits_L25
    repeat' (first | with_reducible exact hK59 _ | with_reducible exact hQ _ _ | with_reducible exact ih _ _ _ | with_reducible refine And.imp ?_ ?_ | with_reducible refine moI ?_ | with_reducible refine moA fun _ => ?_ | with_reducible refine Exists.imp fun _ => ?_ | with_reducible exact id | exact False.elim)
theorem mo_X12_fits {a1 : Int32} {h : mH} {Q Q' : Int32 → mH → Prop} (hQ : ∀ (y0 : Int32) (y1 : mH), Q y0 y1 → Q' y0 y1) : w_X12_fits a1 h Q → w_X12_fits a1 h Q' := by
  unfold w_X12_fits
  repeat' (first | with_reducible exact hQ _ _ | with_reducible refine And.imp ?_ ?_ | with_reducible refine moI ?_ | with_reducible refine moA fun _ => ?_ | with_reducible refine Exists.imp fun _ => ?_ | with_reducible refine mo_X12_findFits (fun _ => ?_) | with_reducible refine mo_X12_fits_L25 (fun _ => ?_) (fun _ _ => ?_) _ _ _ _ | with_reducible exact id | exact False.elim)
theorem mo_X12_common_L4 {K21 K21' : Int32 → mH → Prop} {Q Q' : Int32 → mH → Prop} (hK21 : ∀ (y0 : Int32) (y1 : mH), K21 y0 y1 → K21' y0 y1) (hQ : ∀ (y0 : Int32) (y1 : mH), Q y0 y1 → Q' y0 y1) : ∀ (y0 : Nat) (y1 : Int32) (y2 : Int32) (y3 : mH), w_X12_common_L4 K21 Q y0 y1 y2 y3 → w_X12_common_L4 K21' Q' y0 y1 y2 y3 := by
  intro n
  induction n with
  | zero => intro y1 y2 y3; exact False.elim
  | succ n ih =>
    intro y1 y2 y3
    unfold w_X12_common_L4
    repeat' (first | with_reducible exact hK21 _ _ | with_reducible exact hQ _ _ | with_reducible exact ih _ _ _ | with_reducible refine And.imp ?_ ?_ | with_reducible refine moI ?_ | with_reducible refine moA fun _ => ?_ | with_reducible refine Exists.imp fun _ => ?_ | with_reducible exact id | exact False.elim)
theorem mo_X12_common {a0 : Int32} {a1 : Int32} {h : mH} {Q Q' : Int32 → mH → Prop} (hQ : ∀ (y0 : Int32) (y1 : mH), Q y0 y1 → Q' y0 y1) : w_X12_common a0 a1 h Q → w_X12_common a0 a1 h Q' := by
  unfold w_X12_common
  repeat' (first | with_reducible exact hQ _ _ | with_reducible refine And.imp ?_ ?_ | with_reducible refine moI ?_ | with_reducible refine moA fun _ => ?_ | with_reducible refine Exists.imp fun _ => ?_ | with_reducible refine mo_X12_common_L4 (fun _ _ => ?_) (fun _ _ => ?_) _ _ _ _ | with_reducible exact id | exact False.elim)
theorem mo_X12_chance_L52 {K117 K117' : Int32 → Int32 → mH → Prop} {Q Q' : Int32 → mH → Prop} {l1 : Int32} {l2 : Int32} (hK117 : ∀ (y0 : Int32) (y1 : Int32) (y2 : mH), K117 y0 y1 y2 → K117' y0 y1 y2) (hQ : ∀ (y0 : Int32) (y1 : mH), Q y0 y1 → Q' y0 y1) : ∀ (y0 : Nat) (y1 : Int32) (y2 : Int32) (y3 : Int32) (y4 : mH), w_X12_chance_L52 K117 Q l1 l2 y0 y1 y2 y3 y4 → w_X12_chance_L52 K117' Q' l1 l2 y0 y1 y2 y3 y4 := by
  intro n
  induction n with
  | zero => intro y1 y2 y3 y4; exact False.elim
  | succ n ih =>
    intro y1 y2 y3 y4
    unfold w_X12_chance_L52
    repeat' (first | with_reducible exact hK117 _ _ _ | with_reducible exact hQ _ _ | with_reducible exact ih _ _ _ _ | with_reducible refine And.imp ?_ ?_ | with_reducible refine moI ?_ | with_reducible refine moA fun _ => ?_ | with_reducible refine Exists.imp fun _ => ?_ | with_reducible refine mo_X12_weightOf (fun _ _ => ?_) | with_reducible refine mo_X12_in (fun _ _ => ?_) | with_reducible exact id | exact False.elim)
theorem mo_X12_chance {a1 : Int32} {a2 : Int32} {h : mH} {Q Q' : Int32 → mH → Prop} (hQ : ∀ (y0 : Int32) (y1 : mH), Q y0 y1 → Q' y0 y1) : w_X12_chance a1 a2 h Q → w_X12_chance a1 a2 h Q' := by
  unfold w_X12_chance
  repeat' (first | with_reducible exact hQ _ _ | with_reducible refine And.imp ?_ ?_ | with_reducible refine moI ?_ | with_reducible refine moA fun _ => ?_ | with_reducible refine Exists.imp fun _ => ?_ | with_reducible refine mo_X12_in (fun _ _ => ?_) | with_reducible refine mo_X12_findFits (fun _ => ?_) | with_reducible refine mo_X12_chance_L52 (fun _ _ _ => ?_) (fun _ _ => ?_) _ _ _ _ _ | with_reducible refine mo_X12_common (fun _ _ => ?_) | with_reducible exact id | exact False.elim)
theorem mo_X12_likely_L12 {K58 K58' : Int32 → mH → Prop} {Q Q' : Int32 → mH → Prop} (hK58 : ∀ (y0 : Int32) (y1 : mH), K58 y0 y1 → K58' y0 y1) (hQ : ∀ (y0 : Int32) (y1 : mH), Q y0 y1 → Q' y0 y1) : ∀ (y0 : Nat) (y1 : Int32) (y2 : Int32) (y3 : Int32) (y4 : mH), w_X12_likely_L12 K58 Q y0 y1 y2 y3 y4 → w_X12_likely_L12 K58' Q' y0 y1 y2 y3 y4 := by
  intro n
  induction n with
  | zero => intro y1 y2 y3 y4; exact False.elim
  | succ n ih =>
    intro y1 y2 y3 y4
    unfold w_X12_likely_L12
    repeat' (first | with_reducible exact hK58 _ _ | with_reducible exact hQ _ _ | with_reducible exact ih _ _ _ _ | with_reducible refine And.imp ?_ ?_ | with_reducible refine moI ?_ | with_reducible refine moA fun _ => ?_ | with_reducible refine Exists.imp fun _ => ?_ | with_reducible refine mo_X12_weightOf (fun _ _ => ?_) | with_reducible exact id | exact False.elim)
theorem mo_X12_likely {h : mH} {Q Q' : Int32 → mH → Prop} (hQ : ∀ (y0 : Int32) (y1 : mH), Q y0 y1 → Q' y0 y1) : w_X12_likely h Q → w_X12_likely h Q' := by
  unfold w_X12_likely
  repeat' (first | with_reducible exact hQ _ _ | with_reducible refine And.imp ?_ ?_ | with_reducible refine moI ?_ | with_reducible refine moA fun _ => ?_ | with_reducible refine Exists.imp fun _ => ?_ | with_reducible refine mo_X12_findFits (fun _ => ?_) | with_reducible refine mo_X12_likely_L12 (fun _ _ => ?_) (fun _ _ => ?_) _ _ _ _ _ | with_reducible exact id | exact False.elim)
theorem mo_X12_tells {a1 : Int32} {h : mH} {Q Q' : Int32 → mH → Prop} (hQ : ∀ (y0 : Int32) (y1 : mH), Q y0 y1 → Q' y0 y1) : w_X12_tells a1 h Q → w_X12_tells a1 h Q' := by
  unfold w_X12_tells
  repeat' (first | with_reducible exact hQ _ _ | with_reducible refine And.imp ?_ ?_ | with_reducible refine moI ?_ | with_reducible refine moA fun _ => ?_ | with_reducible refine Exists.imp fun _ => ?_ | with_reducible refine mo_X12_in (fun _ _ => ?_) | with_reducible refine mo_X12_findFits (fun _ => ?_) | with_reducible exact id | exact False.elim)
theorem mo_X12_mostAlike_L2 {K21 K21' : mH → Prop} {Q Q' : Int32 → mH → Prop} {l1 : Int32} {l2 : Int32} (hK21 : ∀ (y0 : mH), K21 y0 → K21' y0) (hQ : ∀ (y0 : Int32) (y1 : mH), Q y0 y1 → Q' y0 y1) : ∀ (y0 : Nat) (y1 : Int32) (y2 : mH), w_X12_mostAlike_L2 K21 Q l1 l2 y0 y1 y2 → w_X12_mostAlike_L2 K21' Q' l1 l2 y0 y1 y2 := by
  intro n
  induction n with
  | zero => intro y1 y2; exact False.elim
  | succ n ih =>
    intro y1 y2
    unfold w_X12_mostAlike_L2
    repeat' (first | with_reducible exact hK21 _ | with_reducible exact hQ _ _ | with_reducible exact ih _ _ | with_reducible refine And.imp ?_ ?_ | with_reducible refine moI ?_ | with_reducible refine moA fun _ => ?_ | with_reducible refine Exists.imp fun _ => ?_ | with_reducible exact id | exact False.elim)
theorem mo_X12_mostAlike_L26 {K94 K94' : Int32 → mH → Prop} {Q Q' : Int32 → mH → Prop} {l1 : Int32} {l2 : Int32} (hK94 : ∀ (y0 : Int32) (y1 : mH), K94 y0 y1 → K94' y0 y1) (hQ : ∀ (y0 : Int32) (y1 : mH), Q y0 y1 → Q' y0 y1) : ∀ (y0 : Nat) (y1 : Int32) (y2 : Int32) (y3 : mH), w_X12_mostAlike_L26 K94 Q l1 l2 y0 y1 y2 y3 → w_X12_mostAlike_L26 K94' Q' l1 l2 y0 y1 y2 y3 := by
  intro n
  induction n with
  | zero => intro y1 y2 y3; exact False.elim
  | succ n ih =>
    intro y1 y2 y3
    unfold w_X12_mostAlike_L26
    repeat' (first | with_reducible exact hK94 _ _ | with_reducible exact hQ _ _ | with_reducible exact ih _ _ _ | with_reducible refine And.imp ?_ ?_ | with_reducible refine moI ?_ | with_reducible refine moA fun _ => ?_ | with_reducible refine Exists.imp fun _ => ?_ | with_reducible refine mo_X12_partAt (fun _ _ => ?_) | with_reducible exact id | exact False.elim)
theorem mo_X12_mostAlike {a1 : Int32} {a2 : Int32} {h : mH} {Q Q' : Int32 → mH → Prop} (hQ : ∀ (y0 : Int32) (y1 : mH), Q y0 y1 → Q' y0 y1) : w_X12_mostAlike a1 a2 h Q → w_X12_mostAlike a1 a2 h Q' := by
  unfold w_X12_mostAlike
  repeat' (first | with_reducible exact hQ _ _ | with_reducible refine And.imp ?_ ?_ | with_reducible refine moI ?_ | with_reducible refine moA fun _ => ?_ | with_reducible refine Exists.imp fun _ => ?_ | with_reducible refine mo_X12_mostAlike_L2 (fun _ => ?_) (fun _ _ => ?_) _ _ _ | with_reducible refine mo_X12_mostAlike_L26 (fun _ _ => ?_) (fun _ _ => ?_) _ _ _ _ | with_reducible exact id | exact False.elim)
theorem mo_X12_next {a1 : Int32} {a2 : Int32} {h : mH} {Q Q' : Int32 → mH → Prop} (hQ : ∀ (y0 : Int32) (y1 : mH), Q y0 y1 → Q' y0 y1) : w_X12_next a1 a2 h Q → w_X12_next a1 a2 h Q' := by
  unfold w_X12_next
  repeat' (first | with_reducible exact hQ _ _ | with_reducible refine And.imp ?_ ?_ | with_reducible refine moI ?_ | with_reducible refine moA fun _ => ?_ | with_reducible refine Exists.imp fun _ => ?_ | with_reducible refine mo_X12_in (fun _ _ => ?_) | with_reducible refine mo_X12_findFits (fun _ => ?_) | with_reducible refine mo_X12_mostAlike (fun _ _ => ?_) | with_reducible exact id | exact False.elim)
theorem mo_X12_draw {a1 : Int32} {h : mH} {Q Q' : Int32 → mH → Prop} (hQ : ∀ (y0 : Int32) (y1 : mH), Q y0 y1 → Q' y0 y1) : w_X12_draw a1 h Q → w_X12_draw a1 h Q' := by
  unfold w_X12_draw
  repeat' (first | with_reducible exact hQ _ _ | with_reducible refine And.imp ?_ ?_ | with_reducible refine moI ?_ | with_reducible refine moA fun _ => ?_ | with_reducible refine Exists.imp fun _ => ?_ | with_reducible exact id | exact False.elim)
theorem mo_X12_walksSo_L22 {K56 K56' : mH → Prop} {Q Q' : Int32 → mH → Prop} {l1 : Int32} {l3 : Int32} (hK56 : ∀ (y0 : mH), K56 y0 → K56' y0) (hQ : ∀ (y0 : Int32) (y1 : mH), Q y0 y1 → Q' y0 y1) : ∀ (y0 : Nat) (y1 : Int32) (y2 : mH), w_X12_walksSo_L22 K56 Q l1 l3 y0 y1 y2 → w_X12_walksSo_L22 K56' Q' l1 l3 y0 y1 y2 := by
  intro n
  induction n with
  | zero => intro y1 y2; exact False.elim
  | succ n ih =>
    intro y1 y2
    unfold w_X12_walksSo_L22
    repeat' (first | with_reducible exact hK56 _ | with_reducible exact hQ _ _ | with_reducible exact ih _ _ | with_reducible refine And.imp ?_ ?_ | with_reducible refine moI ?_ | with_reducible refine moA fun _ => ?_ | with_reducible refine Exists.imp fun _ => ?_ | with_reducible refine mo_X12_partAt (fun _ _ => ?_) | with_reducible refine mo_X12_isNear (fun _ _ => ?_) | with_reducible exact id | exact False.elim)
theorem mo_X12_walksSo {a1 : Int32} {a2 : Int32} {a3 : Int32} {h : mH} {Q Q' : Int32 → mH → Prop} (hQ : ∀ (y0 : Int32) (y1 : mH), Q y0 y1 → Q' y0 y1) : w_X12_walksSo a1 a2 a3 h Q → w_X12_walksSo a1 a2 a3 h Q' := by
  unfold w_X12_walksSo
  repeat' (first | with_reducible exact hQ _ _ | with_reducible refine And.imp ?_ ?_ | with_reducible refine moI ?_ | with_reducible refine moA fun _ => ?_ | with_reducible refine Exists.imp fun _ => ?_ | with_reducible refine mo_X12_partAt (fun _ _ => ?_) | with_reducible refine mo_X12_isNear (fun _ _ => ?_) | with_reducible refine mo_X12_walksSo_L22 (fun _ => ?_) (fun _ _ => ?_) _ _ _ | with_reducible exact id | exact False.elim)
theorem mo_X12_lot_L99 {K129 K129' : Int32 → mH → Prop} {Q Q' : Int32 → mH → Prop} {l2 : Int32} {l3 : Int32} {l4 : Int32} {l5 : Int32} {l6 : Int32} {l9 : Int32} {l10 : Int32} (hK129 : ∀ (y0 : Int32) (y1 : mH), K129 y0 y1 → K129' y0 y1) (hQ : ∀ (y0 : Int32) (y1 : mH), Q y0 y1 → Q' y0 y1) : ∀ (y0 : Nat) (y1 : Int32) (y2 : Int32) (y3 : mH), w_X12_lot_L99 K129 Q l2 l3 l4 l5 l6 l9 l10 y0 y1 y2 y3 → w_X12_lot_L99 K129' Q' l2 l3 l4 l5 l6 l9 l10 y0 y1 y2 y3 := by
  intro n
  induction n with
  | zero => intro y1 y2 y3; exact False.elim
  | succ n ih =>
    intro y1 y2 y3
    unfold w_X12_lot_L99
    repeat' (first | with_reducible exact hK129 _ _ | with_reducible exact hQ _ _ | with_reducible exact ih _ _ _ | with_reducible refine And.imp ?_ ?_ | with_reducible refine moI ?_ | with_reducible refine moA fun _ => ?_ | with_reducible refine Exists.imp fun _ => ?_ | with_reducible refine mo_X12_walksSo (fun _ _ => ?_) | with_reducible exact id | exact False.elim)
theorem mo_X12_lot_L35 {K151 K151' : Int32 → Int32 → mH → Prop} {Q Q' : Int32 → mH → Prop} {l2 : Int32} {l3 : Int32} (hK151 : ∀ (y0 : Int32) (y1 : Int32) (y2 : mH), K151 y0 y1 y2 → K151' y0 y1 y2) (hQ : ∀ (y0 : Int32) (y1 : mH), Q y0 y1 → Q' y0 y1) : ∀ (y0 : Nat) (y1 : Int32) (y2 : Int32) (y3 : Int32) (y4 : mH), w_X12_lot_L35 K151 Q l2 l3 y0 y1 y2 y3 y4 → w_X12_lot_L35 K151' Q' l2 l3 y0 y1 y2 y3 y4 := by
  intro n
  induction n with
  | zero => intro y1 y2 y3 y4; exact False.elim
  | succ n ih =>
    intro y1 y2 y3 y4
    unfold w_X12_lot_L35
    repeat' (first | with_reducible exact hK151 _ _ _ | with_reducible exact hQ _ _ | with_reducible exact ih _ _ _ _ | with_reducible refine And.imp ?_ ?_ | with_reducible refine moI ?_ | with_reducible refine moA fun _ => ?_ | with_reducible refine Exists.imp fun _ => ?_ | with_reducible refine mo_X12_draw (fun _ _ => ?_) | with_reducible refine mo_X12_partAt (fun _ _ => ?_) | with_reducible refine mo_X12_lot_L99 (fun _ _ => ?_) (fun _ _ => ?_) _ _ _ _ | with_reducible exact id | exact False.elim)
theorem mo_X12_lot {a1 : Int32} {a2 : Int32} {a3 : Int32} {h : mH} {Q Q' : Int32 → mH → Prop} (hQ : ∀ (y0 : Int32) (y1 : mH), Q y0 y1 → Q' y0 y1) : w_X12_lot a1 a2 a3 h Q → w_X12_lot a1 a2 a3 h Q' := by
  unfold w_X12_lot
  repeat' (first | with_reducible exact hQ _ _ | with_reducible refine And.imp ?_ ?_ | with_reducible refine moI ?_ | with_reducible refine moA fun _ => ?_ | with_reducible refine Exists.imp fun _ => ?_ | with_reducible refine mo_X12_in (fun _ _ => ?_) | with_reducible refine mo_X12_lot_L35 (fun _ _ _ => ?_) (fun _ _ => ?_) _ _ _ _ _ | with_reducible exact id | exact False.elim)
theorem mo_X12_wrongBy_L6 {K75 K75' : Int32 → mH → Prop} {Q Q' : Int32 → mH → Prop} {l1 : Int32} {l2 : Int32} {l3 : Int32} (hK75 : ∀ (y0 : Int32) (y1 : mH), K75 y0 y1 → K75' y0 y1) (hQ : ∀ (y0 : Int32) (y1 : mH), Q y0 y1 → Q' y0 y1) : ∀ (y0 : Nat) (y1 : Int32) (y2 : Int32) (y3 : mH), w_X12_wrongBy_L6 K75 Q l1 l2 l3 y0 y1 y2 y3 → w_X12_wrongBy_L6 K75' Q' l1 l2 l3 y0 y1 y2 y3 := by
  intro n
  induction n with
  | zero => intro y1 y2 y3; exact False.elim
  | succ n ih =>
    intro y1 y2 y3
    unfold w_X12_wrongBy_L6
    repeat' (first | with_reducible exact hK75 _ _ | with_reducible exact hQ _ _ | with_reducible exact ih _ _ _ | with_reducible refine And.imp ?_ ?_ | with_reducible refine moI ?_ | with_reducible refine moA fun _ => ?_ | with_reducible refine Exists.imp fun _ => ?_ | with_reducible refine mo_X12_showBy (fun _ _ => ?_) | with_reducible refine mo_X12_partOf (fun _ _ => ?_) | with_reducible refine mo_X12_isNear (fun _ _ => ?_) | with_reducible exact id | exact False.elim)
theorem mo_X12_wrongBy {a1 : Int32} {a2 : Int32} {a3 : Int32} {h : mH} {Q Q' : Int32 → mH → Prop} (hQ : ∀ (y0 : Int32) (y1 : mH), Q y0 y1 → Q' y0 y1) : w_X12_wrongBy a1 a2 a3 h Q → w_X12_wrongBy a1 a2 a3 h Q' := by
  unfold w_X12_wrongBy
  repeat' (first | with_reducible exact hQ _ _ | with_reducible refine And.imp ?_ ?_ | with_reducible refine moI ?_ | with_reducible refine moA fun _ => ?_ | with_reducible refine Exists.imp fun _ => ?_ | with_reducible refine mo_X12_wrongBy_L6 (fun _ _ => ?_) (fun _ _ => ?_) _ _ _ _ | with_reducible exact id | exact False.elim)
theorem mo_X12_guess_J116 {K55 K55' : Int32 → Int32 → Int32 → Int32 → Int32 → Int32 → Int32 → Int32 → mH → Prop} {Q Q' : Int32 → mH → Prop} {l1 : Int32} {l2 : Int32} {l3 : Int32} {l4 : Int32} {l5 : Int32} {l6 : Int32} {l7 : Int32} {l8 : Int32} {l9 : Int32} {l10 : Int32} {l11 : Int32} {h : mH} (hK55 : ∀ (y0 : Int32) (y1 : Int32) (y2 : Int32) (y3 : Int32) (y4 : Int32) (y5 : Int32) (y6 : Int32) (y7 : Int32) (y8 : mH), K55 y0 y1 y2 y3 y4 y5 y6 y7 y8 → K55' y0 y1 y2 y3 y4 y5 y6 y7 y8) (hQ : ∀ (y0 : Int32) (y1 : mH), Q y0 y1 → Q' y0 y1) : w_X12_guess_J116 K55 Q l1 l2 l3 l4 l5 l6 l7 l8 l9 l10 l11 h → w_X12_guess_J116 K55' Q' l1 l2 l3 l4 l5 l6 l7 l8 l9 l10 l11 h := by
  unfold w_X12_guess_J116
  repeat' (first | with_reducible exact hK55 _ _ _ _ _ _ _ _ _ | with_reducible exact hQ _ _ | with_reducible refine And.imp ?_ ?_ | with_reducible refine moI ?_ | with_reducible refine moA fun _ => ?_ | with_reducible refine Exists.imp fun _ => ?_ | with_reducible exact id | exact False.elim)
theorem mo_X12_guess_L55 {K136 K136' : Int32 → Int32 → Int32 → Int32 → Int32 → Int32 → Int32 → mH → Prop} {Q Q' : Int32 → mH → Prop} {l1 : Int32} {l2 : Int32} {l10 : Int32} (hK136 : ∀ (y0 : Int32) (y1 : Int32) (y2 : Int32) (y3 : Int32) (y4 : Int32) (y5 : Int32) (y6 : Int32) (y7 : mH), K136 y0 y1 y2 y3 y4 y5 y6 y7 → K136' y0 y1 y2 y3 y4 y5 y6 y7) (hQ : ∀ (y0 : Int32) (y1 : mH), Q y0 y1 → Q' y0 y1) : ∀ (y0 : Nat) (y1 : Int32) (y2 : Int32) (y3 : Int32) (y4 : Int32) (y5 : Int32) (y6 : Int32) (y7 : Int32) (y8 : Int32) (y9 : mH), w_X12_guess_L55 K136 Q l1 l2 l10 y0 y1 y2 y3 y4 y5 y6 y7 y8 y9 → w_X12_guess_L55 K136' Q' l1 l2 l10 y0 y1 y2 y3 y4 y5 y6 y7 y8 y9 := by
  intro n
  induction n with
  | zero => intro y1 y2 y3 y4 y5 y6 y7 y8 y9; exact False.elim
  | succ n ih =>
    intro y1 y2 y3 y4 y5 y6 y7 y8 y9
    unfold w_X12_guess_L55
    repeat' (first | with_reducible exact hK136 _ _ _ _ _ _ _ _ | with_reducible exact hQ _ _ | with_reducible exact ih _ _ _ _ _ _ _ _ _ | with_reducible refine And.imp ?_ ?_ | with_reducible refine moI ?_ | with_reducible refine moA fun _ => ?_ | with_reducible refine Exists.imp fun _ => ?_ | with_reducible refine mo_X12_wrongBy (fun _ _ => ?_) | with_reducible refine mo_X12_guess_J116 (fun _ _ _ _ _ _ _ _ _ => ?_) (fun _ _ => ?_) | with_reducible exact id | exact False.elim)
theorem mo_X12_guess_L44 {K142 K142' : Int32 → Int32 → Int32 → Int32 → Int32 → Int32 → Int32 → mH → Prop} {Q Q' : Int32 → mH → Prop} {l1 : Int32} {l2 : Int32} (hK142 : ∀ (y0 : Int32) (y1 : Int32) (y2 : Int32) (y3 : Int32) (y4 : Int32) (y5 : Int32) (y6 : Int32) (y7 : mH), K142 y0 y1 y2 y3 y4 y5 y6 y7 → K142' y0 y1 y2 y3 y4 y5 y6 y7) (hQ : ∀ (y0 : Int32) (y1 : mH), Q y0 y1 → Q' y0 y1) : ∀ (y0 : Nat) (y1 : Int32) (y2 : Int32) (y3 : Int32) (y4 : Int32) (y5 : Int32) (y6 : Int32) (y7 : Int32) (y8 : Int32) (y9 : mH), w_X12_guess_L44 K142 Q l1 l2 y0 y1 y2 y3 y4 y5 y6 y7 y8 y9 → w_X12_guess_L44 K142' Q' l1 l2 y0 y1 y2 y3 y4 y5 y6 y7 y8 y9 := by
  intro n
  induction n with
  | zero => intro y1 y2 y3 y4 y5 y6 y7 y8 y9; exact False.elim
  | succ n ih =>
    intro y1 y2 y3 y4 y5 y6 y7 y8 y9
    unfold w_X12_guess_L44
    repeat' (first | with_reducible exact hK142 _ _ _ _ _ _ _ _ | with_reducible exact hQ _ _ | with_reducible exact ih _ _ _ _ _ _ _ _ _ | with_reducible refine And.imp ?_ ?_ | with_reducible refine moI ?_ | with_reducible refine moA fun _ => ?_ | with_reducible refine Exists.imp fun _ => ?_ | with_reducible refine mo_X12_guess_L55 (fun _ _ _ _ _ _ _ _ => ?_) (fun _ _ => ?_) _ _ _ _ _ _ _ _ _ _ | with_reducible exact id | exact False.elim)
theorem mo_X12_guess {a1 : Int32} {a2 : Int32} {h : mH} {Q Q' : Int32 → mH → Prop} (hQ : ∀ (y0 : Int32) (y1 : mH), Q y0 y1 → Q' y0 y1) : w_X12_guess a1 a2 h Q → w_X12_guess a1 a2 h Q' := by
  unfold w_X12_guess
  repeat' (first | with_reducible exact hQ _ _ | with_reducible refine And.imp ?_ ?_ | with_reducible refine moI ?_ | with_reducible refine moA fun _ => ?_ | with_reducible refine Exists.imp fun _ => ?_ | with_reducible refine mo_X12_isClock (fun _ _ => ?_) | with_reducible refine mo_X12_in (fun _ _ => ?_) | with_reducible refine mo_X12_guess_L44 (fun _ _ _ _ _ _ _ _ => ?_) (fun _ _ => ?_) _ _ _ _ _ _ _ _ _ _ | with_reducible exact id | exact False.elim)
theorem mo_X12_liars_L31 {K87 K87' : Int32 → mH → Prop} {Q Q' : Int32 → mH → Prop} {l1 : Int32} {l3 : Int32} (hK87 : ∀ (y0 : Int32) (y1 : mH), K87 y0 y1 → K87' y0 y1) (hQ : ∀ (y0 : Int32) (y1 : mH), Q y0 y1 → Q' y0 y1) : ∀ (y0 : Nat) (y1 : Int32) (y2 : Int32) (y3 : mH), w_X12_liars_L31 K87 Q l1 l3 y0 y1 y2 y3 → w_X12_liars_L31 K87' Q' l1 l3 y0 y1 y2 y3 := by
  intro n
  induction n with
  | zero => intro y1 y2 y3; exact False.elim
  | succ n ih =>
    intro y1 y2 y3
    unfold w_X12_liars_L31
    repeat' (first | with_reducible exact hK87 _ _ | with_reducible exact hQ _ _ | with_reducible exact ih _ _ _ | with_reducible refine And.imp ?_ ?_ | with_reducible refine moI ?_ | with_reducible refine moA fun _ => ?_ | with_reducible refine Exists.imp fun _ => ?_ | with_reducible refine mo_X12_wrongBy (fun _ _ => ?_) | with_reducible refine mo_X12_bitsOf (fun _ _ => ?_) | with_reducible exact id | exact False.elim)
theorem mo_X12_liars_L21 {K93 K93' : Int32 → mH → Prop} {Q Q' : Int32 → mH → Prop} {l1 : Int32} (hK93 : ∀ (y0 : Int32) (y1 : mH), K93 y0 y1 → K93' y0 y1) (hQ : ∀ (y0 : Int32) (y1 : mH), Q y0 y1 → Q' y0 y1) : ∀ (y0 : Nat) (y1 : Int32) (y2 : Int32) (y3 : mH), w_X12_liars_L21 K93 Q l1 y0 y1 y2 y3 → w_X12_liars_L21 K93' Q' l1 y0 y1 y2 y3 := by
  intro n
  induction n with
  | zero => intro y1 y2 y3; exact False.elim
  | succ n ih =>
    intro y1 y2 y3
    unfold w_X12_liars_L21
    repeat' (first | with_reducible exact hK93 _ _ | with_reducible exact hQ _ _ | with_reducible exact ih _ _ _ | with_reducible refine And.imp ?_ ?_ | with_reducible refine moI ?_ | with_reducible refine moA fun _ => ?_ | with_reducible refine Exists.imp fun _ => ?_ | with_reducible refine mo_X12_liars_L31 (fun _ _ => ?_) (fun _ _ => ?_) _ _ _ _ | with_reducible exact id | exact False.elim)
theorem mo_X12_liars {a1 : Int32} {h : mH} {Q Q' : Int32 → mH → Prop} (hQ : ∀ (y0 : Int32) (y1 : mH), Q y0 y1 → Q' y0 y1) : w_X12_liars a1 h Q → w_X12_liars a1 h Q' := by
  unfold w_X12_liars
  repeat' (first | with_reducible exact hQ _ _ | with_reducible refine And.imp ?_ ?_ | with_reducible refine moI ?_ | with_reducible refine moA fun _ => ?_ | with_reducible refine Exists.imp fun _ => ?_ | with_reducible refine mo_X12_isClock (fun _ _ => ?_) | with_reducible refine mo_X12_liars_L21 (fun _ _ => ?_) (fun _ _ => ?_) _ _ _ _ | with_reducible exact id | exact False.elim)
theorem mo_X12_agree_L49 {K88 K88' : Int32 → Int32 → mH → Prop} {Q Q' : Int32 → mH → Prop} {l1 : Int32} {l3 : Int32} (hK88 : ∀ (y0 : Int32) (y1 : Int32) (y2 : mH), K88 y0 y1 y2 → K88' y0 y1 y2) (hQ : ∀ (y0 : Int32) (y1 : mH), Q y0 y1 → Q' y0 y1) : ∀ (y0 : Nat) (y1 : Int32) (y2 : Int32) (y3 : Int32) (y4 : mH), w_X12_agree_L49 K88 Q l1 l3 y0 y1 y2 y3 y4 → w_X12_agree_L49 K88' Q' l1 l3 y0 y1 y2 y3 y4 := by
  intro n
  induction n with
  | zero => intro y1 y2 y3 y4; exact False.elim
  | succ n ih =>
    intro y1 y2 y3 y4
    unfold w_X12_agree_L49
    repeat' (first | with_reducible exact hK88 _ _ _ | with_reducible exact hQ _ _ | with_reducible exact ih _ _ _ _ | with_reducible refine And.imp ?_ ?_ | with_reducible refine moI ?_ | with_reducible refine moA fun _ => ?_ | with_reducible refine Exists.imp fun _ => ?_ | with_reducible refine mo_X12_show (fun _ _ => ?_) | with_reducible exact id | exact False.elim)
theorem mo_X12_agree {a1 : Int32} {a2 : Int32} {a3 : Int32} {h : mH} {Q Q' : Int32 → mH → Prop} (hQ : ∀ (y0 : Int32) (y1 : mH), Q y0 y1 → Q' y0 y1) : w_X12_agree a1 a2 a3 h Q → w_X12_agree a1 a2 a3 h Q' := by
  unfold w_X12_agree
  repeat' (first | with_reducible exact hQ _ _ | with_reducible refine And.imp ?_ ?_ | with_reducible refine moI ?_ | with_reducible refine moA fun _ => ?_ | with_reducible refine Exists.imp fun _ => ?_ | with_reducible refine mo_X12_isMinute (fun _ _ => ?_) | with_reducible refine mo_X12_in (fun _ _ => ?_) | with_reducible refine mo_X12_agree_L49 (fun _ _ _ => ?_) (fun _ _ => ?_) _ _ _ _ _ | with_reducible exact id | exact False.elim)
theorem mo_X12_meets_L3 {K33 K33' : mH → Prop} {Q Q' : Int32 → mH → Prop} {l1 : Int32} {l2 : Int32} {l3 : Int32} (hK33 : ∀ (y0 : mH), K33 y0 → K33' y0) (hQ : ∀ (y0 : Int32) (y1 : mH), Q y0 y1 → Q' y0 y1) : ∀ (y0 : Nat) (y1 : Int32) (y2 : mH), w_X12_meets_L3 K33 Q l1 l2 l3 y0 y1 y2 → w_X12_meets_L3 K33' Q' l1 l2 l3 y0 y1 y2 := by
  intro n
  induction n with
  | zero => intro y1 y2; exact False.elim
  | succ n ih =>
    intro y1 y2
    unfold w_X12_meets_L3
    repeat' (first | with_reducible exact hK33 _ | with_reducible exact hQ _ _ | with_reducible exact ih _ _ | with_reducible refine And.imp ?_ ?_ | with_reducible refine moI ?_ | with_reducible refine moA fun _ => ?_ | with_reducible refine Exists.imp fun _ => ?_ | with_reducible refine mo_X12_partAt (fun _ _ => ?_) | with_reducible exact id | exact False.elim)
theorem mo_X12_meets {a1 : Int32} {a2 : Int32} {a3 : Int32} {h : mH} {Q Q' : Int32 → mH → Prop} (hQ : ∀ (y0 : Int32) (y1 : mH), Q y0 y1 → Q' y0 y1) : w_X12_meets a1 a2 a3 h Q → w_X12_meets a1 a2 a3 h Q' := by
  unfold w_X12_meets
  repeat' (first | with_reducible exact hQ _ _ | with_reducible refine And.imp ?_ ?_ | with_reducible refine moI ?_ | with_reducible refine moA fun _ => ?_ | with_reducible refine Exists.imp fun _ => ?_ | with_reducible refine mo_X12_meets_L3 (fun _ => ?_) (fun _ _ => ?_) _ _ _ | with_reducible exact id | exact False.elim)
theorem mo_X12_meet {a1 : Int32} {a2 : Int32} {a3 : Int32} {h : mH} {Q Q' : Int32 → mH → Prop} (hQ : ∀ (y0 : Int32) (y1 : mH), Q y0 y1 → Q' y0 y1) : w_X12_meet a1 a2 a3 h Q → w_X12_meet a1 a2 a3 h Q' := by
  unfold w_X12_meet
  repeat' (first | with_reducible exact hQ _ _ | with_reducible refine And.imp ?_ ?_ | with_reducible refine moI ?_ | with_reducible refine moA fun _ => ?_ | with_reducible refine Exists.imp fun _ => ?_ | with_reducible refine mo_X12_isMinute (fun _ _ => ?_) | with_reducible refine mo_X12_in (fun _ _ => ?_) | with_reducible refine mo_X12_meets (fun _ _ => ?_) | with_reducible exact id | exact False.elim)
theorem mo_X12_round_L24 {K70 K70' : Int32 → mH → Prop} {Q Q' : Int32 → mH → Prop} {l1 : Int32} {l2 : Int32} (hK70 : ∀ (y0 : Int32) (y1 : mH), K70 y0 y1 → K70' y0 y1) (hQ : ∀ (y0 : Int32) (y1 : mH), Q y0 y1 → Q' y0 y1) : ∀ (y0 : Nat) (y1 : Int32) (y2 : Int32) (y3 : mH), w_X12_round_L24 K70 Q l1 l2 y0 y1 y2 y3 → w_X12_round_L24 K70' Q' l1 l2 y0 y1 y2 y3 := by
  intro n
  induction n with
  | zero => intro y1 y2 y3; exact False.elim
  | succ n ih =>
    intro y1 y2 y3
    unfold w_X12_round_L24
    repeat' (first | with_reducible exact hK70 _ _ | with_reducible exact hQ _ _ | with_reducible exact ih _ _ _ | with_reducible refine And.imp ?_ ?_ | with_reducible refine moI ?_ | with_reducible refine moA fun _ => ?_ | with_reducible refine Exists.imp fun _ => ?_ | with_reducible exact id | exact False.elim)
theorem mo_X12_round {a1 : Int32} {a2 : Int32} {h : mH} {Q Q' : Int32 → mH → Prop} (hQ : ∀ (y0 : Int32) (y1 : mH), Q y0 y1 → Q' y0 y1) : w_X12_round a1 a2 h Q → w_X12_round a1 a2 h Q' := by
  unfold w_X12_round
  repeat' (first | with_reducible exact hQ _ _ | with_reducible refine And.imp ?_ ?_ | with_reducible refine moI ?_ | with_reducible refine moA fun _ => ?_ | with_reducible refine Exists.imp fun _ => ?_ | with_reducible refine mo_X12_isClock (fun _ _ => ?_) | with_reducible refine mo_X12_in (fun _ _ => ?_) | with_reducible refine mo_X12_round_L24 (fun _ _ => ?_) (fun _ _ => ?_) _ _ _ _ | with_reducible exact id | exact False.elim)
theorem mo_X12_set_J54 {Q Q' : Int32 → mH → Prop} {l1 : Int32} {l2 : Int32} {l3 : Int32} {h : mH} (hQ : ∀ (y0 : Int32) (y1 : mH), Q y0 y1 → Q' y0 y1) : w_X12_set_J54 Q l1 l2 l3 h → w_X12_set_J54 Q' l1 l2 l3 h := by
  unfold w_X12_set_J54
  repeat' (first | with_reducible exact hQ _ _ | with_reducible refine And.imp ?_ ?_ | with_reducible refine moI ?_ | with_reducible refine moA fun _ => ?_ | with_reducible refine Exists.imp fun _ => ?_ | with_reducible exact id | exact False.elim)
theorem mo_X12_set {a1 : Int32} {a2 : Int32} {h : mH} {Q Q' : Int32 → mH → Prop} (hQ : ∀ (y0 : Int32) (y1 : mH), Q y0 y1 → Q' y0 y1) : w_X12_set a1 a2 h Q → w_X12_set a1 a2 h Q' := by
  unfold w_X12_set
  repeat' (first | with_reducible exact hQ _ _ | with_reducible refine And.imp ?_ ?_ | with_reducible refine moI ?_ | with_reducible refine moA fun _ => ?_ | with_reducible refine Exists.imp fun _ => ?_ | with_reducible refine mo_X12_isClock (fun _ _ => ?_) | with_reducible refine mo_X12_isMinute (fun _ _ => ?_) | with_reducible refine mo_X12_show (fun _ _ => ?_) | with_reducible refine mo_X12_set_J54 (fun _ _ => ?_) | with_reducible exact id | exact False.elim)
theorem mo_X12_led {a1 : Int32} {a2 : Int32} {h : mH} {Q Q' : Int32 → mH → Prop} (hQ : ∀ (y0 : Int32) (y1 : mH), Q y0 y1 → Q' y0 y1) : w_X12_led a1 a2 h Q → w_X12_led a1 a2 h Q' := by
  unfold w_X12_led
  repeat' (first | with_reducible exact hQ _ _ | with_reducible refine And.imp ?_ ?_ | with_reducible refine moI ?_ | with_reducible refine moA fun _ => ?_ | with_reducible refine Exists.imp fun _ => ?_ | with_reducible refine mo_X12_isClock (fun _ _ => ?_) | with_reducible refine mo_X12_in (fun _ _ => ?_) | with_reducible exact id | exact False.elim)
theorem mo_X12_judge_L38 {K137 K137' : mH → Prop} {Q Q' : Int32 → mH → Prop} {l1 : Int32} (hK137 : ∀ (y0 : mH), K137 y0 → K137' y0) (hQ : ∀ (y0 : Int32) (y1 : mH), Q y0 y1 → Q' y0 y1) : ∀ (y0 : Nat) (y1 : Int32) (y2 : mH), w_X12_judge_L38 K137 Q l1 y0 y1 y2 → w_X12_judge_L38 K137' Q' l1 y0 y1 y2 := by
  intro n
  induction n with
  | zero => intro y1 y2; exact False.elim
  | succ n ih =>
    intro y1 y2
    unfold w_X12_judge_L38
    repeat' (first | with_reducible exact hK137 _ | with_reducible exact hQ _ _ | with_reducible exact ih _ _ | with_reducible refine And.imp ?_ ?_ | with_reducible refine moI ?_ | with_reducible refine moA fun _ => ?_ | with_reducible refine Exists.imp fun _ => ?_ | with_reducible refine mo_X12_isClock (fun _ _ => ?_) | with_reducible refine mo_X12_partAt (fun _ _ => ?_) | with_reducible exact id | exact False.elim)
theorem mo_X12_judge {a1 : Int32} {h : mH} {Q Q' : Int32 → mH → Prop} (hQ : ∀ (y0 : Int32) (y1 : mH), Q y0 y1 → Q' y0 y1) : w_X12_judge a1 h Q → w_X12_judge a1 h Q' := by
  unfold w_X12_judge
  repeat' (first | with_reducible exact hQ _ _ | with_reducible refine And.imp ?_ ?_ | with_reducible refine moI ?_ | with_reducible refine moA fun _ => ?_ | with_reducible refine Exists.imp fun _ => ?_ | with_reducible refine mo_X12_isShelf (fun _ _ => ?_) | with_reducible refine mo_X12_judge_L38 (fun _ => ?_) (fun _ _ => ?_) _ _ _ | with_reducible exact id | exact False.elim)
theorem mo_X12_image_L23 {K70 K70' : mH → Prop} {Q Q' : Int32 → mH → Prop} (hK70 : ∀ (y0 : mH), K70 y0 → K70' y0) (hQ : ∀ (y0 : Int32) (y1 : mH), Q y0 y1 → Q' y0 y1) : ∀ (y0 : Nat) (y1 : Int32) (y2 : mH), w_X12_image_L23 K70 Q y0 y1 y2 → w_X12_image_L23 K70' Q' y0 y1 y2 := by
  intro n
  induction n with
  | zero => intro y1 y2; exact False.elim
  | succ n ih =>
    intro y1 y2
    unfold w_X12_image_L23
    repeat' (first | with_reducible exact hK70 _ | with_reducible exact hQ _ _ | with_reducible exact ih _ _ | with_reducible refine And.imp ?_ ?_ | with_reducible refine moI ?_ | with_reducible refine moA fun _ => ?_ | with_reducible refine Exists.imp fun _ => ?_ | with_reducible exact id | exact False.elim)
theorem mo_X12_image_L72 {K148 K148' : mH → Prop} {Q Q' : Int32 → mH → Prop} (hK148 : ∀ (y0 : mH), K148 y0 → K148' y0) (hQ : ∀ (y0 : Int32) (y1 : mH), Q y0 y1 → Q' y0 y1) : ∀ (y0 : Nat) (y1 : Int32) (y2 : mH), w_X12_image_L72 K148 Q y0 y1 y2 → w_X12_image_L72 K148' Q' y0 y1 y2 := by
  intro n
  induction n with
  | zero => intro y1 y2; exact False.elim
  | succ n ih =>
    intro y1 y2
    unfold w_X12_image_L72
    repeat' (first | with_reducible exact hK148 _ | with_reducible exact hQ _ _ | with_reducible exact ih _ _ | with_reducible refine And.imp ?_ ?_ | with_reducible refine moI ?_ | with_reducible refine moA fun _ => ?_ | with_reducible refine Exists.imp fun _ => ?_ | with_reducible exact id | exact False.elim)
theorem mo_X12_image_L150 {K210 K210' : mH → Prop} {Q Q' : Int32 → mH → Prop} (hK210 : ∀ (y0 : mH), K210 y0 → K210' y0) (hQ : ∀ (y0 : Int32) (y1 : mH), Q y0 y1 → Q' y0 y1) : ∀ (y0 : Nat) (y1 : Int32) (y2 : mH), w_X12_image_L150 K210 Q y0 y1 y2 → w_X12_image_L150 K210' Q' y0 y1 y2 := by
  intro n
  induction n with
  | zero => intro y1 y2; exact False.elim
  | succ n ih =>
    intro y1 y2
    unfold w_X12_image_L150
    repeat' (first | with_reducible exact hK210 _ | with_reducible exact hQ _ _ | with_reducible exact ih _ _ | with_reducible refine And.imp ?_ ?_ | with_reducible refine moI ?_ | with_reducible refine moA fun _ => ?_ | with_reducible refine Exists.imp fun _ => ?_ | with_reducible exact id | exact False.elim)
theorem mo_X12_image {h : mH} {Q Q' : Int32 → mH → Prop} (hQ : ∀ (y0 : Int32) (y1 : mH), Q y0 y1 → Q' y0 y1) : w_X12_image h Q → w_X12_image h Q' := by
  unfold w_X12_image
  repeat' (first | with_reducible exact hQ _ _ | with_reducible refine And.imp ?_ ?_ | with_reducible refine moI ?_ | with_reducible refine moA fun _ => ?_ | with_reducible refine Exists.imp fun _ => ?_ | with_reducible refine mo_X12_image_L23 (fun _ => ?_) (fun _ _ => ?_) _ _ _ | with_reducible refine mo_X12_image_L72 (fun _ => ?_) (fun _ _ => ?_) _ _ _ | with_reducible refine mo_X12_image_L150 (fun _ => ?_) (fun _ _ => ?_) _ _ _ | with_reducible exact id | exact False.elim)
theorem mo_X12_back_L28 {K75 K75' : mH → Prop} {Q Q' : Int32 → mH → Prop} (hK75 : ∀ (y0 : mH), K75 y0 → K75' y0) (hQ : ∀ (y0 : Int32) (y1 : mH), Q y0 y1 → Q' y0 y1) : ∀ (y0 : Nat) (y1 : Int32) (y2 : mH), w_X12_back_L28 K75 Q y0 y1 y2 → w_X12_back_L28 K75' Q' y0 y1 y2 := by
  intro n
  induction n with
  | zero => intro y1 y2; exact False.elim
  | succ n ih =>
    intro y1 y2
    unfold w_X12_back_L28
    repeat' (first | with_reducible exact hK75 _ | with_reducible exact hQ _ _ | with_reducible exact ih _ _ | with_reducible refine And.imp ?_ ?_ | with_reducible refine moI ?_ | with_reducible refine moA fun _ => ?_ | with_reducible refine Exists.imp fun _ => ?_ | with_reducible exact id | exact False.elim)
theorem mo_X12_back_L77 {K153 K153' : mH → Prop} {Q Q' : Int32 → mH → Prop} (hK153 : ∀ (y0 : mH), K153 y0 → K153' y0) (hQ : ∀ (y0 : Int32) (y1 : mH), Q y0 y1 → Q' y0 y1) : ∀ (y0 : Nat) (y1 : Int32) (y2 : mH), w_X12_back_L77 K153 Q y0 y1 y2 → w_X12_back_L77 K153' Q' y0 y1 y2 := by
  intro n
  induction n with
  | zero => intro y1 y2; exact False.elim
  | succ n ih =>
    intro y1 y2
    unfold w_X12_back_L77
    repeat' (first | with_reducible exact hK153 _ | with_reducible exact hQ _ _ | with_reducible exact ih _ _ | with_reducible refine And.imp ?_ ?_ | with_reducible refine moI ?_ | with_reducible refine moA fun _ => ?_ | with_reducible refine Exists.imp fun _ => ?_ | with_reducible exact id | exact False.elim)
theorem mo_X12_back_L155 {K215 K215' : mH → Prop} {Q Q' : Int32 → mH → Prop} (hK215 : ∀ (y0 : mH), K215 y0 → K215' y0) (hQ : ∀ (y0 : Int32) (y1 : mH), Q y0 y1 → Q' y0 y1) : ∀ (y0 : Nat) (y1 : Int32) (y2 : mH), w_X12_back_L155 K215 Q y0 y1 y2 → w_X12_back_L155 K215' Q' y0 y1 y2 := by
  intro n
  induction n with
  | zero => intro y1 y2; exact False.elim
  | succ n ih =>
    intro y1 y2
    unfold w_X12_back_L155
    repeat' (first | with_reducible exact hK215 _ | with_reducible exact hQ _ _ | with_reducible exact ih _ _ | with_reducible refine And.imp ?_ ?_ | with_reducible refine moI ?_ | with_reducible refine moA fun _ => ?_ | with_reducible refine Exists.imp fun _ => ?_ | with_reducible exact id | exact False.elim)
theorem mo_X12_back {h : mH} {Q Q' : Int32 → mH → Prop} (hQ : ∀ (y0 : Int32) (y1 : mH), Q y0 y1 → Q' y0 y1) : w_X12_back h Q → w_X12_back h Q' := by
  unfold w_X12_back
  repeat' (first | with_reducible exact hQ _ _ | with_reducible refine And.imp ?_ ?_ | with_reducible refine moI ?_ | with_reducible refine moA fun _ => ?_ | with_reducible refine Exists.imp fun _ => ?_ | with_reducible refine mo_X12_back_L28 (fun _ => ?_) (fun _ _ => ?_) _ _ _ | with_reducible refine mo_X12_back_L77 (fun _ => ?_) (fun _ _ => ?_) _ _ _ | with_reducible refine mo_X12_back_L155 (fun _ => ?_) (fun _ _ => ?_) _ _ _ | with_reducible exact id | exact False.elim)
theorem mo_X12_isBody {a1 : Int32} {h : mH} {Q Q' : Int32 → mH → Prop} (hQ : ∀ (y0 : Int32) (y1 : mH), Q y0 y1 → Q' y0 y1) : w_X12_isBody a1 h Q → w_X12_isBody a1 h Q' := by
  unfold w_X12_isBody
  repeat' (first | with_reducible exact hQ _ _ | with_reducible refine And.imp ?_ ?_ | with_reducible refine moI ?_ | with_reducible refine moA fun _ => ?_ | with_reducible refine Exists.imp fun _ => ?_ | with_reducible refine mo_X12_in (fun _ _ => ?_) | with_reducible exact id | exact False.elim)
theorem mo_X12_ran {a1 : Int32} {h : mH} {Q Q' : mH → Prop} (hQ : ∀ (y0 : mH), Q y0 → Q' y0) : w_X12_ran a1 h Q → w_X12_ran a1 h Q' := by
  unfold w_X12_ran
  repeat' (first | with_reducible exact hQ _ | with_reducible refine And.imp ?_ ?_ | with_reducible refine moI ?_ | with_reducible refine moA fun _ => ?_ | with_reducible refine Exists.imp fun _ => ?_ | with_reducible exact id | exact False.elim)
theorem mo_X12_trace {a1 : Int32} {h : mH} {Q Q' : Int32 → mH → Prop} (hQ : ∀ (y0 : Int32) (y1 : mH), Q y0 y1 → Q' y0 y1) : w_X12_trace a1 h Q → w_X12_trace a1 h Q' := by
  unfold w_X12_trace
  repeat' (first | with_reducible exact hQ _ _ | with_reducible refine And.imp ?_ ?_ | with_reducible refine moI ?_ | with_reducible refine moA fun _ => ?_ | with_reducible refine Exists.imp fun _ => ?_ | with_reducible exact id | exact False.elim)
theorem mo_X12_body {a1 : Int32} {h : mH} {Q Q' : Int32 → mH → Prop} (hQ : ∀ (y0 : Int32) (y1 : mH), Q y0 y1 → Q' y0 y1) : w_X12_body a1 h Q → w_X12_body a1 h Q' := by
  unfold w_X12_body
  repeat' (first | with_reducible exact hQ _ _ | with_reducible refine And.imp ?_ ?_ | with_reducible refine moI ?_ | with_reducible refine moA fun _ => ?_ | with_reducible refine Exists.imp fun _ => ?_ | with_reducible refine mo_X12_in (fun _ _ => ?_) | with_reducible exact id | exact False.elim)
theorem mo_X12_isUnder_J44 {Q Q' : Int32 → mH → Prop} {l0 : Int32} {l1 : Int32} {h : mH} (hQ : ∀ (y0 : Int32) (y1 : mH), Q y0 y1 → Q' y0 y1) : w_X12_isUnder_J44 Q l0 l1 h → w_X12_isUnder_J44 Q' l0 l1 h := by
  unfold w_X12_isUnder_J44
  repeat' (first | with_reducible exact hQ _ _ | with_reducible refine And.imp ?_ ?_ | with_reducible refine moI ?_ | with_reducible refine moA fun _ => ?_ | with_reducible refine Exists.imp fun _ => ?_ | with_reducible exact id | exact False.elim)
theorem mo_X12_isUnder_J19 {Q Q' : Int32 → mH → Prop} {l0 : Int32} {l1 : Int32} {h : mH} (hQ : ∀ (y0 : Int32) (y1 : mH), Q y0 y1 → Q' y0 y1) : w_X12_isUnder_J19 Q l0 l1 h → w_X12_isUnder_J19 Q' l0 l1 h := by
  unfold w_X12_isUnder_J19
  repeat' (first | with_reducible exact hQ _ _ | with_reducible refine And.imp ?_ ?_ | with_reducible refine moI ?_ | with_reducible refine moA fun _ => ?_ | with_reducible refine Exists.imp fun _ => ?_ | with_reducible refine mo_X12_isUnder_J44 (fun _ _ => ?_) | with_reducible exact id | exact False.elim)
theorem mo_X12_isUnder {a0 : Int32} {a1 : Int32} {h : mH} {Q Q' : Int32 → mH → Prop} (hQ : ∀ (y0 : Int32) (y1 : mH), Q y0 y1 → Q' y0 y1) : w_X12_isUnder a0 a1 h Q → w_X12_isUnder a0 a1 h Q' := by
  unfold w_X12_isUnder
  repeat' (first | with_reducible exact hQ _ _ | with_reducible refine And.imp ?_ ?_ | with_reducible refine moI ?_ | with_reducible refine moA fun _ => ?_ | with_reducible refine Exists.imp fun _ => ?_ | with_reducible refine mo_X12_isUnder_J19 (fun _ _ => ?_) | with_reducible exact id | exact False.elim)
theorem mo_X12_plainShows {a1 : Int32} {a2 : Int32} {h : mH} {Q Q' : Int32 → mH → Prop} (hQ : ∀ (y0 : Int32) (y1 : mH), Q y0 y1 → Q' y0 y1) : w_X12_plainShows a1 a2 h Q → w_X12_plainShows a1 a2 h Q' := by
  unfold w_X12_plainShows
  repeat' (first | with_reducible exact hQ _ _ | with_reducible refine And.imp ?_ ?_ | with_reducible refine moI ?_ | with_reducible refine moA fun _ => ?_ | with_reducible refine Exists.imp fun _ => ?_ | with_reducible refine mo_X12_ran (fun _ => ?_) | with_reducible exact id | exact False.elim)
theorem mo_X12_boyShows {a1 : Int32} {a2 : Int32} {h : mH} {Q Q' : Int32 → mH → Prop} (hQ : ∀ (y0 : Int32) (y1 : mH), Q y0 y1 → Q' y0 y1) : w_X12_boyShows a1 a2 h Q → w_X12_boyShows a1 a2 h Q' := by
  unfold w_X12_boyShows
  repeat' (first | with_reducible exact hQ _ _ | with_reducible refine And.imp ?_ ?_ | with_reducible refine moI ?_ | with_reducible refine moA fun _ => ?_ | with_reducible refine Exists.imp fun _ => ?_ | with_reducible refine mo_X12_ran (fun _ => ?_) | with_reducible refine mo_X12_plainShows (fun _ _ => ?_) | with_reducible exact id | exact False.elim)
theorem mo_X12_showing {a1 : Int32} {a2 : Int32} {h : mH} {Q Q' : Int32 → mH → Prop} (hQ : ∀ (y0 : Int32) (y1 : mH), Q y0 y1 → Q' y0 y1) : w_X12_showing a1 a2 h Q → w_X12_showing a1 a2 h Q' := by
  unfold w_X12_showing
  repeat' (first | with_reducible exact hQ _ _ | with_reducible refine And.imp ?_ ?_ | with_reducible refine moI ?_ | with_reducible refine moA fun _ => ?_ | with_reducible refine Exists.imp fun _ => ?_ | with_reducible refine mo_X12_isUnder (fun _ _ => ?_) | with_reducible refine mo_X12_plainShows (fun _ _ => ?_) | with_reducible refine mo_X12_boyShows (fun _ _ => ?_) | with_reducible refine mo_X12_ran (fun _ => ?_) | with_reducible exact id | exact False.elim)
theorem mo_X12_plainParts {a1 : Int32} {a2 : Int32} {h : mH} {Q Q' : Int32 → mH → Prop} (hQ : ∀ (y0 : Int32) (y1 : mH), Q y0 y1 → Q' y0 y1) : w_X12_plainParts a1 a2 h Q → w_X12_plainParts a1 a2 h Q' := by
  unfold w_X12_plainParts
  repeat' (first | with_reducible exact hQ _ _ | with_reducible refine And.imp ?_ ?_ | with_reducible refine moI ?_ | with_reducible refine moA fun _ => ?_ | with_reducible refine Exists.imp fun _ => ?_ | with_reducible refine mo_X12_ran (fun _ => ?_) | with_reducible refine mo_X12_showing (fun _ _ => ?_) | with_reducible exact id | exact False.elim)
theorem mo_X12_hillParts {a1 : Int32} {a2 : Int32} {h : mH} {Q Q' : Int32 → mH → Prop} (hQ : ∀ (y0 : Int32) (y1 : mH), Q y0 y1 → Q' y0 y1) : w_X12_hillParts a1 a2 h Q → w_X12_hillParts a1 a2 h Q' := by
  unfold w_X12_hillParts
  repeat' (first | with_reducible exact hQ _ _ | with_reducible refine And.imp ?_ ?_ | with_reducible refine moI ?_ | with_reducible refine moA fun _ => ?_ | with_reducible refine Exists.imp fun _ => ?_ | with_reducible refine mo_X12_ran (fun _ => ?_) | with_reducible refine mo_X12_plainParts (fun _ _ => ?_) | with_reducible exact id | exact False.elim)
theorem mo_X12_plainWalks {a1 : Int32} {a2 : Int32} {h : mH} {Q Q' : Int32 → mH → Prop} (hQ : ∀ (y0 : Int32) (y1 : mH), Q y0 y1 → Q' y0 y1) : w_X12_plainWalks a1 a2 h Q → w_X12_plainWalks a1 a2 h Q' := by
  unfold w_X12_plainWalks
  repeat' (first | with_reducible exact hQ _ _ | with_reducible refine And.imp ?_ ?_ | with_reducible refine moI ?_ | with_reducible refine moA fun _ => ?_ | with_reducible refine Exists.imp fun _ => ?_ | with_reducible refine mo_X12_ran (fun _ => ?_) | with_reducible exact id | exact False.elim)
theorem mo_X12_fogWalks {a1 : Int32} {a2 : Int32} {h : mH} {Q Q' : Int32 → mH → Prop} (hQ : ∀ (y0 : Int32) (y1 : mH), Q y0 y1 → Q' y0 y1) : w_X12_fogWalks a1 a2 h Q → w_X12_fogWalks a1 a2 h Q' := by
  unfold w_X12_fogWalks
  repeat' (first | with_reducible exact hQ _ _ | with_reducible refine And.imp ?_ ?_ | with_reducible refine moI ?_ | with_reducible refine moA fun _ => ?_ | with_reducible refine Exists.imp fun _ => ?_ | with_reducible refine mo_X12_ran (fun _ => ?_) | with_reducible refine mo_X12_plainWalks (fun _ _ => ?_) | with_reducible exact id | exact False.elim)
theorem mo_X12_walking {a1 : Int32} {a2 : Int32} {h : mH} {Q Q' : Int32 → mH → Prop} (hQ : ∀ (y0 : Int32) (y1 : mH), Q y0 y1 → Q' y0 y1) : w_X12_walking a1 a2 h Q → w_X12_walking a1 a2 h Q' := by
  unfold w_X12_walking
  repeat' (first | with_reducible exact hQ _ _ | with_reducible refine And.imp ?_ ?_ | with_reducible refine moI ?_ | with_reducible refine moA fun _ => ?_ | with_reducible refine Exists.imp fun _ => ?_ | with_reducible refine mo_X12_plainWalks (fun _ _ => ?_) | with_reducible refine mo_X12_fogWalks (fun _ _ => ?_) | with_reducible refine mo_X12_ran (fun _ => ?_) | with_reducible refine mo_X12_showing (fun _ _ => ?_) | with_reducible exact id | exact False.elim)
theorem mo_X12_parting {a1 : Int32} {a2 : Int32} {h : mH} {Q Q' : Int32 → mH → Prop} (hQ : ∀ (y0 : Int32) (y1 : mH), Q y0 y1 → Q' y0 y1) : w_X12_parting a1 a2 h Q → w_X12_parting a1 a2 h Q' := by
  unfold w_X12_parting
  repeat' (first | with_reducible exact hQ _ _ | with_reducible refine And.imp ?_ ?_ | with_reducible refine moI ?_ | with_reducible refine moA fun _ => ?_ | with_reducible refine Exists.imp fun _ => ?_ | with_reducible refine mo_X12_isUnder (fun _ _ => ?_) | with_reducible refine mo_X12_plainParts (fun _ _ => ?_) | with_reducible refine mo_X12_hillParts (fun _ _ => ?_) | with_reducible refine mo_X12_ran (fun _ => ?_) | with_reducible refine mo_X12_walking (fun _ _ => ?_) | with_reducible exact id | exact False.elim)
theorem mo_X12_plainTells {a1 : Int32} {a2 : Int32} {h : mH} {Q Q' : Int32 → mH → Prop} (hQ : ∀ (y0 : Int32) (y1 : mH), Q y0 y1 → Q' y0 y1) : w_X12_plainTells a1 a2 h Q → w_X12_plainTells a1 a2 h Q' := by
  unfold w_X12_plainTells
  repeat' (first | with_reducible exact hQ _ _ | with_reducible refine And.imp ?_ ?_ | with_reducible refine moI ?_ | with_reducible refine moA fun _ => ?_ | with_reducible refine Exists.imp fun _ => ?_ | with_reducible refine mo_X12_ran (fun _ => ?_) | with_reducible refine mo_X12_parting (fun _ _ => ?_) | with_reducible refine mo_X12_walking (fun _ _ => ?_) | with_reducible exact id | exact False.elim)
theorem mo_X12_telling {a1 : Int32} {a2 : Int32} {h : mH} {Q Q' : Int32 → mH → Prop} (hQ : ∀ (y0 : Int32) (y1 : mH), Q y0 y1 → Q' y0 y1) : w_X12_telling a1 a2 h Q → w_X12_telling a1 a2 h Q' := by
  unfold w_X12_telling
  repeat' (first | with_reducible exact hQ _ _ | with_reducible refine And.imp ?_ ?_ | with_reducible refine moI ?_ | with_reducible refine moA fun _ => ?_ | with_reducible refine Exists.imp fun _ => ?_ | with_reducible refine mo_X12_plainTells (fun _ _ => ?_) | with_reducible refine mo_X12_ran (fun _ => ?_) | with_reducible exact id | exact False.elim)
theorem mo_X12_act {a1 : Int32} {a2 : Int32} {a3 : Int32} {h : mH} {Q Q' : Int32 → mH → Prop} (hQ : ∀ (y0 : Int32) (y1 : mH), Q y0 y1 → Q' y0 y1) : w_X12_act a1 a2 a3 h Q → w_X12_act a1 a2 a3 h Q' := by
  unfold w_X12_act
  repeat' (first | with_reducible exact hQ _ _ | with_reducible refine And.imp ?_ ?_ | with_reducible refine moI ?_ | with_reducible refine moA fun _ => ?_ | with_reducible refine Exists.imp fun _ => ?_ | with_reducible refine mo_X12_isBody (fun _ _ => ?_) | with_reducible refine mo_X12_in (fun _ _ => ?_) | with_reducible refine mo_X12_telling (fun _ _ => ?_) | with_reducible refine mo_X12_walking (fun _ _ => ?_) | with_reducible refine mo_X12_parting (fun _ _ => ?_) | with_reducible refine mo_X12_showing (fun _ _ => ?_) | with_reducible exact id | exact False.elim)
theorem mo_X12_count {a1 : Int32} {h : mH} {Q Q' : Int32 → mH → Prop} (hQ : ∀ (y0 : Int32) (y1 : mH), Q y0 y1 → Q' y0 y1) : w_X12_count a1 h Q → w_X12_count a1 h Q' := by
  unfold w_X12_count
  repeat' (first | with_reducible exact hQ _ _ | with_reducible refine And.imp ?_ ?_ | with_reducible refine moI ?_ | with_reducible refine moA fun _ => ?_ | with_reducible refine Exists.imp fun _ => ?_ | with_reducible exact id | exact False.elim)
theorem mo_X12_keep {a1 : Int32} {a2 : Int32} {h : mH} {Q Q' : Int32 → mH → Prop} (hQ : ∀ (y0 : Int32) (y1 : mH), Q y0 y1 → Q' y0 y1) : w_X12_keep a1 a2 h Q → w_X12_keep a1 a2 h Q' := by
  unfold w_X12_keep
  repeat' (first | with_reducible exact hQ _ _ | with_reducible refine And.imp ?_ ?_ | with_reducible refine moI ?_ | with_reducible refine moA fun _ => ?_ | with_reducible refine Exists.imp fun _ => ?_ | with_reducible refine mo_X12_isShelf (fun _ _ => ?_) | with_reducible refine mo_X12_isBody (fun _ _ => ?_) | with_reducible exact id | exact False.elim)
theorem mo_X12_row_L54 {K80 K80' : mH → Prop} {Q Q' : Int32 → mH → Prop} {l1 : Int32} (hK80 : ∀ (y0 : mH), K80 y0 → K80' y0) (hQ : ∀ (y0 : Int32) (y1 : mH), Q y0 y1 → Q' y0 y1) : ∀ (y0 : Nat) (y1 : Int32) (y2 : mH), w_X12_row_L54 K80 Q l1 y0 y1 y2 → w_X12_row_L54 K80' Q' l1 y0 y1 y2 := by
  intro n
  induction n with
  | zero => intro y1 y2; exact False.elim
  | succ n ih =>
    intro y1 y2
    unfold w_X12_row_L54
    repeat' (first | with_reducible exact hK80 _ | with_reducible exact hQ _ _ | with_reducible exact ih _ _ | with_reducible refine And.imp ?_ ?_ | with_reducible refine moI ?_ | with_reducible refine moA fun _ => ?_ | with_reducible refine Exists.imp fun _ => ?_ | with_reducible exact id | exact False.elim)
theorem mo_X12_row {a1 : Int32} {a2 : Int32} {a3 : Int32} {h : mH} {Q Q' : Int32 → mH → Prop} (hQ : ∀ (y0 : Int32) (y1 : mH), Q y0 y1 → Q' y0 y1) : w_X12_row a1 a2 a3 h Q → w_X12_row a1 a2 a3 h Q' := by
  unfold w_X12_row
  repeat' (first | with_reducible exact hQ _ _ | with_reducible refine And.imp ?_ ?_ | with_reducible refine moI ?_ | with_reducible refine moA fun _ => ?_ | with_reducible refine Exists.imp fun _ => ?_ | with_reducible refine mo_X12_isShelf (fun _ _ => ?_) | with_reducible refine mo_X12_in (fun _ _ => ?_) | with_reducible refine mo_X12_row_L54 (fun _ => ?_) (fun _ _ => ?_) _ _ _ | with_reducible exact id | exact False.elim)
theorem mo_X12_whyNoPlace {a1 : Int32} {a2 : Int32} {h : mH} {Q Q' : Int32 → mH → Prop} (hQ : ∀ (y0 : Int32) (y1 : mH), Q y0 y1 → Q' y0 y1) : w_X12_whyNoPlace a1 a2 h Q → w_X12_whyNoPlace a1 a2 h Q' := by
  unfold w_X12_whyNoPlace
  repeat' (first | with_reducible exact hQ _ _ | with_reducible refine And.imp ?_ ?_ | with_reducible refine moI ?_ | with_reducible refine moA fun _ => ?_ | with_reducible refine Exists.imp fun _ => ?_ | with_reducible refine mo_X12_isShelf (fun _ _ => ?_) | with_reducible refine mo_X12_in (fun _ _ => ?_) | with_reducible exact id | exact False.elim)
theorem mo_X12_put {a1 : Int32} {a2 : Int32} {a3 : Int64} {h : mH} {Q Q' : Int32 → mH → Prop} (hQ : ∀ (y0 : Int32) (y1 : mH), Q y0 y1 → Q' y0 y1) : w_X12_put a1 a2 a3 h Q → w_X12_put a1 a2 a3 h Q' := by
  unfold w_X12_put
  repeat' (first | with_reducible exact hQ _ _ | with_reducible refine And.imp ?_ ?_ | with_reducible refine moI ?_ | with_reducible refine moA fun _ => ?_ | with_reducible refine Exists.imp fun _ => ?_ | with_reducible refine mo_X12_whyNoPlace (fun _ _ => ?_) | with_reducible exact id | exact False.elim)
theorem mo_X12_element {a1 : Int32} {a2 : Int32} {h : mH} {Q Q' : Int64 → mH → Prop} (hQ : ∀ (y0 : Int64) (y1 : mH), Q y0 y1 → Q' y0 y1) : w_X12_element a1 a2 h Q → w_X12_element a1 a2 h Q' := by
  unfold w_X12_element
  repeat' (first | with_reducible exact hQ _ _ | with_reducible refine And.imp ?_ ?_ | with_reducible refine moI ?_ | with_reducible refine moA fun _ => ?_ | with_reducible refine Exists.imp fun _ => ?_ | with_reducible refine mo_X12_whyNoPlace (fun _ _ => ?_) | with_reducible exact id | exact False.elim)
theorem mo_X12_shift_L113 {K147 K147' : mH → Prop} {Q Q' : Int32 → mH → Prop} {l1 : Int32} {l2 : Int32} {l3 : Int32} {l4 : Int32} {l5 : Int32} (hK147 : ∀ (y0 : mH), K147 y0 → K147' y0) (hQ : ∀ (y0 : Int32) (y1 : mH), Q y0 y1 → Q' y0 y1) : ∀ (y0 : Nat) (y1 : Int32) (y2 : mH), w_X12_shift_L113 K147 Q l1 l2 l3 l4 l5 y0 y1 y2 → w_X12_shift_L113 K147' Q' l1 l2 l3 l4 l5 y0 y1 y2 := by
  intro n
  induction n with
  | zero => intro y1 y2; exact False.elim
  | succ n ih =>
    intro y1 y2
    unfold w_X12_shift_L113
    repeat' (first | with_reducible exact hK147 _ | with_reducible exact hQ _ _ | with_reducible exact ih _ _ | with_reducible refine And.imp ?_ ?_ | with_reducible refine moI ?_ | with_reducible refine moA fun _ => ?_ | with_reducible refine Exists.imp fun _ => ?_ | with_reducible exact id | exact False.elim)
theorem mo_X12_shift_L150 {K185 K185' : mH → Prop} {Q Q' : Int32 → mH → Prop} {l3 : Int32} {l4 : Int32} {l5 : Int32} (hK185 : ∀ (y0 : mH), K185 y0 → K185' y0) (hQ : ∀ (y0 : Int32) (y1 : mH), Q y0 y1 → Q' y0 y1) : ∀ (y0 : Nat) (y1 : Int32) (y2 : mH), w_X12_shift_L150 K185 Q l3 l4 l5 y0 y1 y2 → w_X12_shift_L150 K185' Q' l3 l4 l5 y0 y1 y2 := by
  intro n
  induction n with
  | zero => intro y1 y2; exact False.elim
  | succ n ih =>
    intro y1 y2
    unfold w_X12_shift_L150
    repeat' (first | with_reducible exact hK185 _ | with_reducible exact hQ _ _ | with_reducible exact ih _ _ | with_reducible refine And.imp ?_ ?_ | with_reducible refine moI ?_ | with_reducible refine moA fun _ => ?_ | with_reducible refine Exists.imp fun _ => ?_ | with_reducible exact id | exact False.elim)
theorem mo_X12_shift {a1 : Int32} {a2 : Int32} {a3 : Int32} {a4 : Int32} {a5 : Int32} {h : mH} {Q Q' : Int32 → mH → Prop} (hQ : ∀ (y0 : Int32) (y1 : mH), Q y0 y1 → Q' y0 y1) : w_X12_shift a1 a2 a3 a4 a5 h Q → w_X12_shift a1 a2 a3 a4 a5 h Q' := by
  unfold w_X12_shift
  repeat' (first | with_reducible exact hQ _ _ | with_reducible refine And.imp ?_ ?_ | with_reducible refine moI ?_ | with_reducible refine moA fun _ => ?_ | with_reducible refine Exists.imp fun _ => ?_ | with_reducible refine mo_X12_isShelf (fun _ _ => ?_) | with_reducible refine mo_X12_shift_L113 (fun _ => ?_) (fun _ _ => ?_) _ _ _ | with_reducible refine mo_X12_shift_L150 (fun _ => ?_) (fun _ _ => ?_) _ _ _ | with_reducible exact id | exact False.elim)
theorem mo_X12_taken {a1 : Int32} {a2 : Int32} {h : mH} {Q Q' : Int32 → mH → Prop} (hQ : ∀ (y0 : Int32) (y1 : mH), Q y0 y1 → Q' y0 y1) : w_X12_taken a1 a2 h Q → w_X12_taken a1 a2 h Q' := by
  unfold w_X12_taken
  repeat' (first | with_reducible exact hQ _ _ | with_reducible refine And.imp ?_ ?_ | with_reducible refine moI ?_ | with_reducible refine moA fun _ => ?_ | with_reducible refine Exists.imp fun _ => ?_ | with_reducible refine mo_X12_isShelf (fun _ _ => ?_) | with_reducible refine mo_X12_in (fun _ _ => ?_) | with_reducible refine mo_X12_isUnder (fun _ _ => ?_) | with_reducible exact id | exact False.elim)
