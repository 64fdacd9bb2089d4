/-! posts may be weakened (1) -/
theorem mn_wpJ0_checkIndex_df160 {a1 : Int32} {a2 : Int32} {σ : St} {post post' : St → Prop} (hpost : ∀ x0, post x0 → post' x0) : wpJ0_checkIndex_df160 a1 a2 σ post → wpJ0_checkIndex_df160 a1 a2 σ post' := by
  unfold wpJ0_checkIndex_df160
  with_reducible repeat' (first | exact id | exact hpost _ | refine And.imp ?_ ?_ | refine forall_imp fun _ => ?_ | refine Exists.imp fun _ => ?_)
theorem mn_wbX0_open_13 {k0 : Nat} {post post' : St → Prop} (hpost : ∀ x0, post x0 → post' x0) : ∀ (n : Nat) (y0 : Int32) (y1 : Int32) (y2 : St), wbX0_open_13 k0 post n y0 y1 y2 → wbX0_open_13 k0 post' n y0 y1 y2 := by
  intro n
  induction n with
  | zero => intro _ _ _ ; exact id
  | succ n ih =>
    intro _ _ _ 
    unfold wbX0_open_13
    with_reducible repeat' (first | exact id | exact ih _ _ _ | exact hpost _ | refine And.imp ?_ ?_ | refine forall_imp fun _ => ?_ | refine Exists.imp fun _ => ?_)
theorem mn_wpX0_open {k0 : Nat} {a1 : Int32} {σ : St} {post post' : St → Prop} (hpost : ∀ x0, post x0 → post' x0) : wpX0_open k0 a1 σ post → wpX0_open k0 a1 σ post' := by
  unfold wpX0_open
  with_reducible repeat' (first | exact id | exact hpost _ | refine mn_wbX0_open_13 (fun _ => ?_) _ _ _ _ | refine And.imp ?_ ?_ | refine forall_imp fun _ => ?_ | refine Exists.imp fun _ => ?_)
theorem mn_wpX4_row {a1 : Int32} {a2 : Int32} {a3 : Int32} {σ : St} {post post' : Int32 → St → Prop} (hpost : ∀ x0 x1, post x0 x1 → post' x0 x1) : wpX4_row a1 a2 a3 σ post → wpX4_row a1 a2 a3 σ post' := by
  unfold wpX4_row
  with_reducible repeat' (first | exact id | exact hpost _ _ | refine And.imp ?_ ?_ | refine forall_imp fun _ => ?_ | refine Exists.imp fun _ => ?_)
theorem mn_wbX0_addSums_87 {k0 : Nat} {K3 K3' : Int32 → Int32 → Int32 → Int32 → Int32 → Int32 → Int32 → St → Prop} (hK3 : ∀ x0 x1 x2 x3 x4 x5 x6 x7, K3 x0 x1 x2 x3 x4 x5 x6 x7 → K3' x0 x1 x2 x3 x4 x5 x6 x7) {post post' : St → Prop} (hpost : ∀ x0, post x0 → post' x0) {v1 : Int32} {v2 : Int32} {v3 : Int32} {v4 : Int32} {v5 : Int32} {v6 : Int32} {v7 : Int32} {v8 : Int32} {s0 : Int32} {s1 : Int32} {s2 : Int32} {σ : St} : wbX0_addSums_87 k0 K3 post v1 v2 v3 v4 v5 v6 v7 v8 s0 s1 s2 σ → wbX0_addSums_87 k0 K3' post' v1 v2 v3 v4 v5 v6 v7 v8 s0 s1 s2 σ := by
  unfold wbX0_addSums_87
  with_reducible repeat' (first | exact id | exact hK3 _ _ _ _ _ _ _ _ | exact hpost _ | refine And.imp ?_ ?_ | refine forall_imp fun _ => ?_ | refine Exists.imp fun _ => ?_)
theorem mn_wbX0_addSums_3 {k0 : Nat} {post post' : St → Prop} (hpost : ∀ x0, post x0 → post' x0) : ∀ (n : Nat) (y0 : Int32) (y1 : Int32) (y2 : Int32) (y3 : Int32) (y4 : Int32) (y5 : Int32) (y6 : Int32) (y7 : St), wbX0_addSums_3 k0 post n y0 y1 y2 y3 y4 y5 y6 y7 → wbX0_addSums_3 k0 post' n y0 y1 y2 y3 y4 y5 y6 y7 := by
  intro n
  induction n with
  | zero => intro _ _ _ _ _ _ _ _ ; exact id
  | succ n ih =>
    intro _ _ _ _ _ _ _ _ 
    unfold wbX0_addSums_3
    with_reducible repeat' (first | exact id | exact ih _ _ _ _ _ _ _ _ | exact hpost _ | refine mn_wbX0_addSums_87 (fun _ _ _ _ _ _ _ _ => ?_) (fun _ => ?_) | refine And.imp ?_ ?_ | refine forall_imp fun _ => ?_ | refine Exists.imp fun _ => ?_)
theorem mn_wpX0_addSums {k0 : Nat} {a1 : Int32} {a2 : Int32} {a3 : Int32} {a4 : Int32} {a5 : Int32} {a6 : Int32} {σ : St} {post post' : St → Prop} (hpost : ∀ x0, post x0 → post' x0) : wpX0_addSums k0 a1 a2 a3 a4 a5 a6 σ post → wpX0_addSums k0 a1 a2 a3 a4 a5 a6 σ post' := by
  unfold wpX0_addSums
  with_reducible repeat' (first | exact id | exact hpost _ | refine mn_wbX0_addSums_3 (fun _ => ?_) _ _ _ _ _ _ _ _ _ | refine And.imp ?_ ?_ | refine forall_imp fun _ => ?_ | refine Exists.imp fun _ => ?_)
theorem mn_wpX0_give {k0 : Nat} {a1 : Int32} {a2 : Int32} {a3 : Int32} {a4 : Int32} {σ : St} {post post' : St → Prop} (hpost : ∀ x0, post x0 → post' x0) : wpX0_give k0 a1 a2 a3 a4 σ post → wpX0_give k0 a1 a2 a3 a4 σ post' := by
  unfold wpX0_give
  with_reducible repeat' (first | exact id | exact hpost _ | refine mn_wpX4_row (fun _ _ => ?_) | refine mn_wpX0_addSums (fun _ => ?_) | refine And.imp ?_ ?_ | refine forall_imp fun _ => ?_ | refine Exists.imp fun _ => ?_)
theorem mn_wpX0_inRow {k0 : Nat} {a1 : Int32} {a2 : Int32} {a3 : Int32} {σ : St} {post post' : Int32 → St → Prop} (hpost : ∀ x0 x1, post x0 x1 → post' x0 x1) : wpX0_inRow k0 a1 a2 a3 σ post → wpX0_inRow k0 a1 a2 a3 σ post' := by
  unfold wpX0_inRow
  with_reducible repeat' (first | exact id | exact hpost _ _ | refine And.imp ?_ ?_ | refine forall_imp fun _ => ?_ | refine Exists.imp fun _ => ?_)
theorem mn_wbX0_between_32 {k0 : Nat} {post post' : Int32 → St → Prop} (hpost : ∀ x0 x1, post x0 x1 → post' x0 x1) {v1 : Int32} {v2 : Int32} {v5 : Int32} {s0 : Int32} {σ : St} : wbX0_between_32 k0 post v1 v2 v5 s0 σ → wbX0_between_32 k0 post' v1 v2 v5 s0 σ := by
  unfold wbX0_between_32
  with_reducible repeat' (first | exact id | exact hpost _ _ | refine And.imp ?_ ?_ | refine forall_imp fun _ => ?_ | refine Exists.imp fun _ => ?_)
theorem mn_wbX0_between_12 {k0 : Nat} {post post' : Int32 → St → Prop} (hpost : ∀ x0 x1, post x0 x1 → post' x0 x1) {v1 : Int32} {v2 : Int32} {v4 : Int32} {s0 : Int32} {σ : St} : wbX0_between_12 k0 post v1 v2 v4 s0 σ → wbX0_between_12 k0 post' v1 v2 v4 s0 σ := by
  unfold wbX0_between_12
  with_reducible repeat' (first | exact id | exact hpost _ _ | refine mn_wbX0_between_32 (fun _ _ => ?_) | refine And.imp ?_ ?_ | refine forall_imp fun _ => ?_ | refine Exists.imp fun _ => ?_)
theorem mn_wpX0_between {k0 : Nat} {a1 : Int32} {a2 : Int32} {a3 : Int32} {a4 : Int32} {σ : St} {post post' : Int32 → St → Prop} (hpost : ∀ x0 x1, post x0 x1 → post' x0 x1) : wpX0_between k0 a1 a2 a3 a4 σ post → wpX0_between k0 a1 a2 a3 a4 σ post' := by
  unfold wpX0_between
  with_reducible repeat' (first | exact id | exact hpost _ _ | refine mn_wbX0_between_12 (fun _ _ => ?_) | refine And.imp ?_ ?_ | refine forall_imp fun _ => ?_ | refine Exists.imp fun _ => ?_)
theorem mn_wbX0_groupTotal_6 {k0 : Nat} {post post' : Int32 → St → Prop} (hpost : ∀ x0 x1, post x0 x1 → post' x0 x1) : ∀ (n : Nat) (y0 : Int32) (y1 : Int32) (y2 : Int32) (y3 : Int32) (y4 : Int32) (y5 : St), wbX0_groupTotal_6 k0 post n y0 y1 y2 y3 y4 y5 → wbX0_groupTotal_6 k0 post' n y0 y1 y2 y3 y4 y5 := by
  intro n
  induction n with
  | zero => intro _ _ _ _ _ _ ; exact id
  | succ n ih =>
    intro _ _ _ _ _ _ 
    unfold wbX0_groupTotal_6
    with_reducible repeat' (first | exact id | exact ih _ _ _ _ _ _ | exact hpost _ _ | refine mn_wpX0_between (fun _ _ => ?_) | refine And.imp ?_ ?_ | refine forall_imp fun _ => ?_ | refine Exists.imp fun _ => ?_)
theorem mn_wpX0_groupTotal {k0 : Nat} {a1 : Int32} {a2 : Int32} {a3 : Int32} {σ : St} {post post' : Int32 → St → Prop} (hpost : ∀ x0 x1, post x0 x1 → post' x0 x1) : wpX0_groupTotal k0 a1 a2 a3 σ post → wpX0_groupTotal k0 a1 a2 a3 σ post' := by
  unfold wpX0_groupTotal
  with_reducible repeat' (first | exact id | exact hpost _ _ | refine mn_wbX0_groupTotal_6 (fun _ _ => ?_) _ _ _ _ _ _ _ | refine And.imp ?_ ?_ | refine forall_imp fun _ => ?_ | refine Exists.imp fun _ => ?_)
theorem mn_wpX0_since {k0 : Nat} {a1 : Int32} {a2 : Int32} {σ : St} {post post' : Int32 → St → Prop} (hpost : ∀ x0 x1, post x0 x1 → post' x0 x1) : wpX0_since k0 a1 a2 σ post → wpX0_since k0 a1 a2 σ post' := by
  unfold wpX0_since
  with_reducible repeat' (first | exact id | exact hpost _ _ | refine And.imp ?_ ?_ | refine forall_imp fun _ => ?_ | refine Exists.imp fun _ => ?_)
theorem mn_wbX0_reopen_27 {k0 : Nat} {K8 K8' : Int32 → Int32 → St → Prop} (hK8 : ∀ x0 x1 x2, K8 x0 x1 x2 → K8' x0 x1 x2) {post post' : St → Prop} (hpost : ∀ x0, post x0 → post' x0) : ∀ (n : Nat) (y0 : Int32) (y1 : Int32) (y2 : Int32) (y3 : St), wbX0_reopen_27 k0 K8 post n y0 y1 y2 y3 → wbX0_reopen_27 k0 K8' post' n y0 y1 y2 y3 := by
  intro n
  induction n with
  | zero => intro _ _ _ _ ; exact id
  | succ n ih =>
    intro _ _ _ _ 
    unfold wbX0_reopen_27
    with_reducible repeat' (first | exact id | exact ih _ _ _ _ | exact hK8 _ _ _ | exact hpost _ | refine mn_wpX0_between (fun _ _ => ?_) | refine And.imp ?_ ?_ | refine forall_imp fun _ => ?_ | refine Exists.imp fun _ => ?_)
theorem mn_wbX0_reopen_8 {k0 : Nat} {post post' : St → Prop} (hpost : ∀ x0, post x0 → post' x0) : ∀ (n : Nat) (y0 : Int32) (y1 : Int32) (y2 : St), wbX0_reopen_8 k0 post n y0 y1 y2 → wbX0_reopen_8 k0 post' n y0 y1 y2 := by
  intro n
  induction n with
  | zero => intro _ _ _ ; exact id
  | succ n ih =>
    intro _ _ _ 
    unfold wbX0_reopen_8
    with_reducible repeat' (first | exact id | exact ih _ _ _ | exact hpost _ | refine mn_wpX0_open (fun _ => ?_) | refine mn_wbX0_reopen_27 (fun _ _ _ => ?_) (fun _ => ?_) _ _ _ _ _ | refine And.imp ?_ ?_ | refine forall_imp fun _ => ?_ | refine Exists.imp fun _ => ?_)
theorem mn_wpX0_reopen {k0 : Nat} {a1 : Int32} {σ : St} {post post' : St → Prop} (hpost : ∀ x0, post x0 → post' x0) : wpX0_reopen k0 a1 σ post → wpX0_reopen k0 a1 σ post' := by
  unfold wpX0_reopen
  with_reducible repeat' (first | exact id | exact hpost _ | refine mn_wbX0_reopen_8 (fun _ => ?_) _ _ _ _ | refine And.imp ?_ ?_ | refine forall_imp fun _ => ?_ | refine Exists.imp fun _ => ?_)
theorem mn_wpX0_beginFrom {k0 : Nat} {k1 : Nat} {σ : St} {post post' : St → Prop} (hpost : ∀ x0, post x0 → post' x0) : wpX0_beginFrom k0 k1 σ post → wpX0_beginFrom k0 k1 σ post' := by
  unfold wpX0_beginFrom
  with_reducible repeat' (first | exact id | exact hpost _ | refine mn_wpX0_reopen (fun _ => ?_) | refine And.imp ?_ ?_ | refine forall_imp fun _ => ?_ | refine Exists.imp fun _ => ?_)
theorem mn_wpX4_placeOf {a1 : Int32} {σ : St} {post post' : Int32 → St → Prop} (hpost : ∀ x0 x1, post x0 x1 → post' x0 x1) : wpX4_placeOf a1 σ post → wpX4_placeOf a1 σ post' := by
  unfold wpX4_placeOf
  with_reducible repeat' (first | exact id | exact hpost _ _ | refine And.imp ?_ ?_ | refine forall_imp fun _ => ?_ | refine Exists.imp fun _ => ?_)
theorem mn_wpX4_sexOf {a1 : Int32} {σ : St} {post post' : Int32 → St → Prop} (hpost : ∀ x0 x1, post x0 x1 → post' x0 x1) : wpX4_sexOf a1 σ post → wpX4_sexOf a1 σ post' := by
  unfold wpX4_sexOf
  with_reducible repeat' (first | exact id | exact hpost _ _ | refine And.imp ?_ ?_ | refine forall_imp fun _ => ?_ | refine Exists.imp fun _ => ?_)
theorem mn_wbX4_listedIn_7 {post post' : Int32 → St → Prop} (hpost : ∀ x0 x1, post x0 x1 → post' x0 x1) : ∀ (n : Nat) (y0 : Int32) (y1 : Int32) (y2 : St), wbX4_listedIn_7 post n y0 y1 y2 → wbX4_listedIn_7 post' n y0 y1 y2 := by
  intro n
  induction n with
  | zero => intro _ _ _ ; exact id
  | succ n ih =>
    intro _ _ _ 
    unfold wbX4_listedIn_7
    with_reducible repeat' (first | exact id | exact ih _ _ _ | exact hpost _ _ | refine And.imp ?_ ?_ | refine forall_imp fun _ => ?_ | refine Exists.imp fun _ => ?_)
theorem mn_wpX4_listedIn {a1 : Int32} {σ : St} {post post' : Int32 → St → Prop} (hpost : ∀ x0 x1, post x0 x1 → post' x0 x1) : wpX4_listedIn a1 σ post → wpX4_listedIn a1 σ post' := by
  unfold wpX4_listedIn
  with_reducible repeat' (first | exact id | exact hpost _ _ | refine mn_wbX4_listedIn_7 (fun _ _ => ?_) _ _ _ _ | refine And.imp ?_ ?_ | refine forall_imp fun _ => ?_ | refine Exists.imp fun _ => ?_)
theorem mn_wpX3_stand {k1 : Nat} {a2 : Int32} {a3 : Int32} {a4 : Int32} {a5 : Int32} {σ : St} {post post' : St → Prop} (hpost : ∀ x0, post x0 → post' x0) : wpX3_stand k1 a2 a3 a4 a5 σ post → wpX3_stand k1 a2 a3 a4 a5 σ post' := by
  unfold wpX3_stand
  with_reducible repeat' (first | exact id | exact hpost _ | refine mn_wpX4_listedIn (fun _ _ => ?_) | refine And.imp ?_ ?_ | refine forall_imp fun _ => ?_ | refine Exists.imp fun _ => ?_)
theorem mn_wbX3_pick_4 {post post' : Int32 → St → Prop} (hpost : ∀ x0 x1, post x0 x1 → post' x0 x1) : ∀ (n : Nat) (y0 : Int32) (y1 : Int32) (y2 : St), wbX3_pick_4 post n y0 y1 y2 → wbX3_pick_4 post' n y0 y1 y2 := by
  intro n
  induction n with
  | zero => intro _ _ _ ; exact id
  | succ n ih =>
    intro _ _ _ 
    unfold wbX3_pick_4
    with_reducible repeat' (first | exact id | exact ih _ _ _ | exact hpost _ _ | refine And.imp ?_ ?_ | refine forall_imp fun _ => ?_ | refine Exists.imp fun _ => ?_)
theorem mn_wpX3_pick {σ : St} {post post' : Int32 → St → Prop} (hpost : ∀ x0 x1, post x0 x1 → post' x0 x1) : wpX3_pick σ post → wpX3_pick σ post' := by
  unfold wpX3_pick
  with_reducible repeat' (first | exact id | exact hpost _ _ | refine mn_wbX3_pick_4 (fun _ _ => ?_) _ _ _ _ | refine And.imp ?_ ?_ | refine forall_imp fun _ => ?_ | refine Exists.imp fun _ => ?_)
theorem mn_wpX3_give {a1 : Int32} {σ : St} {post post' : St → Prop} (hpost : ∀ x0, post x0 → post' x0) : wpX3_give a1 σ post → wpX3_give a1 σ post' := by
  unfold wpX3_give
  with_reducible repeat' (first | exact id | exact hpost _ | refine mn_wpX0_give (fun _ => ?_) | refine And.imp ?_ ?_ | refine forall_imp fun _ => ?_ | refine Exists.imp fun _ => ?_)
theorem mn_wpX3_bounded {a1 : Int64} {σ : St} {post post' : Int32 → St → Prop} (hpost : ∀ x0 x1, post x0 x1 → post' x0 x1) : wpX3_bounded a1 σ post → wpX3_bounded a1 σ post' := by
  unfold wpX3_bounded
  with_reducible repeat' (first | exact id | exact hpost _ _ | refine And.imp ?_ ?_ | refine forall_imp fun _ => ?_ | refine Exists.imp fun _ => ?_)
theorem mn_wpX3_join {a1 : Int32} {a2 : Int32} {a3 : Int32} {σ : St} {post post' : Int32 → St → Prop} (hpost : ∀ x0 x1, post x0 x1 → post' x0 x1) : wpX3_join a1 a2 a3 σ post → wpX3_join a1 a2 a3 σ post' := by
  unfold wpX3_join
  with_reducible repeat' (first | exact id | exact hpost _ _ | refine mn_wpX3_bounded (fun _ _ => ?_) | refine And.imp ?_ ?_ | refine forall_imp fun _ => ?_ | refine Exists.imp fun _ => ?_)
theorem mn_wpX5_sameEnding {a1 : Int32} {a2 : Int32} {σ : St} {post post' : Int32 → St → Prop} (hpost : ∀ x0 x1, post x0 x1 → post' x0 x1) : wpX5_sameEnding a1 a2 σ post → wpX5_sameEnding a1 a2 σ post' := by
  unfold wpX5_sameEnding
  with_reducible repeat' (first | exact id | exact hpost _ _ | refine And.imp ?_ ?_ | refine forall_imp fun _ => ?_ | refine Exists.imp fun _ => ?_)
theorem mn_wbX3_heardOfEnding_4 {post post' : Int32 → St → Prop} (hpost : ∀ x0 x1, post x0 x1 → post' x0 x1) : ∀ (n : Nat) (y0 : Int32) (y1 : Int32) (y2 : Int32) (y3 : St), wbX3_heardOfEnding_4 post n y0 y1 y2 y3 → wbX3_heardOfEnding_4 post' n y0 y1 y2 y3 := by
  intro n
  induction n with
  | zero => intro _ _ _ _ ; exact id
  | succ n ih =>
    intro _ _ _ _ 
    unfold wbX3_heardOfEnding_4
    with_reducible repeat' (first | exact id | exact ih _ _ _ _ | exact hpost _ _ | refine mn_wpX5_sameEnding (fun _ _ => ?_) | refine mn_wpX0_between (fun _ _ => ?_) | refine And.imp ?_ ?_ | refine forall_imp fun _ => ?_ | refine Exists.imp fun _ => ?_)
theorem mn_wpX3_heardOfEnding {a1 : Int32} {σ : St} {post post' : Int32 → St → Prop} (hpost : ∀ x0 x1, post x0 x1 → post' x0 x1) : wpX3_heardOfEnding a1 σ post → wpX3_heardOfEnding a1 σ post' := by
  unfold wpX3_heardOfEnding
  with_reducible repeat' (first | exact id | exact hpost _ _ | refine mn_wbX3_heardOfEnding_4 (fun _ _ => ?_) _ _ _ _ _ | refine And.imp ?_ ?_ | refine forall_imp fun _ => ?_ | refine Exists.imp fun _ => ?_)
theorem mn_wbX4_filmOf_6 {post post' : Int32 → St → Prop} (hpost : ∀ x0 x1, post x0 x1 → post' x0 x1) : ∀ (n : Nat) (y0 : Int32) (y1 : Int32) (y2 : Int32) (y3 : Int32) (y4 : Int32) (y5 : St), wbX4_filmOf_6 post n y0 y1 y2 y3 y4 y5 → wbX4_filmOf_6 post' n y0 y1 y2 y3 y4 y5 := by
  intro n
  induction n with
  | zero => intro _ _ _ _ _ _ ; exact id
  | succ n ih =>
    intro _ _ _ _ _ _ 
    unfold wbX4_filmOf_6
    with_reducible repeat' (first | exact id | exact ih _ _ _ _ _ _ | exact hpost _ _ | refine And.imp ?_ ?_ | refine forall_imp fun _ => ?_ | refine Exists.imp fun _ => ?_)
theorem mn_wpX4_filmOf {a1 : Int32} {a2 : Int32} {a3 : Int32} {σ : St} {post post' : Int32 → St → Prop} (hpost : ∀ x0 x1, post x0 x1 → post' x0 x1) : wpX4_filmOf a1 a2 a3 σ post → wpX4_filmOf a1 a2 a3 σ post' := by
  unfold wpX4_filmOf
  with_reducible repeat' (first | exact id | exact hpost _ _ | refine mn_wbX4_filmOf_6 (fun _ _ => ?_) _ _ _ _ _ _ _ | refine And.imp ?_ ?_ | refine forall_imp fun _ => ?_ | refine Exists.imp fun _ => ?_)
theorem mn_wpX3_heard {a1 : Int32} {a2 : Int32} {σ : St} {post post' : Int32 → St → Prop} (hpost : ∀ x0 x1, post x0 x1 → post' x0 x1) : wpX3_heard a1 a2 σ post → wpX3_heard a1 a2 σ post' := by
  unfold wpX3_heard
  with_reducible repeat' (first | exact id | exact hpost _ _ | refine mn_wpX0_between (fun _ _ => ?_) | refine mn_wpX0_since (fun _ _ => ?_) | refine mn_wpX3_heardOfEnding (fun _ _ => ?_) | refine mn_wpX4_filmOf (fun _ _ => ?_) | refine And.imp ?_ ?_ | refine forall_imp fun _ => ?_ | refine Exists.imp fun _ => ?_)
theorem mn_wpX3_fits {a1 : Int32} {σ : St} {post post' : Int32 → St → Prop} (hpost : ∀ x0 x1, post x0 x1 → post' x0 x1) : wpX3_fits a1 σ post → wpX3_fits a1 σ post' := by
  unfold wpX3_fits
  with_reducible repeat' (first | exact id | exact hpost _ _ | refine And.imp ?_ ?_ | refine forall_imp fun _ => ?_ | refine Exists.imp fun _ => ?_)
theorem mn_wbX3_weigh_211 {K10 K10' : Int32 → Int32 → Int32 → Int32 → Int32 → St → Prop} (hK10 : ∀ x0 x1 x2 x3 x4 x5, K10 x0 x1 x2 x3 x4 x5 → K10' x0 x1 x2 x3 x4 x5) {post post' : St → Prop} (hpost : ∀ x0, post x0 → post' x0) {v1 : Int32} {v2 : Int32} {v3 : Int32} {v4 : Int32} {v5 : Int32} {v6 : Int32} {σ : St} : wbX3_weigh_211 K10 post v1 v2 v3 v4 v5 v6 σ → wbX3_weigh_211 K10' post' v1 v2 v3 v4 v5 v6 σ := by
  unfold wbX3_weigh_211
  with_reducible repeat' (first | exact id | exact hK10 _ _ _ _ _ _ | exact hpost _ | refine mn_wpX3_join (fun _ _ => ?_) | refine And.imp ?_ ?_ | refine forall_imp fun _ => ?_ | refine Exists.imp fun _ => ?_)
theorem mn_wbX3_weigh_172 {K10 K10' : Int32 → Int32 → Int32 → Int32 → Int32 → St → Prop} (hK10 : ∀ x0 x1 x2 x3 x4 x5, K10 x0 x1 x2 x3 x4 x5 → K10' x0 x1 x2 x3 x4 x5) {post post' : St → Prop} (hpost : ∀ x0, post x0 → post' x0) {v1 : Int32} {v2 : Int32} {v3 : Int32} {v4 : Int32} {v5 : Int32} {v6 : Int32} {σ : St} : wbX3_weigh_172 K10 post v1 v2 v3 v4 v5 v6 σ → wbX3_weigh_172 K10' post' v1 v2 v3 v4 v5 v6 σ := by
  unfold wbX3_weigh_172
  with_reducible repeat' (first | exact id | exact hK10 _ _ _ _ _ _ | exact hpost _ | refine mn_wbX3_weigh_211 (fun _ _ _ _ _ _ => ?_) (fun _ => ?_) | refine And.imp ?_ ?_ | refine forall_imp fun _ => ?_ | refine Exists.imp fun _ => ?_)
theorem mn_wbX3_weigh_48 {K10 K10' : Int32 → Int32 → Int32 → Int32 → Int32 → St → Prop} (hK10 : ∀ x0 x1 x2 x3 x4 x5, K10 x0 x1 x2 x3 x4 x5 → K10' x0 x1 x2 x3 x4 x5) {post post' : St → Prop} (hpost : ∀ x0, post x0 → post' x0) {v1 : Int32} {v2 : Int32} {v3 : Int32} {v4 : Int32} {v5 : Int32} {v6 : Int32} {σ : St} : wbX3_weigh_48 K10 post v1 v2 v3 v4 v5 v6 σ → wbX3_weigh_48 K10' post' v1 v2 v3 v4 v5 v6 σ := by
  unfold wbX3_weigh_48
  with_reducible repeat' (first | exact id | exact hK10 _ _ _ _ _ _ | exact hpost _ | refine mn_wpX3_heard (fun _ _ => ?_) | refine And.imp ?_ ?_ | refine forall_imp fun _ => ?_ | refine Exists.imp fun _ => ?_)
theorem mn_wbX3_weigh_107 {K10 K10' : Int32 → Int32 → Int32 → Int32 → Int32 → St → Prop} (hK10 : ∀ x0 x1 x2 x3 x4 x5, K10 x0 x1 x2 x3 x4 x5 → K10' x0 x1 x2 x3 x4 x5) {post post' : St → Prop} (hpost : ∀ x0, post x0 → post' x0) {v1 : Int32} {v2 : Int32} {v3 : Int32} {v4 : Int32} {v5 : Int32} {v6 : Int32} {σ : St} : wbX3_weigh_107 K10 post v1 v2 v3 v4 v5 v6 σ → wbX3_weigh_107 K10' post' v1 v2 v3 v4 v5 v6 σ := by
  unfold wbX3_weigh_107
  with_reducible repeat' (first | exact id | exact hK10 _ _ _ _ _ _ | exact hpost _ | refine And.imp ?_ ?_ | refine forall_imp fun _ => ?_ | refine Exists.imp fun _ => ?_)
theorem mn_wbX3_weigh_147 {K10 K10' : Int32 → Int32 → Int32 → Int32 → Int32 → St → Prop} (hK10 : ∀ x0 x1 x2 x3 x4 x5, K10 x0 x1 x2 x3 x4 x5 → K10' x0 x1 x2 x3 x4 x5) {post post' : St → Prop} (hpost : ∀ x0, post x0 → post' x0) {v1 : Int32} {v2 : Int32} {v3 : Int32} {v4 : Int32} {v5 : Int32} {v6 : Int32} {σ : St} : wbX3_weigh_147 K10 post v1 v2 v3 v4 v5 v6 σ → wbX3_weigh_147 K10' post' v1 v2 v3 v4 v5 v6 σ := by
  unfold wbX3_weigh_147
  with_reducible repeat' (first | exact id | exact hK10 _ _ _ _ _ _ | exact hpost _ | refine mn_wbX3_weigh_172 (fun _ _ _ _ _ _ => ?_) (fun _ => ?_) | refine And.imp ?_ ?_ | refine forall_imp fun _ => ?_ | refine Exists.imp fun _ => ?_)
theorem mn_wbX3_weigh_10 {post post' : St → Prop} (hpost : ∀ x0, post x0 → post' x0) : ∀ (n : Nat) (y0 : Int32) (y1 : Int32) (y2 : Int32) (y3 : Int32) (y4 : Int32) (y5 : St), wbX3_weigh_10 post n y0 y1 y2 y3 y4 y5 → wbX3_weigh_10 post' n y0 y1 y2 y3 y4 y5 := by
  intro n
  induction n with
  | zero => intro _ _ _ _ _ _ ; exact id
  | succ n ih =>
    intro _ _ _ _ _ _ 
    unfold wbX3_weigh_10
    with_reducible repeat' (first | exact id | exact ih _ _ _ _ _ _ | exact hpost _ | refine mn_wpX3_fits (fun _ _ => ?_) | refine mn_wbX3_weigh_48 (fun _ _ _ _ _ _ => ?_) (fun _ => ?_) | refine mn_wbX3_weigh_147 (fun _ _ _ _ _ _ => ?_) (fun _ => ?_) | refine mn_wbX3_weigh_107 (fun _ _ _ _ _ _ => ?_) (fun _ => ?_) | refine And.imp ?_ ?_ | refine forall_imp fun _ => ?_ | refine Exists.imp fun _ => ?_)
theorem mn_wpX3_weigh {a1 : Int32} {σ : St} {post post' : St → Prop} (hpost : ∀ x0, post x0 → post' x0) : wpX3_weigh a1 σ post → wpX3_weigh a1 σ post' := by
  unfold wpX3_weigh
  with_reducible repeat' (first | exact id | exact hpost _ | refine mn_wbX3_weigh_10 (fun _ => ?_) _ _ _ _ _ _ _ | refine And.imp ?_ ?_ | refine forall_imp fun _ => ?_ | refine Exists.imp fun _ => ?_)
theorem mn_wbX1_fill_50 {post post' : Int32 → St → Prop} (hpost : ∀ x0 x1, post x0 x1 → post' x0 x1) : ∀ (n : Nat) (y0 : Int32) (y1 : Int32) (y2 : St), wbX1_fill_50 post n y0 y1 y2 → wbX1_fill_50 post' n y0 y1 y2 := by
  intro n
  induction n with
  | zero => intro _ _ _ ; exact id
  | succ n ih =>
    intro _ _ _ 
    unfold wbX1_fill_50
    with_reducible repeat' (first | exact id | exact ih _ _ _ | exact hpost _ _ | refine mn_wpX3_pick (fun _ _ => ?_) | refine mn_wpX3_give (fun _ => ?_) | refine mn_wpX3_weigh (fun _ => ?_) | refine And.imp ?_ ?_ | refine forall_imp fun _ => ?_ | refine Exists.imp fun _ => ?_)
theorem mn_wbX1_fill_2 {post post' : Int32 → St → Prop} (hpost : ∀ x0 x1, post x0 x1 → post' x0 x1) : ∀ (n : Nat) (y0 : Int32) (y1 : Int32) (y2 : St), wbX1_fill_2 post n y0 y1 y2 → wbX1_fill_2 post' n y0 y1 y2 := by
  intro n
  induction n with
  | zero => intro _ _ _ ; exact id
  | succ n ih =>
    intro _ _ _ 
    unfold wbX1_fill_2
    with_reducible repeat' (first | exact id | exact ih _ _ _ | exact hpost _ _ | refine mn_wbX1_fill_50 (fun _ _ => ?_) _ _ _ _ | refine mn_wpX3_fits (fun _ _ => ?_) | refine mn_wpX3_weigh (fun _ => ?_) | refine And.imp ?_ ?_ | refine forall_imp fun _ => ?_ | refine Exists.imp fun _ => ?_)
theorem mn_wpX1_fill {a1 : Int32} {σ : St} {post post' : Int32 → St → Prop} (hpost : ∀ x0 x1, post x0 x1 → post' x0 x1) : wpX1_fill a1 σ post → wpX1_fill a1 σ post' := by
  unfold wpX1_fill
  with_reducible repeat' (first | exact id | exact hpost _ _ | refine mn_wbX1_fill_2 (fun _ _ => ?_) _ _ _ _ | refine And.imp ?_ ?_ | refine forall_imp fun _ => ?_ | refine Exists.imp fun _ => ?_)
theorem mn_wpX4_wentBy {a1 : Int32} {σ : St} {post post' : Int32 → St → Prop} (hpost : ∀ x0 x1, post x0 x1 → post' x0 x1) : wpX4_wentBy a1 σ post → wpX4_wentBy a1 σ post' := by
  unfold wpX4_wentBy
  with_reducible repeat' (first | exact id | exact hpost _ _ | refine And.imp ?_ ?_ | refine forall_imp fun _ => ?_ | refine Exists.imp fun _ => ?_)
theorem mn_wpX4_cradlesIn {a1 : Int32} {a2 : Int32} {σ : St} {post post' : Int32 → St → Prop} (hpost : ∀ x0 x1, post x0 x1 → post' x0 x1) : wpX4_cradlesIn a1 a2 σ post → wpX4_cradlesIn a1 a2 σ post' := by
  unfold wpX4_cradlesIn
  with_reducible repeat' (first | exact id | exact hpost _ _ | refine mn_wpX4_wentBy (fun _ _ => ?_) | refine And.imp ?_ ?_ | refine forall_imp fun _ => ?_ | refine Exists.imp fun _ => ?_)
theorem mn_wpX4_standingOf {a1 : Int32} {σ : St} {post post' : Int32 → St → Prop} (hpost : ∀ x0 x1, post x0 x1 → post' x0 x1) : wpX4_standingOf a1 σ post → wpX4_standingOf a1 σ post' := by
  unfold wpX4_standingOf
  with_reducible repeat' (first | exact id | exact hpost _ _ | refine And.imp ?_ ?_ | refine forall_imp fun _ => ?_ | refine Exists.imp fun _ => ?_)
theorem mn_wpX4_heldIn {a1 : Int32} {a2 : Int32} {σ : St} {post post' : Int32 → St → Prop} (hpost : ∀ x0 x1, post x0 x1 → post' x0 x1) : wpX4_heldIn a1 a2 σ post → wpX4_heldIn a1 a2 σ post' := by
  unfold wpX4_heldIn
  with_reducible repeat' (first | exact id | exact hpost _ _ | refine mn_wpX4_wentBy (fun _ _ => ?_) | refine And.imp ?_ ?_ | refine forall_imp fun _ => ?_ | refine Exists.imp fun _ => ?_)
theorem mn_wbX1_pass_56 {k1 : Nat} {K11 K11' : Int32 → Int32 → Int32 → Int32 → St → Prop} (hK11 : ∀ x0 x1 x2 x3 x4, K11 x0 x1 x2 x3 x4 → K11' x0 x1 x2 x3 x4) {post post' : Int32 → St → Prop} (hpost : ∀ x0 x1, post x0 x1 → post' x0 x1) {v2 : Int32} {v3 : Int32} {v4 : Int32} {v5 : Int32} {v6 : Int32} {v7 : Int32} {s0 : Int32} {σ : St} : wbX1_pass_56 k1 K11 post v2 v3 v4 v5 v6 v7 s0 σ → wbX1_pass_56 k1 K11' post' v2 v3 v4 v5 v6 v7 s0 σ := by
  unfold wbX1_pass_56
  with_reducible repeat' (first | exact id | exact hK11 _ _ _ _ _ | exact hpost _ _ | refine mn_wpX4_placeOf (fun _ _ => ?_) | refine mn_wpX4_sexOf (fun _ _ => ?_) | refine mn_wpX3_stand (fun _ => ?_) | refine mn_wpX1_fill (fun _ _ => ?_) | refine And.imp ?_ ?_ | refine forall_imp fun _ => ?_ | refine Exists.imp fun _ => ?_)
theorem mn_wbX1_pass_11 {k1 : Nat} {post post' : Int32 → St → Prop} (hpost : ∀ x0 x1, post x0 x1 → post' x0 x1) : ∀ (n : Nat) (y0 : Int32) (y1 : Int32) (y2 : Int32) (y3 : Int32) (y4 : St), wbX1_pass_11 k1 post n y0 y1 y2 y3 y4 → wbX1_pass_11 k1 post' n y0 y1 y2 y3 y4 := by
  intro n
  induction n with
  | zero => intro _ _ _ _ _ ; exact id
  | succ n ih =>
    intro _ _ _ _ _ 
    unfold wbX1_pass_11
    with_reducible repeat' (first | exact id | exact ih _ _ _ _ _ | exact hpost _ _ | refine mn_wpX4_cradlesIn (fun _ _ => ?_) | refine mn_wpX4_standingOf (fun _ _ => ?_) | refine mn_wbX1_pass_56 (fun _ _ _ _ _ => ?_) (fun _ _ => ?_) | refine mn_wpX4_heldIn (fun _ _ => ?_) | refine And.imp ?_ ?_ | refine forall_imp fun _ => ?_ | refine Exists.imp fun _ => ?_)
theorem mn_wpX1_pass {k1 : Nat} {a2 : Int32} {a3 : Int32} {σ : St} {post post' : Int32 → St → Prop} (hpost : ∀ x0 x1, post x0 x1 → post' x0 x1) : wpX1_pass k1 a2 a3 σ post → wpX1_pass k1 a2 a3 σ post' := by
  unfold wpX1_pass
  with_reducible repeat' (first | exact id | exact hpost _ _ | refine mn_wpX0_open (fun _ => ?_) | refine mn_wbX1_pass_11 (fun _ _ => ?_) _ _ _ _ _ _ | refine And.imp ?_ ?_ | refine forall_imp fun _ => ?_ | refine Exists.imp fun _ => ?_)
theorem mn_wpX2_keep {k2 : Nat} {σ : St} {post post' : St → Prop} (hpost : ∀ x0, post x0 → post' x0) : wpX2_keep k2 σ post → wpX2_keep k2 σ post' := by
  unfold wpX2_keep
  with_reducible repeat' (first | exact id | exact hpost _ | refine And.imp ?_ ?_ | refine forall_imp fun _ => ?_ | refine Exists.imp fun _ => ?_)
theorem mn_wpX2_restore {k2 : Nat} {σ : St} {post post' : St → Prop} (hpost : ∀ x0, post x0 → post' x0) : wpX2_restore k2 σ post → wpX2_restore k2 σ post' := by
  unfold wpX2_restore
  with_reducible repeat' (first | exact id | exact hpost _ | refine mn_wpX0_reopen (fun _ => ?_) | refine And.imp ?_ ?_ | refine forall_imp fun _ => ?_ | refine Exists.imp fun _ => ?_)
theorem mn_wpX4_toldCell {a1 : Int32} {a2 : Int32} {a3 : Int32} {σ : St} {post post' : Int32 → St → Prop} (hpost : ∀ x0 x1, post x0 x1 → post' x0 x1) : wpX4_toldCell a1 a2 a3 σ post → wpX4_toldCell a1 a2 a3 σ post' := by
  unfold wpX4_toldCell
  with_reducible repeat' (first | exact id | exact hpost _ _ | refine And.imp ?_ ?_ | refine forall_imp fun _ => ?_ | refine Exists.imp fun _ => ?_)
theorem mn_wpX4_addList {a1 : Int32} {a2 : Int32} {σ : St} {post post' : Int32 → St → Prop} (hpost : ∀ x0 x1, post x0 x1 → post' x0 x1) : wpX4_addList a1 a2 σ post → wpX4_addList a1 a2 σ post' := by
  unfold wpX4_addList
  with_reducible repeat' (first | exact id | exact hpost _ _ | refine And.imp ?_ ?_ | refine forall_imp fun _ => ?_ | refine Exists.imp fun _ => ?_)
theorem mn_wpX4_addFilm {a1 : Int32} {a2 : Int32} {a3 : Int32} {σ : St} {post post' : Int32 → St → Prop} (hpost : ∀ x0 x1, post x0 x1 → post' x0 x1) : wpX4_addFilm a1 a2 a3 σ post → wpX4_addFilm a1 a2 a3 σ post' := by
  unfold wpX4_addFilm
  with_reducible repeat' (first | exact id | exact hpost _ _ | refine And.imp ?_ ?_ | refine forall_imp fun _ => ?_ | refine Exists.imp fun _ => ?_)
theorem mn_wpX4_closeYear {a1 : Int32} {σ : St} {post post' : St → Prop} (hpost : ∀ x0, post x0 → post' x0) : wpX4_closeYear a1 σ post → wpX4_closeYear a1 σ post' := by
  unfold wpX4_closeYear
  with_reducible repeat' (first | exact id | exact hpost _ | refine And.imp ?_ ?_ | refine forall_imp fun _ => ?_ | refine Exists.imp fun _ => ?_)
theorem mn_wbX5_lengthOf_59 {post post' : Int32 → St → Prop} (hpost : ∀ x0 x1, post x0 x1 → post' x0 x1) {v2 : Int64} {v4 : Int32} {σ : St} : wbX5_lengthOf_59 post v2 v4 σ → wbX5_lengthOf_59 post' v2 v4 σ := by
  unfold wbX5_lengthOf_59
  with_reducible repeat' (first | exact id | exact hpost _ _ | refine And.imp ?_ ?_ | refine forall_imp fun _ => ?_ | refine Exists.imp fun _ => ?_)
theorem mn_wbX5_lengthOf_8 {post post' : Int32 → St → Prop} (hpost : ∀ x0 x1, post x0 x1 → post' x0 x1) : ∀ (n : Nat) (y0 : Int64) (y1 : Int32) (y2 : Int32) (y3 : St), wbX5_lengthOf_8 post n y0 y1 y2 y3 → wbX5_lengthOf_8 post' n y0 y1 y2 y3 := by
  intro n
  induction n with
  | zero => intro _ _ _ _ ; exact id
  | succ n ih =>
    intro _ _ _ _ 
    unfold wbX5_lengthOf_8
    with_reducible repeat' (first | exact id | exact ih _ _ _ _ | exact hpost _ _ | refine mn_wbX5_lengthOf_59 (fun _ _ => ?_) | refine And.imp ?_ ?_ | refine forall_imp fun _ => ?_ | refine Exists.imp fun _ => ?_)
theorem mn_wpX5_lengthOf {a1 : Int64} {σ : St} {post post' : Int32 → St → Prop} (hpost : ∀ x0 x1, post x0 x1 → post' x0 x1) : wpX5_lengthOf a1 σ post → wpX5_lengthOf a1 σ post' := by
  unfold wpX5_lengthOf
  with_reducible repeat' (first | exact id | exact hpost _ _ | refine mn_wbX5_lengthOf_8 (fun _ _ => ?_) _ _ _ _ _ | refine And.imp ?_ ?_ | refine forall_imp fun _ => ?_ | refine Exists.imp fun _ => ?_)
theorem mn_wpX5_has {a1 : Int32} {σ : St} {post post' : Int32 → St → Prop} (hpost : ∀ x0 x1, post x0 x1 → post' x0 x1) : wpX5_has a1 σ post → wpX5_has a1 σ post' := by
  unfold wpX5_has
  with_reducible repeat' (first | exact id | exact hpost _ _ | refine And.imp ?_ ?_ | refine forall_imp fun _ => ?_ | refine Exists.imp fun _ => ?_)
theorem mn_wbX5_knows_2 {post post' : Int32 → St → Prop} (hpost : ∀ x0 x1, post x0 x1 → post' x0 x1) : ∀ (n : Nat) (y0 : Int64) (y1 : Int32) (y2 : St), wbX5_knows_2 post n y0 y1 y2 → wbX5_knows_2 post' n y0 y1 y2 := by
  intro n
  induction n with
  | zero => intro _ _ _ ; exact id
  | succ n ih =>
    intro _ _ _ 
    unfold wbX5_knows_2
    with_reducible repeat' (first | exact id | exact ih _ _ _ | exact hpost _ _ | refine And.imp ?_ ?_ | refine forall_imp fun _ => ?_ | refine Exists.imp fun _ => ?_)
theorem mn_wpX5_knows {a1 : Int64} {σ : St} {post post' : Int32 → St → Prop} (hpost : ∀ x0 x1, post x0 x1 → post' x0 x1) : wpX5_knows a1 σ post → wpX5_knows a1 σ post' := by
  unfold wpX5_knows
  with_reducible repeat' (first | exact id | exact hpost _ _ | refine mn_wbX5_knows_2 (fun _ _ => ?_) _ _ _ _ | refine And.imp ?_ ?_ | refine forall_imp fun _ => ?_ | refine Exists.imp fun _ => ?_)
theorem mn_wpX5_letterAt {a1 : Int64} {a2 : Int32} {σ : St} {post post' : Int32 → St → Prop} (hpost : ∀ x0 x1, post x0 x1 → post' x0 x1) : wpX5_letterAt a1 a2 σ post → wpX5_letterAt a1 a2 σ post' := by
  unfold wpX5_letterAt
  with_reducible repeat' (first | exact id | exact hpost _ _ | refine And.imp ?_ ?_ | refine forall_imp fun _ => ?_ | refine Exists.imp fun _ => ?_)
theorem mn_wpJ0_isLatin1_aae02 {j0 : Nat} {σ : St} {post post' : Int32 → St → Prop} (hpost : ∀ x0 x1, post x0 x1 → post' x0 x1) : wpJ0_isLatin1_aae02 j0 σ post → wpJ0_isLatin1_aae02 j0 σ post' := by
  unfold wpJ0_isLatin1_aae02
  with_reducible repeat' (first | exact id | exact hpost _ _ | refine And.imp ?_ ?_ | refine forall_imp fun _ => ?_ | refine Exists.imp fun _ => ?_)
theorem mn_wpJ0_coder_7d493 {j0 : Nat} {σ : St} {post post' : Int32 → St → Prop} (hpost : ∀ x0 x1, post x0 x1 → post' x0 x1) : wpJ0_coder_7d493 j0 σ post → wpJ0_coder_7d493 j0 σ post' := by
  unfold wpJ0_coder_7d493
  with_reducible repeat' (first | exact id | exact hpost _ _ | refine And.imp ?_ ?_ | refine forall_imp fun _ => ?_ | refine Exists.imp fun _ => ?_)
theorem mn_wpJ0_length_8abf5 {j0 : Nat} {σ : St} {post post' : Int32 → St → Prop} (hpost : ∀ x0 x1, post x0 x1 → post' x0 x1) : wpJ0_length_8abf5 j0 σ post → wpJ0_length_8abf5 j0 σ post' := by
  unfold wpJ0_length_8abf5
  with_reducible repeat' (first | exact id | exact hpost _ _ | refine mn_wpJ0_coder_7d493 (fun _ _ => ?_) | refine And.imp ?_ ?_ | refine forall_imp fun _ => ?_ | refine Exists.imp fun _ => ?_)
theorem mn_wpJ1_canEncode_9a6ad {a1 : Int32} {σ : St} {post post' : Int32 → St → Prop} (hpost : ∀ x0 x1, post x0 x1 → post' x0 x1) : wpJ1_canEncode_9a6ad a1 σ post → wpJ1_canEncode_9a6ad a1 σ post' := by
  unfold wpJ1_canEncode_9a6ad
  with_reducible repeat' (first | exact id | exact hpost _ _ | refine And.imp ?_ ?_ | refine forall_imp fun _ => ?_ | refine Exists.imp fun _ => ?_)
theorem mn_wbJ1_indexOfChar_4cfef_7 {j1 : Nat} {post post' : Int32 → St → Prop} (hpost : ∀ x0 x1, post x0 x1 → post' x0 x1) : ∀ (n : Nat) (y0 : Int32) (y1 : Int32) (y2 : Int32) (y3 : St), wbJ1_indexOfChar_4cfef_7 j1 post n y0 y1 y2 y3 → wbJ1_indexOfChar_4cfef_7 j1 post' n y0 y1 y2 y3 := by
  intro n
  induction n with
  | zero => intro _ _ _ _ ; exact id
  | succ n ih =>
    intro _ _ _ _ 
    unfold wbJ1_indexOfChar_4cfef_7
    with_reducible repeat' (first | exact id | exact ih _ _ _ _ | exact hpost _ _ | refine And.imp ?_ ?_ | refine forall_imp fun _ => ?_ | refine Exists.imp fun _ => ?_)
theorem mn_wpJ1_indexOfChar_4cfef {j1 : Nat} {a2 : Int32} {a3 : Int32} {a4 : Int32} {σ : St} {post post' : Int32 → St → Prop} (hpost : ∀ x0 x1, post x0 x1 → post' x0 x1) : wpJ1_indexOfChar_4cfef j1 a2 a3 a4 σ post → wpJ1_indexOfChar_4cfef j1 a2 a3 a4 σ post' := by
  unfold wpJ1_indexOfChar_4cfef
  with_reducible repeat' (first | exact id | exact hpost _ _ | refine mn_wbJ1_indexOfChar_4cfef_7 (fun _ _ => ?_) _ _ _ _ _ | refine And.imp ?_ ?_ | refine forall_imp fun _ => ?_ | refine Exists.imp fun _ => ?_)
theorem mn_wpJ1_indexOf_4cfef {j1 : Nat} {a2 : Int32} {a3 : Int32} {a4 : Int32} {σ : St} {post post' : Int32 → St → Prop} (hpost : ∀ x0 x1, post x0 x1 → post' x0 x1) : wpJ1_indexOf_4cfef j1 a2 a3 a4 σ post → wpJ1_indexOf_4cfef j1 a2 a3 a4 σ post' := by
  unfold wpJ1_indexOf_4cfef
  with_reducible repeat' (first | exact id | exact hpost _ _ | refine mn_wpJ1_canEncode_9a6ad (fun _ _ => ?_) | refine mn_wpJ1_indexOfChar_4cfef (fun _ _ => ?_) | refine And.imp ?_ ?_ | refine forall_imp fun _ => ?_ | refine Exists.imp fun _ => ?_)
theorem mn_wpJ0_indexOf_7cf53 {j0 : Nat} {a1 : Int32} {a2 : Int32} {σ : St} {post post' : Int32 → St → Prop} (hpost : ∀ x0 x1, post x0 x1 → post' x0 x1) : wpJ0_indexOf_7cf53 j0 a1 a2 σ post → wpJ0_indexOf_7cf53 j0 a1 a2 σ post' := by
  unfold wpJ0_indexOf_7cf53
  with_reducible repeat' (first | exact id | exact hpost _ _ | refine mn_wpJ0_isLatin1_aae02 (fun _ _ => ?_) | refine mn_wpJ0_length_8abf5 (fun _ _ => ?_) | refine mn_wpJ1_indexOf_4cfef (fun _ _ => ?_) | refine And.imp ?_ ?_ | refine forall_imp fun _ => ?_ | refine Exists.imp fun _ => ?_)
theorem mn_wpJ0_indexOf_0f7a4 {j0 : Nat} {a1 : Int32} {σ : St} {post post' : Int32 → St → Prop} (hpost : ∀ x0 x1, post x0 x1 → post' x0 x1) : wpJ0_indexOf_0f7a4 j0 a1 σ post → wpJ0_indexOf_0f7a4 j0 a1 σ post' := by
  unfold wpJ0_indexOf_0f7a4
  with_reducible repeat' (first | exact id | exact hpost _ _ | refine mn_wpJ0_indexOf_7cf53 (fun _ _ => ?_) | refine And.imp ?_ ?_ | refine forall_imp fun _ => ?_ | refine Exists.imp fun _ => ?_)
theorem mn_wbX5_endingOf_4 {post post' : Int64 → St → Prop} (hpost : ∀ x0 x1, post x0 x1 → post' x0 x1) : ∀ (n : Nat) (y0 : Int64) (y1 : Int32) (y2 : St), wbX5_endingOf_4 post n y0 y1 y2 → wbX5_endingOf_4 post' n y0 y1 y2 := by
  intro n
  induction n with
  | zero => intro _ _ _ ; exact id
  | succ n ih =>
    intro _ _ _ 
    unfold wbX5_endingOf_4
    with_reducible repeat' (first | exact id | exact ih _ _ _ | exact hpost _ _ | refine mn_wpX5_letterAt (fun _ _ => ?_) | refine mn_wpJ0_indexOf_0f7a4 (fun _ _ => ?_) | refine And.imp ?_ ?_ | refine forall_imp fun _ => ?_ | refine Exists.imp fun _ => ?_)
theorem mn_wpX5_endingOf {a1 : Int64} {a2 : Int32} {σ : St} {post post' : Int64 → St → Prop} (hpost : ∀ x0 x1, post x0 x1 → post' x0 x1) : wpX5_endingOf a1 a2 σ post → wpX5_endingOf a1 a2 σ post' := by
  unfold wpX5_endingOf
  with_reducible repeat' (first | exact id | exact hpost _ _ | refine mn_wbX5_endingOf_4 (fun _ _ => ?_) _ _ _ _ | refine And.imp ?_ ?_ | refine forall_imp fun _ => ?_ | refine Exists.imp fun _ => ?_)
theorem mn_wpJ1_charAt_3b067 {j1 : Nat} {a2 : Int32} {σ : St} {post post' : Int32 → St → Prop} (hpost : ∀ x0 x1, post x0 x1 → post' x0 x1) : wpJ1_charAt_3b067 j1 a2 σ post → wpJ1_charAt_3b067 j1 a2 σ post' := by
  unfold wpJ1_charAt_3b067
  with_reducible repeat' (first | exact id | exact hpost _ _ | refine mn_wpJ0_checkIndex_df160 (fun _ => ?_) | refine And.imp ?_ ?_ | refine forall_imp fun _ => ?_ | refine Exists.imp fun _ => ?_)
theorem mn_wpJ0_charAt_5068e {j0 : Nat} {a1 : Int32} {σ : St} {post post' : Int32 → St → Prop} (hpost : ∀ x0 x1, post x0 x1 → post' x0 x1) : wpJ0_charAt_5068e j0 a1 σ post → wpJ0_charAt_5068e j0 a1 σ post' := by
  unfold wpJ0_charAt_5068e
  with_reducible repeat' (first | exact id | exact hpost _ _ | refine mn_wpJ0_isLatin1_aae02 (fun _ _ => ?_) | refine mn_wpJ1_charAt_3b067 (fun _ _ => ?_) | refine And.imp ?_ ?_ | refine forall_imp fun _ => ?_ | refine Exists.imp fun _ => ?_)
theorem mn_wbX5_hear_7 {post post' : St → Prop} (hpost : ∀ x0, post x0 → post' x0) : ∀ (n : Nat) (y0 : Int32) (y1 : Int32) (y2 : Int32) (y3 : Int32) (y4 : St), wbX5_hear_7 post n y0 y1 y2 y3 y4 → wbX5_hear_7 post' n y0 y1 y2 y3 y4 := by
  intro n
  induction n with
  | zero => intro _ _ _ _ _ ; exact id
  | succ n ih =>
    intro _ _ _ _ _ 
    unfold wbX5_hear_7
    with_reducible repeat' (first | exact id | exact ih _ _ _ _ _ | exact hpost _ | refine mn_wpX5_letterAt (fun _ _ => ?_) | refine mn_wpJ0_length_8abf5 (fun _ _ => ?_) | refine mn_wpJ0_charAt_5068e (fun _ _ => ?_) | refine And.imp ?_ ?_ | refine forall_imp fun _ => ?_ | refine Exists.imp fun _ => ?_)
theorem mn_wpX5_hear {a1 : Int32} {σ : St} {post post' : St → Prop} (hpost : ∀ x0, post x0 → post' x0) : wpX5_hear a1 σ post → wpX5_hear a1 σ post' := by
  unfold wpX5_hear
  with_reducible repeat' (first | exact id | exact hpost _ | refine mn_wbX5_hear_7 (fun _ => ?_) _ _ _ _ _ _ | refine And.imp ?_ ?_ | refine forall_imp fun _ => ?_ | refine Exists.imp fun _ => ?_)
theorem mn_wpX5_add {a1 : Int64} {a2 : Int32} {a3 : Int32} {a4 : Int32} {σ : St} {post post' : Int32 → St → Prop} (hpost : ∀ x0 x1, post x0 x1 → post' x0 x1) : wpX5_add a1 a2 a3 a4 σ post → wpX5_add a1 a2 a3 a4 σ post' := by
  unfold wpX5_add
  with_reducible repeat' (first | exact id | exact hpost _ _ | refine mn_wpX5_endingOf (fun _ _ => ?_) | refine mn_wpX5_hear (fun _ => ?_) | refine And.imp ?_ ?_ | refine forall_imp fun _ => ?_ | refine Exists.imp fun _ => ?_)
theorem mn_wbX5_lowestOfEnding_2 {post post' : Int32 → St → Prop} (hpost : ∀ x0 x1, post x0 x1 → post' x0 x1) : ∀ (n : Nat) (y0 : Int32) (y1 : Int32) (y2 : St), wbX5_lowestOfEnding_2 post n y0 y1 y2 → wbX5_lowestOfEnding_2 post' n y0 y1 y2 := by
  intro n
  induction n with
  | zero => intro _ _ _ ; exact id
  | succ n ih =>
    intro _ _ _ 
    unfold wbX5_lowestOfEnding_2
    with_reducible repeat' (first | exact id | exact ih _ _ _ | exact hpost _ _ | refine mn_wpX5_sameEnding (fun _ _ => ?_) | refine And.imp ?_ ?_ | refine forall_imp fun _ => ?_ | refine Exists.imp fun _ => ?_)
theorem mn_wpX5_lowestOfEnding {a1 : Int32} {σ : St} {post post' : Int32 → St → Prop} (hpost : ∀ x0 x1, post x0 x1 → post' x0 x1) : wpX5_lowestOfEnding a1 σ post → wpX5_lowestOfEnding a1 σ post' := by
  unfold wpX5_lowestOfEnding
  with_reducible repeat' (first | exact id | exact hpost _ _ | refine mn_wbX5_lowestOfEnding_2 (fun _ _ => ?_) _ _ _ _ | refine And.imp ?_ ?_ | refine forall_imp fun _ => ?_ | refine Exists.imp fun _ => ?_)
theorem mn_wbX5_akin_121 {post post' : Int32 → St → Prop} (hpost : ∀ x0 x1, post x0 x1 → post' x0 x1) {v3 : Int32} {v4 : Int32} {v6 : Int32} {v7 : Int32} {σ : St} : wbX5_akin_121 post v3 v4 v6 v7 σ → wbX5_akin_121 post' v3 v4 v6 v7 σ := by
  unfold wbX5_akin_121
  with_reducible repeat' (first | exact id | exact hpost _ _ | refine And.imp ?_ ?_ | refine forall_imp fun _ => ?_ | refine Exists.imp fun _ => ?_)
theorem mn_wbX5_akin_69 {post post' : Int32 → St → Prop} (hpost : ∀ x0 x1, post x0 x1 → post' x0 x1) : ∀ (n : Nat) (y0 : Int32) (y1 : Int32) (y2 : Int32) (y3 : Int32) (y4 : Int32) (y5 : Int32) (y6 : Int32) (y7 : St), wbX5_akin_69 post n y0 y1 y2 y3 y4 y5 y6 y7 → wbX5_akin_69 post' n y0 y1 y2 y3 y4 y5 y6 y7 := by
  intro n
  induction n with
  | zero => intro _ _ _ _ _ _ _ _ ; exact id
  | succ n ih =>
    intro _ _ _ _ _ _ _ _ 
    unfold wbX5_akin_69
    with_reducible repeat' (first | exact id | exact ih _ _ _ _ _ _ _ _ | exact hpost _ _ | refine mn_wbX5_akin_121 (fun _ _ => ?_) | refine And.imp ?_ ?_ | refine forall_imp fun _ => ?_ | refine Exists.imp fun _ => ?_)
theorem mn_wbX5_akin_26 {post post' : Int32 → St → Prop} (hpost : ∀ x0 x1, post x0 x1 → post' x0 x1) : ∀ (n : Nat) (y0 : Int32) (y1 : Int32) (y2 : Int32) (y3 : Int32) (y4 : Int32) (y5 : Int32) (y6 : St), wbX5_akin_26 post n y0 y1 y2 y3 y4 y5 y6 → wbX5_akin_26 post' n y0 y1 y2 y3 y4 y5 y6 := by
  intro n
  induction n with
  | zero => intro _ _ _ _ _ _ _ ; exact id
  | succ n ih =>
    intro _ _ _ _ _ _ _ 
    unfold wbX5_akin_26
    with_reducible repeat' (first | exact id | exact ih _ _ _ _ _ _ _ | exact hpost _ _ | refine mn_wbX5_akin_69 (fun _ _ => ?_) _ _ _ _ _ _ _ _ _ | refine And.imp ?_ ?_ | refine forall_imp fun _ => ?_ | refine Exists.imp fun _ => ?_)
theorem mn_wpX5_akin {a1 : Int32} {a2 : Int32} {σ : St} {post post' : Int32 → St → Prop} (hpost : ∀ x0 x1, post x0 x1 → post' x0 x1) : wpX5_akin a1 a2 σ post → wpX5_akin a1 a2 σ post' := by
  unfold wpX5_akin
  with_reducible repeat' (first | exact id | exact hpost _ _ | refine mn_wbX5_akin_26 (fun _ _ => ?_) _ _ _ _ _ _ _ _ | refine And.imp ?_ ?_ | refine forall_imp fun _ => ?_ | refine Exists.imp fun _ => ?_)
theorem mn_wpX6_setDraw {a1 : Int32} {a2 : Int32} {a3 : Int32} {σ : St} {post post' : St → Prop} (hpost : ∀ x0, post x0 → post' x0) : wpX6_setDraw a1 a2 a3 σ post → wpX6_setDraw a1 a2 a3 σ post' := by
  unfold wpX6_setDraw
  with_reducible repeat' (first | exact id | exact hpost _ | refine And.imp ?_ ?_ | refine forall_imp fun _ => ?_ | refine Exists.imp fun _ => ?_)
theorem mn_wbX6_times_5 {q1 : Nat} {n1 : Nat} {post post' : St → Prop} (hpost : ∀ x0, post x0 → post' x0) : ∀ (n : Nat) (y0 : Int32) (y1 : Int64) (y2 : Int32) (y3 : St), wbX6_times_5 q1 n1 post n y0 y1 y2 y3 → wbX6_times_5 q1 n1 post' n y0 y1 y2 y3 := by
  intro n
  induction n with
  | zero => intro _ _ _ _ ; exact id
  | succ n ih =>
    intro _ _ _ _ 
    unfold wbX6_times_5
    with_reducible repeat' (first | exact id | exact ih _ _ _ _ | exact hpost _ | refine And.imp ?_ ?_ | refine forall_imp fun _ => ?_ | refine Exists.imp fun _ => ?_)
theorem mn_wpX6_times {q1 : Nat} {n1 : Nat} {a2 : Int32} {σ : St} {post post' : St → Prop} (hpost : ∀ x0, post x0 → post' x0) : wpX6_times q1 n1 a2 σ post → wpX6_times q1 n1 a2 σ post' := by
  unfold wpX6_times
  with_reducible repeat' (first | exact id | exact hpost _ | refine mn_wbX6_times_5 (fun _ => ?_) _ _ _ _ _ | refine And.imp ?_ ?_ | refine forall_imp fun _ => ?_ | refine Exists.imp fun _ => ?_)
theorem mn_wbX6_over_11 {q1 : Nat} {n1 : Nat} {post post' : St → Prop} (hpost : ∀ x0, post x0 → post' x0) : ∀ (n : Nat) (y0 : Int32) (y1 : Int64) (y2 : Int32) (y3 : St), wbX6_over_11 q1 n1 post n y0 y1 y2 y3 → wbX6_over_11 q1 n1 post' n y0 y1 y2 y3 := by
  intro n
  induction n with
  | zero => intro _ _ _ _ ; exact id
  | succ n ih =>
    intro _ _ _ _ 
    unfold wbX6_over_11
    with_reducible repeat' (first | exact id | exact ih _ _ _ _ | exact hpost _ | refine And.imp ?_ ?_ | refine forall_imp fun _ => ?_ | refine Exists.imp fun _ => ?_)
theorem mn_wpX6_over {q1 : Nat} {n1 : Nat} {a2 : Int32} {σ : St} {post post' : St → Prop} (hpost : ∀ x0, post x0 → post' x0) : wpX6_over q1 n1 a2 σ post → wpX6_over q1 n1 a2 σ post' := by
  unfold wpX6_over
  with_reducible repeat' (first | exact id | exact hpost _ | refine mn_wbX6_over_11 (fun _ => ?_) _ _ _ _ _ | refine And.imp ?_ ?_ | refine forall_imp fun _ => ?_ | refine Exists.imp fun _ => ?_)
theorem mn_wbX6_addTerm_4 {post post' : St → Prop} (hpost : ∀ x0, post x0 → post' x0) : ∀ (n : Nat) (y0 : Int32) (y1 : Int32) (y2 : St), wbX6_addTerm_4 post n y0 y1 y2 → wbX6_addTerm_4 post' n y0 y1 y2 := by
  intro n
  induction n with
  | zero => intro _ _ _ ; exact id
  | succ n ih =>
    intro _ _ _ 
    unfold wbX6_addTerm_4
    with_reducible repeat' (first | exact id | exact ih _ _ _ | exact hpost _ | refine And.imp ?_ ?_ | refine forall_imp fun _ => ?_ | refine Exists.imp fun _ => ?_)
theorem mn_wpX6_addTerm {σ : St} {post post' : St → Prop} (hpost : ∀ x0, post x0 → post' x0) : wpX6_addTerm σ post → wpX6_addTerm σ post' := by
  unfold wpX6_addTerm
  with_reducible repeat' (first | exact id | exact hpost _ | refine mn_wbX6_addTerm_4 (fun _ => ?_) _ _ _ _ | refine And.imp ?_ ?_ | refine forall_imp fun _ => ?_ | refine Exists.imp fun _ => ?_)
theorem mn_wbJ7_fill_53178_5 {q1 : Nat} {n1 : Nat} {post post' : St → Prop} (hpost : ∀ x0, post x0 → post' x0) : ∀ (n : Nat) (y0 : Int32) (y1 : Int32) (y2 : Int32) (y3 : St), wbJ7_fill_53178_5 q1 n1 post n y0 y1 y2 y3 → wbJ7_fill_53178_5 q1 n1 post' n y0 y1 y2 y3 := by
  intro n
  induction n with
  | zero => intro _ _ _ _ ; exact id
  | succ n ih =>
    intro _ _ _ _ 
    unfold wbJ7_fill_53178_5
    with_reducible repeat' (first | exact id | exact ih _ _ _ _ | exact hpost _ | refine And.imp ?_ ?_ | refine forall_imp fun _ => ?_ | refine Exists.imp fun _ => ?_)
theorem mn_wpJ7_fill_53178 {q1 : Nat} {n1 : Nat} {a2 : Int32} {σ : St} {post post' : St → Prop} (hpost : ∀ x0, post x0 → post' x0) : wpJ7_fill_53178 q1 n1 a2 σ post → wpJ7_fill_53178 q1 n1 a2 σ post' := by
  unfold wpJ7_fill_53178
  with_reducible repeat' (first | exact id | exact hpost _ | refine mn_wbJ7_fill_53178_5 (fun _ => ?_) _ _ _ _ _ | refine And.imp ?_ ?_ | refine forall_imp fun _ => ?_ | refine Exists.imp fun _ => ?_)
theorem mn_wbX6_power_11 {q1 : Nat} {n1 : Nat} {post post' : St → Prop} (hpost : ∀ x0, post x0 → post' x0) : ∀ (n : Nat) (y0 : Int32) (y1 : Int32) (y2 : St), wbX6_power_11 q1 n1 post n y0 y1 y2 → wbX6_power_11 q1 n1 post' n y0 y1 y2 := by
  intro n
  induction n with
  | zero => intro _ _ _ ; exact id
  | succ n ih =>
    intro _ _ _ 
    unfold wbX6_power_11
    with_reducible repeat' (first | exact id | exact ih _ _ _ | exact hpost _ | refine mn_wpX6_times (fun _ => ?_) | refine And.imp ?_ ?_ | refine forall_imp fun _ => ?_ | refine Exists.imp fun _ => ?_)
theorem mn_wpX6_power {q1 : Nat} {n1 : Nat} {a2 : Int32} {σ : St} {post post' : St → Prop} (hpost : ∀ x0, post x0 → post' x0) : wpX6_power q1 n1 a2 σ post → wpX6_power q1 n1 a2 σ post' := by
  unfold wpX6_power
  with_reducible repeat' (first | exact id | exact hpost _ | refine mn_wpJ7_fill_53178 (fun _ => ?_) | refine mn_wbX6_power_11 (fun _ => ?_) _ _ _ _ | refine And.imp ?_ ?_ | refine forall_imp fun _ => ?_ | refine Exists.imp fun _ => ?_)
theorem mn_wbX6_sumIsAtMostWhole_3 {post post' : Int32 → St → Prop} (hpost : ∀ x0 x1, post x0 x1 → post' x0 x1) : ∀ (n : Nat) (y0 : Int32) (y1 : St), wbX6_sumIsAtMostWhole_3 post n y0 y1 → wbX6_sumIsAtMostWhole_3 post' n y0 y1 := by
  intro n
  induction n with
  | zero => intro _ _ ; exact id
  | succ n ih =>
    intro _ _ 
    unfold wbX6_sumIsAtMostWhole_3
    with_reducible repeat' (first | exact id | exact ih _ _ | exact hpost _ _ | refine And.imp ?_ ?_ | refine forall_imp fun _ => ?_ | refine Exists.imp fun _ => ?_)
theorem mn_wpX6_sumIsAtMostWhole {σ : St} {post post' : Int32 → St → Prop} (hpost : ∀ x0 x1, post x0 x1 → post' x0 x1) : wpX6_sumIsAtMostWhole σ post → wpX6_sumIsAtMostWhole σ post' := by
  unfold wpX6_sumIsAtMostWhole
  with_reducible repeat' (first | exact id | exact hpost _ _ | refine mn_wbX6_sumIsAtMostWhole_3 (fun _ _ => ?_) _ _ _ | refine And.imp ?_ ?_ | refine forall_imp fun _ => ?_ | refine Exists.imp fun _ => ?_)
theorem mn_wbX6_isRare_90 {K65 K65' : Int32 → Int32 → Int32 → Int32 → St → Prop} (hK65 : ∀ x0 x1 x2 x3 x4, K65 x0 x1 x2 x3 x4 → K65' x0 x1 x2 x3 x4) {post post' : Int32 → St → Prop} (hpost : ∀ x0 x1, post x0 x1 → post' x0 x1) {v1 : Int32} {v2 : Int32} {v3 : Int32} {v4 : Int32} {σ : St} : wbX6_isRare_90 K65 post v1 v2 v3 v4 σ → wbX6_isRare_90 K65' post' v1 v2 v3 v4 σ := by
  unfold wbX6_isRare_90
  with_reducible repeat' (first | exact id | exact hK65 _ _ _ _ _ | exact hpost _ _ | refine mn_wpX6_times (fun _ => ?_) | refine mn_wpX6_over (fun _ => ?_) | refine And.imp ?_ ?_ | refine forall_imp fun _ => ?_ | refine Exists.imp fun _ => ?_)
theorem mn_wbX6_isRare_65 {K131 K131' : Int32 → St → Prop} (hK131 : ∀ x0 x1, K131 x0 x1 → K131' x0 x1) {post post' : Int32 → St → Prop} (hpost : ∀ x0 x1, post x0 x1 → post' x0 x1) : ∀ (n : Nat) (y0 : Int32) (y1 : Int32) (y2 : Int32) (y3 : Int32) (y4 : St), wbX6_isRare_65 K131 post n y0 y1 y2 y3 y4 → wbX6_isRare_65 K131' post' n y0 y1 y2 y3 y4 := by
  intro n
  induction n with
  | zero => intro _ _ _ _ _ ; exact id
  | succ n ih =>
    intro _ _ _ _ _ 
    unfold wbX6_isRare_65
    with_reducible repeat' (first | exact id | exact ih _ _ _ _ _ | exact hK131 _ _ | exact hpost _ _ | refine mn_wbX6_isRare_90 (fun _ _ _ _ _ => ?_) (fun _ _ => ?_) | refine mn_wpX6_addTerm (fun _ => ?_) | refine And.imp ?_ ?_ | refine forall_imp fun _ => ?_ | refine Exists.imp fun _ => ?_)
theorem mn_wbX6_isRare_131 {post post' : Int32 → St → Prop} (hpost : ∀ x0 x1, post x0 x1 → post' x0 x1) {v3 : Int32} {σ : St} : wbX6_isRare_131 post v3 σ → wbX6_isRare_131 post' v3 σ := by
  unfold wbX6_isRare_131
  with_reducible repeat' (first | exact id | exact hpost _ _ | refine mn_wpX6_times (fun _ => ?_) | refine mn_wpX6_power (fun _ => ?_) | refine mn_wpX6_sumIsAtMostWhole (fun _ _ => ?_) | refine And.imp ?_ ?_ | refine forall_imp fun _ => ?_ | refine Exists.imp fun _ => ?_)
theorem mn_wpX6_isRare {a1 : Int32} {a2 : Int32} {a3 : Int32} {σ : St} {post post' : Int32 → St → Prop} (hpost : ∀ x0 x1, post x0 x1 → post' x0 x1) : wpX6_isRare a1 a2 a3 σ post → wpX6_isRare a1 a2 a3 σ post' := by
  unfold wpX6_isRare
  with_reducible repeat' (first | exact id | exact hpost _ _ | refine mn_wpJ7_fill_53178 (fun _ => ?_) | refine mn_wpX6_power (fun _ => ?_) | refine mn_wbX6_isRare_65 (fun _ _ => ?_) (fun _ _ => ?_) _ _ _ _ _ _ | refine mn_wbX6_isRare_131 (fun _ _ => ?_) | refine mn_wpX6_addTerm (fun _ => ?_) | refine And.imp ?_ ?_ | refine forall_imp fun _ => ?_ | refine Exists.imp fun _ => ?_)
theorem mn_wpX7_spot {a1 : Int32} {a2 : Int32} {a3 : Int32} {σ : St} {post post' : Int32 → St → Prop} (hpost : ∀ x0 x1, post x0 x1 → post' x0 x1) : wpX7_spot a1 a2 a3 σ post → wpX7_spot a1 a2 a3 σ post' := by
  unfold wpX7_spot
  with_reducible repeat' (first | exact id | exact hpost _ _ | refine And.imp ?_ ?_ | refine forall_imp fun _ => ?_ | refine Exists.imp fun _ => ?_)
theorem mn_wpX7_add {a1 : Int32} {a2 : Int32} {a3 : Int32} {a4 : Int32} {σ : St} {post post' : Int32 → St → Prop} (hpost : ∀ x0 x1, post x0 x1 → post' x0 x1) : wpX7_add a1 a2 a3 a4 σ post → wpX7_add a1 a2 a3 a4 σ post' := by
  unfold wpX7_add
  with_reducible repeat' (first | exact id | exact hpost _ _ | refine And.imp ?_ ?_ | refine forall_imp fun _ => ?_ | refine Exists.imp fun _ => ?_)
theorem mn_wpX7_forgetRuns {σ : St} {post post' : St → Prop} (hpost : ∀ x0, post x0 → post' x0) : wpX7_forgetRuns σ post → wpX7_forgetRuns σ post' := by
  unfold wpX7_forgetRuns
  with_reducible repeat' (first | exact id | exact hpost _ | refine And.imp ?_ ?_ | refine forall_imp fun _ => ?_ | refine Exists.imp fun _ => ?_)
theorem mn_wpX7_hasRun {a1 : Int32} {σ : St} {post post' : Int32 → St → Prop} (hpost : ∀ x0 x1, post x0 x1 → post' x0 x1) : wpX7_hasRun a1 σ post → wpX7_hasRun a1 σ post' := by
  unfold wpX7_hasRun
  with_reducible repeat' (first | exact id | exact hpost _ _ | refine And.imp ?_ ?_ | refine forall_imp fun _ => ?_ | refine Exists.imp fun _ => ?_)
theorem mn_wbX7_keepRun_11 {k2 : Nat} {K2 K2' : Int32 → Int32 → St → Prop} (hK2 : ∀ x0 x1 x2, K2 x0 x1 x2 → K2' x0 x1 x2) {post post' : St → Prop} (hpost : ∀ x0, post x0 → post' x0) : ∀ (n : Nat) (y0 : Int32) (y1 : Int32) (y2 : Int32) (y3 : St), wbX7_keepRun_11 k2 K2 post n y0 y1 y2 y3 → wbX7_keepRun_11 k2 K2' post' n y0 y1 y2 y3 := by
  intro n
  induction n with
  | zero => intro _ _ _ _ ; exact id
  | succ n ih =>
    intro _ _ _ _ 
    unfold wbX7_keepRun_11
    with_reducible repeat' (first | exact id | exact ih _ _ _ _ | exact hK2 _ _ _ | exact hpost _ | refine mn_wpX4_row (fun _ _ => ?_) | refine And.imp ?_ ?_ | refine forall_imp fun _ => ?_ | refine Exists.imp fun _ => ?_)
theorem mn_wbX7_keepRun_2 {k2 : Nat} {post post' : St → Prop} (hpost : ∀ x0, post x0 → post' x0) : ∀ (n : Nat) (y0 : Int32) (y1 : Int32) (y2 : St), wbX7_keepRun_2 k2 post n y0 y1 y2 → wbX7_keepRun_2 k2 post' n y0 y1 y2 := by
  intro n
  induction n with
  | zero => intro _ _ _ ; exact id
  | succ n ih =>
    intro _ _ _ 
    unfold wbX7_keepRun_2
    with_reducible repeat' (first | exact id | exact ih _ _ _ | exact hpost _ | refine mn_wbX7_keepRun_11 (fun _ _ _ => ?_) (fun _ => ?_) _ _ _ _ _ | refine And.imp ?_ ?_ | refine forall_imp fun _ => ?_ | refine Exists.imp fun _ => ?_)
theorem mn_wpX7_keepRun {k2 : Nat} {a1 : Int32} {σ : St} {post post' : St → Prop} (hpost : ∀ x0, post x0 → post' x0) : wpX7_keepRun k2 a1 σ post → wpX7_keepRun k2 a1 σ post' := by
  unfold wpX7_keepRun
  with_reducible repeat' (first | exact id | exact hpost _ | refine mn_wbX7_keepRun_2 (fun _ => ?_) _ _ _ _ | refine And.imp ?_ ?_ | refine forall_imp fun _ => ?_ | refine Exists.imp fun _ => ?_)
theorem mn_wpX7_brought {a1 : Int32} {a2 : Int32} {a3 : Int32} {σ : St} {post post' : Int32 → St → Prop} (hpost : ∀ x0 x1, post x0 x1 → post' x0 x1) : wpX7_brought a1 a2 a3 σ post → wpX7_brought a1 a2 a3 σ post' := by
  unfold wpX7_brought
  with_reducible repeat' (first | exact id | exact hpost _ _ | refine And.imp ?_ ?_ | refine forall_imp fun _ => ?_ | refine Exists.imp fun _ => ?_)
theorem mn_wbX7_agreeing_86 {K6 K6' : Int32 → Int32 → Int32 → Int32 → St → Prop} (hK6 : ∀ x0 x1 x2 x3 x4, K6 x0 x1 x2 x3 x4 → K6' x0 x1 x2 x3 x4) {post post' : Int32 → St → Prop} (hpost : ∀ x0 x1, post x0 x1 → post' x0 x1) {v2 : Int32} {v3 : Int32} {v4 : Int32} {v5 : Int32} {v6 : Int32} {σ : St} : wbX7_agreeing_86 K6 post v2 v3 v4 v5 v6 σ → wbX7_agreeing_86 K6' post' v2 v3 v4 v5 v6 σ := by
  unfold wbX7_agreeing_86
  with_reducible repeat' (first | exact id | exact hK6 _ _ _ _ _ | exact hpost _ _ | refine And.imp ?_ ?_ | refine forall_imp fun _ => ?_ | refine Exists.imp fun _ => ?_)
theorem mn_wbX7_agreeing_18 {K6 K6' : Int32 → Int32 → Int32 → Int32 → St → Prop} (hK6 : ∀ x0 x1 x2 x3 x4, K6 x0 x1 x2 x3 x4 → K6' x0 x1 x2 x3 x4) {post post' : Int32 → St → Prop} (hpost : ∀ x0 x1, post x0 x1 → post' x0 x1) : ∀ (n : Nat) (y0 : Int32) (y1 : Int32) (y2 : Int32) (y3 : Int32) (y4 : Int32) (y5 : Int32) (y6 : St), wbX7_agreeing_18 K6 post n y0 y1 y2 y3 y4 y5 y6 → wbX7_agreeing_18 K6' post' n y0 y1 y2 y3 y4 y5 y6 := by
  intro n
  induction n with
  | zero => intro _ _ _ _ _ _ _ ; exact id
  | succ n ih =>
    intro _ _ _ _ _ _ _ 
    unfold wbX7_agreeing_18
    with_reducible repeat' (first | exact id | exact ih _ _ _ _ _ _ _ | exact hK6 _ _ _ _ _ | exact hpost _ _ | refine mn_wbX7_agreeing_86 (fun _ _ _ _ _ => ?_) (fun _ _ => ?_) | refine mn_wpX7_brought (fun _ _ => ?_) | refine And.imp ?_ ?_ | refine forall_imp fun _ => ?_ | refine Exists.imp fun _ => ?_)
theorem mn_wbX7_agreeing_6 {post post' : Int32 → St → Prop} (hpost : ∀ x0 x1, post x0 x1 → post' x0 x1) : ∀ (n : Nat) (y0 : Int32) (y1 : Int32) (y2 : Int32) (y3 : Int32) (y4 : St), wbX7_agreeing_6 post n y0 y1 y2 y3 y4 → wbX7_agreeing_6 post' n y0 y1 y2 y3 y4 := by
  intro n
  induction n with
  | zero => intro _ _ _ _ _ ; exact id
  | succ n ih =>
    intro _ _ _ _ _ 
    unfold wbX7_agreeing_6
    with_reducible repeat' (first | exact id | exact ih _ _ _ _ _ | exact hpost _ _ | refine mn_wbX7_agreeing_18 (fun _ _ _ _ _ => ?_) (fun _ _ => ?_) _ _ _ _ _ _ _ _ | refine And.imp ?_ ?_ | refine forall_imp fun _ => ?_ | refine Exists.imp fun _ => ?_)
theorem mn_wpX7_agreeing {a1 : Int32} {a2 : Int32} {a3 : Int32} {σ : St} {post post' : Int32 → St → Prop} (hpost : ∀ x0 x1, post x0 x1 → post' x0 x1) : wpX7_agreeing a1 a2 a3 σ post → wpX7_agreeing a1 a2 a3 σ post' := by
  unfold wpX7_agreeing
  with_reducible repeat' (first | exact id | exact hpost _ _ | refine mn_wbX7_agreeing_6 (fun _ _ => ?_) _ _ _ _ _ _ | refine And.imp ?_ ?_ | refine forall_imp fun _ => ?_ | refine Exists.imp fun _ => ?_)
theorem mn_wbX7_bound_6 {post post' : Int32 → St → Prop} (hpost : ∀ x0 x1, post x0 x1 → post' x0 x1) : ∀ (n : Nat) (y0 : Int32) (y1 : Int32) (y2 : Int32) (y3 : Int32) (y4 : Int32) (y5 : Int32) (y6 : St), wbX7_bound_6 post n y0 y1 y2 y3 y4 y5 y6 → wbX7_bound_6 post' n y0 y1 y2 y3 y4 y5 y6 := by
  intro n
  induction n with
  | zero => intro _ _ _ _ _ _ _ ; exact id
  | succ n ih =>
    intro _ _ _ _ _ _ _ 
    unfold wbX7_bound_6
    with_reducible repeat' (first | exact id | exact ih _ _ _ _ _ _ _ | exact hpost _ _ | refine mn_wpX7_brought (fun _ _ => ?_) | refine And.imp ?_ ?_ | refine forall_imp fun _ => ?_ | refine Exists.imp fun _ => ?_)
theorem mn_wpX7_bound {a1 : Int32} {a2 : Int32} {a3 : Int32} {a4 : Int32} {σ : St} {post post' : Int32 → St → Prop} (hpost : ∀ x0 x1, post x0 x1 → post' x0 x1) : wpX7_bound a1 a2 a3 a4 σ post → wpX7_bound a1 a2 a3 a4 σ post' := by
  unfold wpX7_bound
  with_reducible repeat' (first | exact id | exact hpost _ _ | refine mn_wbX7_bound_6 (fun _ _ => ?_) _ _ _ _ _ _ _ _ | refine And.imp ?_ ?_ | refine forall_imp fun _ => ?_ | refine Exists.imp fun _ => ?_)
theorem mn_wpX7_width {a1 : Int32} {a2 : Int32} {a3 : Int32} {σ : St} {post post' : Int32 → St → Prop} (hpost : ∀ x0 x1, post x0 x1 → post' x0 x1) : wpX7_width a1 a2 a3 σ post → wpX7_width a1 a2 a3 σ post' := by
  unfold wpX7_width
  with_reducible repeat' (first | exact id | exact hpost _ _ | refine mn_wpX7_bound (fun _ _ => ?_) | refine And.imp ?_ ?_ | refine forall_imp fun _ => ?_ | refine Exists.imp fun _ => ?_)
theorem mn_wbX7_widestSpot_8 {post post' : Int32 → St → Prop} (hpost : ∀ x0 x1, post x0 x1 → post' x0 x1) : ∀ (n : Nat) (y0 : Int32) (y1 : Int32) (y2 : Int32) (y3 : Int32) (y4 : Int32) (y5 : St), wbX7_widestSpot_8 post n y0 y1 y2 y3 y4 y5 → wbX7_widestSpot_8 post' n y0 y1 y2 y3 y4 y5 := by
  intro n
  induction n with
  | zero => intro _ _ _ _ _ _ ; exact id
  | succ n ih =>
    intro _ _ _ _ _ _ 
    unfold wbX7_widestSpot_8
    with_reducible repeat' (first | exact id | exact ih _ _ _ _ _ _ | exact hpost _ _ | refine mn_wpX7_width (fun _ _ => ?_) | refine And.imp ?_ ?_ | refine forall_imp fun _ => ?_ | refine Exists.imp fun _ => ?_)
theorem mn_wpX7_widestSpot {a1 : Int32} {a2 : Int32} {σ : St} {post post' : Int32 → St → Prop} (hpost : ∀ x0 x1, post x0 x1 → post' x0 x1) : wpX7_widestSpot a1 a2 σ post → wpX7_widestSpot a1 a2 σ post' := by
  unfold wpX7_widestSpot
  with_reducible repeat' (first | exact id | exact hpost _ _ | refine mn_wbX7_widestSpot_8 (fun _ _ => ?_) _ _ _ _ _ _ _ | refine And.imp ?_ ?_ | refine forall_imp fun _ => ?_ | refine Exists.imp fun _ => ?_)
theorem mn_wpX8_hasRoom {σ : St} {post post' : Int32 → St → Prop} (hpost : ∀ x0 x1, post x0 x1 → post' x0 x1) : wpX8_hasRoom σ post → wpX8_hasRoom σ post' := by
  unfold wpX8_hasRoom
  with_reducible repeat' (first | exact id | exact hpost _ _ | refine And.imp ?_ ?_ | refine forall_imp fun _ => ?_ | refine Exists.imp fun _ => ?_)
theorem mn_wbX8_put_3 {post post' : St → Prop} (hpost : ∀ x0, post x0 → post' x0) : ∀ (n : Nat) (y0 : Int32) (y1 : Int32) (y2 : St), wbX8_put_3 post n y0 y1 y2 → wbX8_put_3 post' n y0 y1 y2 := by
  intro n
  induction n with
  | zero => intro _ _ _ ; exact id
  | succ n ih =>
    intro _ _ _ 
    unfold wbX8_put_3
    with_reducible repeat' (first | exact id | exact ih _ _ _ | exact hpost _ | refine And.imp ?_ ?_ | refine forall_imp fun _ => ?_ | refine Exists.imp fun _ => ?_)
theorem mn_wpX8_put {a1 : Int32} {σ : St} {post post' : St → Prop} (hpost : ∀ x0, post x0 → post' x0) : wpX8_put a1 σ post → wpX8_put a1 σ post' := by
  unfold wpX8_put
  with_reducible repeat' (first | exact id | exact hpost _ | refine mn_wbX8_put_3 (fun _ => ?_) _ _ _ _ | refine And.imp ?_ ?_ | refine forall_imp fun _ => ?_ | refine Exists.imp fun _ => ?_)
theorem mn_wpX8_fail {a1 : Int32} {σ : St} {post post' : St → Prop} (hpost : ∀ x0, post x0 → post' x0) : wpX8_fail a1 σ post → wpX8_fail a1 σ post' := by
  unfold wpX8_fail
  with_reducible repeat' (first | exact id | exact hpost _ | refine And.imp ?_ ?_ | refine forall_imp fun _ => ?_ | refine Exists.imp fun _ => ?_)
theorem mn_wpX8_advance {σ : St} {post post' : St → Prop} (hpost : ∀ x0, post x0 → post' x0) : wpX8_advance σ post → wpX8_advance σ post' := by
  unfold wpX8_advance
  with_reducible repeat' (first | exact id | exact hpost _ | refine And.imp ?_ ?_ | refine forall_imp fun _ => ?_ | refine Exists.imp fun _ => ?_)
theorem mn_wpX8_expect {a1 : Int32} {σ : St} {post post' : St → Prop} (hpost : ∀ x0, post x0 → post' x0) : wpX8_expect a1 σ post → wpX8_expect a1 σ post' := by
  unfold wpX8_expect
  with_reducible repeat' (first | exact id | exact hpost _ | refine mn_wpX8_fail (fun _ => ?_) | refine mn_wpX8_advance (fun _ => ?_) | refine And.imp ?_ ?_ | refine forall_imp fun _ => ?_ | refine Exists.imp fun _ => ?_)
theorem mn_wbX8_window_44 {K47 K47' : St → Prop} (hK47 : ∀ x0, K47 x0 → K47' x0) {K78 K78' : St → Prop} (hK78 : ∀ x0, K78 x0 → K78' x0) {post post' : St → Prop} (hpost : ∀ x0, post x0 → post' x0) {v1 : Int32} {v2 : Int32} {s0 : Int32} {s1 : Int32} {σ : St} : wbX8_window_44 K47 K78 post v1 v2 s0 s1 σ → wbX8_window_44 K47' K78' post' v1 v2 s0 s1 σ := by
  unfold wbX8_window_44
  with_reducible repeat' (first | exact id | exact hK47 _ | exact hK78 _ | exact hpost _ | refine And.imp ?_ ?_ | refine forall_imp fun _ => ?_ | refine Exists.imp fun _ => ?_)
theorem mn_wbX8_window_47 {K78 K78' : St → Prop} (hK78 : ∀ x0, K78 x0 → K78' x0) {post post' : St → Prop} (hpost : ∀ x0, post x0 → post' x0) {σ : St} : wbX8_window_47 K78 post σ → wbX8_window_47 K78' post' σ := by
  unfold wbX8_window_47
  with_reducible repeat' (first | exact id | exact hK78 _ | exact hpost _ | refine mn_wpX8_fail (fun _ => ?_) | refine And.imp ?_ ?_ | refine forall_imp fun _ => ?_ | refine Exists.imp fun _ => ?_)
theorem mn_wbX8_window_78 {post post' : St → Prop} (hpost : ∀ x0, post x0 → post' x0) {σ : St} : wbX8_window_78 post σ → wbX8_window_78 post' σ := by
  unfold wbX8_window_78
  with_reducible repeat' (first | exact id | exact hpost _ | refine mn_wpX8_advance (fun _ => ?_) | refine And.imp ?_ ?_ | refine forall_imp fun _ => ?_ | refine Exists.imp fun _ => ?_)
theorem mn_wpX8_window {a1 : Int32} {σ : St} {post post' : St → Prop} (hpost : ∀ x0, post x0 → post' x0) : wpX8_window a1 σ post → wpX8_window a1 σ post' := by
  unfold wpX8_window
  with_reducible repeat' (first | exact id | exact hpost _ | refine mn_wbX8_window_47 (fun _ => ?_) (fun _ => ?_) | refine mn_wbX8_window_78 (fun _ => ?_) | refine mn_wbX8_window_44 (fun _ => ?_) (fun _ => ?_) (fun _ => ?_) | refine mn_wpX8_fail (fun _ => ?_) | refine And.imp ?_ ?_ | refine forall_imp fun _ => ?_ | refine Exists.imp fun _ => ?_)
theorem mn_wpX9_put {k0 : Nat} {a1 : Int32} {σ : St} {post post' : St → Prop} (hpost : ∀ x0, post x0 → post' x0) : wpX9_put k0 a1 σ post → wpX9_put k0 a1 σ post' := by
  unfold wpX9_put
  with_reducible repeat' (first | exact id | exact hpost _ | refine And.imp ?_ ?_ | refine forall_imp fun _ => ?_ | refine Exists.imp fun _ => ?_)
theorem mn_wbX8_one_106 {FX8_around : Int32 → Int32 → St → (St → Prop) → Prop} (hR : ∀ (P Q : St → Prop) (a0 : Int32) (a1 : Int32) (a2 : St), (∀ x0, P x0 → Q x0) → FX8_around a0 a1 a2 P → FX8_around a0 a1 a2 Q) {post post' : St → Prop} (hpost : ∀ x0, post x0 → post' x0) {v1 : Int32} {v2 : Int32} {σ : St} : wbX8_one_106 FX8_around post v1 v2 σ → wbX8_one_106 FX8_around post' v1 v2 σ := by
  unfold wbX8_one_106
  with_reducible repeat' (first | exact id | refine hR _ _ _ _ _ (fun _ => ?_) | exact hpost _ | refine And.imp ?_ ?_ | refine forall_imp fun _ => ?_ | refine Exists.imp fun _ => ?_)
theorem mn_wbX8_one_31 {FX8_around : Int32 → Int32 → St → (St → Prop) → Prop} (hR : ∀ (P Q : St → Prop) (a0 : Int32) (a1 : Int32) (a2 : St), (∀ x0, P x0 → Q x0) → FX8_around a0 a1 a2 P → FX8_around a0 a1 a2 Q) {post post' : St → Prop} (hpost : ∀ x0, post x0 → post' x0) {σ : St} : wbX8_one_31 FX8_around post σ → wbX8_one_31 FX8_around post' σ := by
  unfold wbX8_one_31
  with_reducible repeat' (first | exact id | refine hR _ _ _ _ _ (fun _ => ?_) | exact hpost _ | refine mn_wpX9_put (fun _ => ?_) | refine mn_wpX8_advance (fun _ => ?_) | refine And.imp ?_ ?_ | refine forall_imp fun _ => ?_ | refine Exists.imp fun _ => ?_)
theorem mn_wbX8_one_82 {FX8_around : Int32 → Int32 → St → (St → Prop) → Prop} (hR : ∀ (P Q : St → Prop) (a0 : Int32) (a1 : Int32) (a2 : St), (∀ x0, P x0 → Q x0) → FX8_around a0 a1 a2 P → FX8_around a0 a1 a2 Q) {post post' : St → Prop} (hpost : ∀ x0, post x0 → post' x0) {v1 : Int32} {v2 : Int32} {σ : St} : wbX8_one_82 FX8_around post v1 v2 σ → wbX8_one_82 FX8_around post' v1 v2 σ := by
  unfold wbX8_one_82
  with_reducible repeat' (first | exact id | refine hR _ _ _ _ _ (fun _ => ?_) | exact hpost _ | refine mn_wbX8_one_106 (by first | exact hR | exact mn_wr_12 _ | exact mn_wr2_12 _) (fun _ => ?_) | refine mn_wpX8_fail (fun _ => ?_) | refine And.imp ?_ ?_ | refine forall_imp fun _ => ?_ | refine Exists.imp fun _ => ?_)
theorem mn_wpX8_one {FX8_around : Int32 → Int32 → St → (St → Prop) → Prop} (hR : ∀ (P Q : St → Prop) (a0 : Int32) (a1 : Int32) (a2 : St), (∀ x0, P x0 → Q x0) → FX8_around a0 a1 a2 P → FX8_around a0 a1 a2 Q) {a1 : Int32} {σ : St} {post post' : St → Prop} (hpost : ∀ x0, post x0 → post' x0) : wpX8_one FX8_around a1 σ post → wpX8_one FX8_around a1 σ post' := by
  unfold wpX8_one
  with_reducible repeat' (first | exact id | refine hR _ _ _ _ _ (fun _ => ?_) | exact hpost _ | refine mn_wbX8_one_82 (by first | exact hR | exact mn_wr_12 _ | exact mn_wr2_12 _) (fun _ => ?_) | refine mn_wpX9_put (fun _ => ?_) | refine mn_wpX8_advance (fun _ => ?_) | refine mn_wbX8_one_31 (by first | exact hR | exact mn_wr_12 _ | exact mn_wr2_12 _) (fun _ => ?_) | refine mn_wpX8_fail (fun _ => ?_) | refine And.imp ?_ ?_ | refine forall_imp fun _ => ?_ | refine Exists.imp fun _ => ?_)
theorem mn_wbX8_product_32 {FX8_around : Int32 → Int32 → St → (St → Prop) → Prop} (hR : ∀ (P Q : St → Prop) (a0 : Int32) (a1 : Int32) (a2 : St), (∀ x0, P x0 → Q x0) → FX8_around a0 a1 a2 P → FX8_around a0 a1 a2 Q) {K7 K7' : Int32 → Int32 → St → Prop} (hK7 : ∀ x0 x1 x2, K7 x0 x1 x2 → K7' x0 x1 x2) {post post' : St → Prop} (hpost : ∀ x0, post x0 → post' x0) {v1 : Int32} {v2 : Int32} {σ : St} : wbX8_product_32 FX8_around K7 post v1 v2 σ → wbX8_product_32 FX8_around K7' post' v1 v2 σ := by
  unfold wbX8_product_32
  with_reducible repeat' (first | exact id | refine hR _ _ _ _ _ (fun _ => ?_) | exact hK7 _ _ _ | exact hpost _ | refine mn_wpX8_advance (fun _ => ?_) | refine mn_wpX8_one (by first | exact hR | exact mn_wr_12 _ | exact mn_wr2_12 _) (fun _ => ?_) | refine mn_wpX9_put (fun _ => ?_) | refine And.imp ?_ ?_ | refine forall_imp fun _ => ?_ | refine Exists.imp fun _ => ?_)
theorem mn_wbX8_product_7 {FX8_around : Int32 → Int32 → St → (St → Prop) → Prop} (hR : ∀ (P Q : St → Prop) (a0 : Int32) (a1 : Int32) (a2 : St), (∀ x0, P x0 → Q x0) → FX8_around a0 a1 a2 P → FX8_around a0 a1 a2 Q) {post post' : St → Prop} (hpost : ∀ x0, post x0 → post' x0) : ∀ (n : Nat) (y0 : Int32) (y1 : Int32) (y2 : St), wbX8_product_7 FX8_around post n y0 y1 y2 → wbX8_product_7 FX8_around post' n y0 y1 y2 := by
  intro n
  induction n with
  | zero => intro _ _ _ ; exact id
  | succ n ih =>
    intro _ _ _ 
    unfold wbX8_product_7
    with_reducible repeat' (first | exact id | exact ih _ _ _ | refine hR _ _ _ _ _ (fun _ => ?_) | exact hpost _ | refine mn_wbX8_product_32 (by first | exact hR | exact mn_wr_12 _ | exact mn_wr2_12 _) (fun _ _ _ => ?_) (fun _ => ?_) | refine And.imp ?_ ?_ | refine forall_imp fun _ => ?_ | refine Exists.imp fun _ => ?_)
theorem mn_wpX8_product {FX8_around : Int32 → Int32 → St → (St → Prop) → Prop} (hR : ∀ (P Q : St → Prop) (a0 : Int32) (a1 : Int32) (a2 : St), (∀ x0, P x0 → Q x0) → FX8_around a0 a1 a2 P → FX8_around a0 a1 a2 Q) {a1 : Int32} {σ : St} {post post' : St → Prop} (hpost : ∀ x0, post x0 → post' x0) : wpX8_product FX8_around a1 σ post → wpX8_product FX8_around a1 σ post' := by
  unfold wpX8_product
  with_reducible repeat' (first | exact id | refine hR _ _ _ _ _ (fun _ => ?_) | exact hpost _ | refine mn_wpX8_one (by first | exact hR | exact mn_wr_12 _ | exact mn_wr2_12 _) (fun _ => ?_) | refine mn_wbX8_product_7 (by first | exact hR | exact mn_wr_12 _ | exact mn_wr2_12 _) (fun _ => ?_) _ _ _ _ | refine And.imp ?_ ?_ | refine forall_imp fun _ => ?_ | refine Exists.imp fun _ => ?_)
theorem mn_wbX8_sum_32 {FX8_around : Int32 → Int32 → St → (St → Prop) → Prop} (hR : ∀ (P Q : St → Prop) (a0 : Int32) (a1 : Int32) (a2 : St), (∀ x0, P x0 → Q x0) → FX8_around a0 a1 a2 P → FX8_around a0 a1 a2 Q) {K7 K7' : Int32 → Int32 → St → Prop} (hK7 : ∀ x0 x1 x2, K7 x0 x1 x2 → K7' x0 x1 x2) {post post' : St → Prop} (hpost : ∀ x0, post x0 → post' x0) {v1 : Int32} {v2 : Int32} {σ : St} : wbX8_sum_32 FX8_around K7 post v1 v2 σ → wbX8_sum_32 FX8_around K7' post' v1 v2 σ := by
  unfold wbX8_sum_32
  with_reducible repeat' (first | exact id | refine hR _ _ _ _ _ (fun _ => ?_) | exact hK7 _ _ _ | exact hpost _ | refine mn_wpX8_advance (fun _ => ?_) | refine mn_wpX8_product (by first | exact hR | exact mn_wr_12 _ | exact mn_wr2_12 _) (fun _ => ?_) | refine mn_wpX9_put (fun _ => ?_) | refine And.imp ?_ ?_ | refine forall_imp fun _ => ?_ | refine Exists.imp fun _ => ?_)
theorem mn_wbX8_sum_7 {FX8_around : Int32 → Int32 → St → (St → Prop) → Prop} (hR : ∀ (P Q : St → Prop) (a0 : Int32) (a1 : Int32) (a2 : St), (∀ x0, P x0 → Q x0) → FX8_around a0 a1 a2 P → FX8_around a0 a1 a2 Q) {post post' : St → Prop} (hpost : ∀ x0, post x0 → post' x0) : ∀ (n : Nat) (y0 : Int32) (y1 : Int32) (y2 : St), wbX8_sum_7 FX8_around post n y0 y1 y2 → wbX8_sum_7 FX8_around post' n y0 y1 y2 := by
  intro n
  induction n with
  | zero => intro _ _ _ ; exact id
  | succ n ih =>
    intro _ _ _ 
    unfold wbX8_sum_7
    with_reducible repeat' (first | exact id | exact ih _ _ _ | refine hR _ _ _ _ _ (fun _ => ?_) | exact hpost _ | refine mn_wbX8_sum_32 (by first | exact hR | exact mn_wr_12 _ | exact mn_wr2_12 _) (fun _ _ _ => ?_) (fun _ => ?_) | refine And.imp ?_ ?_ | refine forall_imp fun _ => ?_ | refine Exists.imp fun _ => ?_)
theorem mn_wpX8_sum {FX8_around : Int32 → Int32 → St → (St → Prop) → Prop} (hR : ∀ (P Q : St → Prop) (a0 : Int32) (a1 : Int32) (a2 : St), (∀ x0, P x0 → Q x0) → FX8_around a0 a1 a2 P → FX8_around a0 a1 a2 Q) {a1 : Int32} {σ : St} {post post' : St → Prop} (hpost : ∀ x0, post x0 → post' x0) : wpX8_sum FX8_around a1 σ post → wpX8_sum FX8_around a1 σ post' := by
  unfold wpX8_sum
  with_reducible repeat' (first | exact id | refine hR _ _ _ _ _ (fun _ => ?_) | exact hpost _ | refine mn_wpX8_product (by first | exact hR | exact mn_wr_12 _ | exact mn_wr2_12 _) (fun _ => ?_) | refine mn_wbX8_sum_7 (by first | exact hR | exact mn_wr_12 _ | exact mn_wr2_12 _) (fun _ => ?_) _ _ _ _ | refine And.imp ?_ ?_ | refine forall_imp fun _ => ?_ | refine Exists.imp fun _ => ?_)
theorem mn_wbX8_around_112 {FX8_around : Int32 → Int32 → St → (St → Prop) → Prop} (hR : ∀ (P Q : St → Prop) (a0 : Int32) (a1 : Int32) (a2 : St), (∀ x0, P x0 → Q x0) → FX8_around a0 a1 a2 P → FX8_around a0 a1 a2 Q) {post post' : St → Prop} (hpost : ∀ x0, post x0 → post' x0) {σ : St} : wbX8_around_112 FX8_around post σ → wbX8_around_112 FX8_around post' σ := by
  unfold wbX8_around_112
  with_reducible repeat' (first | exact id | refine hR _ _ _ _ _ (fun _ => ?_) | exact hpost _ | refine mn_wpX8_expect (fun _ => ?_) | refine And.imp ?_ ?_ | refine forall_imp fun _ => ?_ | refine Exists.imp fun _ => ?_)
theorem mn_wbX8_around_41 {FX8_around : Int32 → Int32 → St → (St → Prop) → Prop} (hR : ∀ (P Q : St → Prop) (a0 : Int32) (a1 : Int32) (a2 : St), (∀ x0, P x0 → Q x0) → FX8_around a0 a1 a2 P → FX8_around a0 a1 a2 Q) {post post' : St → Prop} (hpost : ∀ x0, post x0 → post' x0) {v1 : Int32} {v2 : Int32} {σ : St} : wbX8_around_41 FX8_around post v1 v2 σ → wbX8_around_41 FX8_around post' v1 v2 σ := by
  unfold wbX8_around_41
  with_reducible repeat' (first | exact id | refine hR _ _ _ _ _ (fun _ => ?_) | exact hpost _ | refine mn_wpX8_advance (fun _ => ?_) | refine mn_wpX8_sum (by first | exact hR | exact mn_wr_12 _ | exact mn_wr2_12 _) (fun _ => ?_) | refine mn_wbX8_around_112 (by first | exact hR | exact mn_wr_12 _ | exact mn_wr2_12 _) (fun _ => ?_) | refine mn_wpX8_expect (fun _ => ?_) | refine mn_wpX9_put (fun _ => ?_) | refine mn_wpX8_one (by first | exact hR | exact mn_wr_12 _ | exact mn_wr2_12 _) (fun _ => ?_) | refine And.imp ?_ ?_ | refine forall_imp fun _ => ?_ | refine Exists.imp fun _ => ?_)
theorem mn_wbX8_around_12 {FX8_around : Int32 → Int32 → St → (St → Prop) → Prop} (hR : ∀ (P Q : St → Prop) (a0 : Int32) (a1 : Int32) (a2 : St), (∀ x0, P x0 → Q x0) → FX8_around a0 a1 a2 P → FX8_around a0 a1 a2 Q) {K30 K30' : Int32 → Int32 → St → Prop} (hK30 : ∀ x0 x1 x2, K30 x0 x1 x2 → K30' x0 x1 x2) {post post' : St → Prop} (hpost : ∀ x0, post x0 → post' x0) {v1 : Int32} {v2 : Int32} {σ : St} : wbX8_around_12 FX8_around K30 post v1 v2 σ → wbX8_around_12 FX8_around K30' post' v1 v2 σ := by
  unfold wbX8_around_12
  with_reducible repeat' (first | exact id | refine hR _ _ _ _ _ (fun _ => ?_) | exact hK30 _ _ _ | exact hpost _ | refine mn_wpX8_advance (fun _ => ?_) | refine mn_wpX8_fail (fun _ => ?_) | refine And.imp ?_ ?_ | refine forall_imp fun _ => ?_ | refine Exists.imp fun _ => ?_)
theorem mn_wbX8_around_30 {FX8_around : Int32 → Int32 → St → (St → Prop) → Prop} (hR : ∀ (P Q : St → Prop) (a0 : Int32) (a1 : Int32) (a2 : St), (∀ x0, P x0 → Q x0) → FX8_around a0 a1 a2 P → FX8_around a0 a1 a2 Q) {post post' : St → Prop} (hpost : ∀ x0, post x0 → post' x0) {v1 : Int32} {v2 : Int32} {σ : St} : wbX8_around_30 FX8_around post v1 v2 σ → wbX8_around_30 FX8_around post' v1 v2 σ := by
  unfold wbX8_around_30
  with_reducible repeat' (first | exact id | refine hR _ _ _ _ _ (fun _ => ?_) | exact hpost _ | refine mn_wbX8_around_41 (by first | exact hR | exact mn_wr_12 _ | exact mn_wr2_12 _) (fun _ => ?_) | refine mn_wpX8_fail (fun _ => ?_) | refine And.imp ?_ ?_ | refine forall_imp fun _ => ?_ | refine Exists.imp fun _ => ?_)
theorem mn_wpX8_around {FX8_around : Int32 → Int32 → St → (St → Prop) → Prop} (hR : ∀ (P Q : St → Prop) (a0 : Int32) (a1 : Int32) (a2 : St), (∀ x0, P x0 → Q x0) → FX8_around a0 a1 a2 P → FX8_around a0 a1 a2 Q) {a1 : Int32} {a2 : Int32} {σ : St} {post post' : St → Prop} (hpost : ∀ x0, post x0 → post' x0) : wpX8_around FX8_around a1 a2 σ post → wpX8_around FX8_around a1 a2 σ post' := by
  unfold wpX8_around
  with_reducible repeat' (first | exact id | refine hR _ _ _ _ _ (fun _ => ?_) | exact hpost _ | refine mn_wbX8_around_12 (by first | exact hR | exact mn_wr_12 _ | exact mn_wr2_12 _) (fun _ _ _ => ?_) (fun _ => ?_) | refine mn_wbX8_around_30 (by first | exact hR | exact mn_wr_12 _ | exact mn_wr2_12 _) (fun _ => ?_) | refine And.imp ?_ ?_ | refine forall_imp fun _ => ?_ | refine Exists.imp fun _ => ?_)
theorem mn_wr_12 : ∀ (n : Nat) (P Q : St → Prop) (a0 : Int32) (a1 : Int32) (a2 : St), (∀ x0, P x0 → Q x0) → wrX8_around n a0 a1 a2 P → wrX8_around n a0 a1 a2 Q := by
  intro n
  induction n with
  | zero => intro _ _ _ _ _  _; exact id
  | succ n ih =>
    intro P Q a0 a1 a2 hP
    unfold wrX8_around
    exact mn_wpX8_around ih hP
theorem mn_wbX8_ask_89 {post post' : St → Prop} (hpost : ∀ x0, post x0 → post' x0) : ∀ (n : Nat) (y0 : Int32) (y1 : Int32) (y2 : St), wbX8_ask_89 post n y0 y1 y2 → wbX8_ask_89 post' n y0 y1 y2 := by
  intro n
  induction n with
  | zero => intro _ _ _ ; exact id
  | succ n ih =>
    intro _ _ _ 
    unfold wbX8_ask_89
    with_reducible repeat' (first | exact id | exact ih _ _ _ | exact hpost _ | refine mn_wpX9_put (fun _ => ?_) | refine And.imp ?_ ?_ | refine forall_imp fun _ => ?_ | refine Exists.imp fun _ => ?_)
theorem mn_wbX8_ask_65 {K70 K70' : Int32 → Int32 → St → Prop} (hK70 : ∀ x0 x1 x2, K70 x0 x1 x2 → K70' x0 x1 x2) {post post' : St → Prop} (hpost : ∀ x0, post x0 → post' x0) {v1 : Int32} {v2 : Int32} {σ : St} : wbX8_ask_65 K70 post v1 v2 σ → wbX8_ask_65 K70' post' v1 v2 σ := by
  unfold wbX8_ask_65
  with_reducible repeat' (first | exact id | exact hK70 _ _ _ | exact hpost _ | refine mn_wpX8_fail (fun _ => ?_) | refine And.imp ?_ ?_ | refine forall_imp fun _ => ?_ | refine Exists.imp fun _ => ?_)
theorem mn_wbX8_ask_70 {post post' : St → Prop} (hpost : ∀ x0, post x0 → post' x0) {v1 : Int32} {v2 : Int32} {σ : St} : wbX8_ask_70 post v1 v2 σ → wbX8_ask_70 post' v1 v2 σ := by
  unfold wbX8_ask_70
  with_reducible repeat' (first | exact id | exact hpost _ | refine mn_wpX8_advance (fun _ => ?_) | refine mn_wpX8_sum (by first | exact hR | exact mn_wr_12 _ | exact mn_wr2_12 _) (fun _ => ?_) | refine mn_wr_12 _ _ _ _ _ _ (fun _ => ?_) | refine mn_wpX9_put (fun _ => ?_) | refine mn_wbX8_ask_89 (fun _ => ?_) _ _ _ _ | refine And.imp ?_ ?_ | refine forall_imp fun _ => ?_ | refine Exists.imp fun _ => ?_)
