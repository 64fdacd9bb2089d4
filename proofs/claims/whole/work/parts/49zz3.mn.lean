/-! posts may be weakened (4) -/
theorem mn_wbX12_number_15 {post post' : Int32 → St → Prop} (hpost : ∀ x0 x1, post x0 x1 → post' x0 x1) {v1 : Int32} {σ : St} : wbX12_number_15 post v1 σ → wbX12_number_15 post' v1 σ := by
  unfold wbX12_number_15
  with_reducible repeat' (first | exact id | exact hpost _ _ | refine mn_wpX12_errs (fun _ => ?_) | refine And.imp ?_ ?_ | refine forall_imp fun _ => ?_ | refine Exists.imp fun _ => ?_)
theorem mn_wpX12_number {a1 : Int32} {a2 : Int32} {σ : St} {post post' : Int32 → St → Prop} (hpost : ∀ x0 x1, post x0 x1 → post' x0 x1) : wpX12_number a1 a2 σ post → wpX12_number a1 a2 σ post' := by
  unfold wpX12_number
  with_reducible repeat' (first | exact id | exact hpost _ _ | refine mn_wbX12_number_15 (fun _ _ => ?_) | refine mn_wpX12_in (fun _ _ => ?_) | refine mn_wpX12_next (fun _ => ?_) | refine mn_wpX12_errs (fun _ => ?_) | refine And.imp ?_ ?_ | refine forall_imp fun _ => ?_ | refine Exists.imp fun _ => ?_)
theorem mn_wbX12_wasTold_4 {post post' : Int32 → St → Prop} (hpost : ∀ x0 x1, post x0 x1 → post' x0 x1) : ∀ (n : Nat) (y0 : Int32) (y1 : Int32) (y2 : Int32) (y3 : St), wbX12_wasTold_4 post n y0 y1 y2 y3 → wbX12_wasTold_4 post' n y0 y1 y2 y3 := by
  intro n
  induction n with
  | zero => intro _ _ _ _ ; exact id
  | succ n ih =>
    intro _ _ _ _ 
    unfold wbX12_wasTold_4
    with_reducible repeat' (first | exact id | exact ih _ _ _ _ | exact hpost _ _ | refine And.imp ?_ ?_ | refine forall_imp fun _ => ?_ | refine Exists.imp fun _ => ?_)
theorem mn_wpX12_wasTold {a1 : Int32} {σ : St} {post post' : Int32 → St → Prop} (hpost : ∀ x0 x1, post x0 x1 → post' x0 x1) : wpX12_wasTold a1 σ post → wpX12_wasTold a1 σ post' := by
  unfold wpX12_wasTold
  with_reducible repeat' (first | exact id | exact hpost _ _ | refine mn_wbX12_wasTold_4 (fun _ _ => ?_) _ _ _ _ _ | refine And.imp ?_ ?_ | refine forall_imp fun _ => ?_ | refine Exists.imp fun _ => ?_)
theorem mn_wbX12_clause_172 {post post' : St → Prop} (hpost : ∀ x0, post x0 → post' x0) {s0 : Int32} {σ : St} : wbX12_clause_172 post s0 σ → wbX12_clause_172 post' s0 σ := by
  unfold wbX12_clause_172
  with_reducible repeat' (first | exact id | exact hpost _ | refine mn_wpX12_clauseIsOver (fun _ => ?_) | refine And.imp ?_ ?_ | refine forall_imp fun _ => ?_ | refine Exists.imp fun _ => ?_)
theorem mn_wbX12_clause_155 {post post' : St → Prop} (hpost : ∀ x0, post x0 → post' x0) {v1 : Int32} {v2 : Int32} {s0 : Int32} {σ : St} : wbX12_clause_155 post v1 v2 s0 σ → wbX12_clause_155 post' v1 v2 s0 σ := by
  unfold wbX12_clause_155
  with_reducible repeat' (first | exact id | exact hpost _ | refine mn_wbX12_clause_172 (fun _ => ?_) | refine And.imp ?_ ?_ | refine forall_imp fun _ => ?_ | refine Exists.imp fun _ => ?_)
theorem mn_wbX12_clause_182 {post post' : St → Prop} (hpost : ∀ x0, post x0 → post' x0) {σ : St} : wbX12_clause_182 post σ → wbX12_clause_182 post' σ := by
  unfold wbX12_clause_182
  with_reducible repeat' (first | exact id | exact hpost _ | refine mn_wpX12_errs (fun _ => ?_) | refine And.imp ?_ ?_ | refine forall_imp fun _ => ?_ | refine Exists.imp fun _ => ?_)
theorem mn_wbX12_clause_121 {post post' : St → Prop} (hpost : ∀ x0, post x0 → post' x0) {v1 : Int32} {s0 : Int32} {s1 : Int32} {σ : St} : wbX12_clause_121 post v1 s0 s1 σ → wbX12_clause_121 post' v1 s0 s1 σ := by
  unfold wbX12_clause_121
  with_reducible repeat' (first | exact id | exact hpost _ | refine mn_wpX12_number (fun _ _ => ?_) | refine mn_wbX12_clause_182 (fun _ => ?_) | refine mn_wpX12_isSign (fun _ _ => ?_) | refine mn_wbX12_clause_155 (fun _ => ?_) | refine And.imp ?_ ?_ | refine forall_imp fun _ => ?_ | refine Exists.imp fun _ => ?_)
theorem mn_wbX12_clause_107 {post post' : St → Prop} (hpost : ∀ x0, post x0 → post' x0) {v1 : Int32} {σ : St} : wbX12_clause_107 post v1 σ → wbX12_clause_107 post' v1 σ := by
  unfold wbX12_clause_107
  with_reducible repeat' (first | exact id | exact hpost _ | refine mn_wbX12_clause_121 (fun _ => ?_) | refine And.imp ?_ ?_ | refine forall_imp fun _ => ?_ | refine Exists.imp fun _ => ?_)
theorem mn_wbX12_clause_198 {post post' : St → Prop} (hpost : ∀ x0, post x0 → post' x0) {v1 : Int32} {s0 : Int32} {σ : St} : wbX12_clause_198 post v1 s0 σ → wbX12_clause_198 post' v1 s0 σ := by
  unfold wbX12_clause_198
  with_reducible repeat' (first | exact id | exact hpost _ | refine mn_wpX12_opensFrame (fun _ => ?_) | refine And.imp ?_ ?_ | refine forall_imp fun _ => ?_ | refine Exists.imp fun _ => ?_)
theorem mn_wbX12_clause_16 {post post' : St → Prop} (hpost : ∀ x0, post x0 → post' x0) {σ : St} : wbX12_clause_16 post σ → wbX12_clause_16 post' σ := by
  unfold wbX12_clause_16
  with_reducible repeat' (first | exact id | exact hpost _ | refine mn_wpX12_errs (fun _ => ?_) | refine And.imp ?_ ?_ | refine forall_imp fun _ => ?_ | refine Exists.imp fun _ => ?_)
theorem mn_wbX12_clause_48 {K62 K62' : Int32 → St → Prop} (hK62 : ∀ x0 x1, K62 x0 x1 → K62' x0 x1) {post post' : St → Prop} (hpost : ∀ x0, post x0 → post' x0) {v1 : Int32} {σ : St} : wbX12_clause_48 K62 post v1 σ → wbX12_clause_48 K62' post' v1 σ := by
  unfold wbX12_clause_48
  with_reducible repeat' (first | exact id | exact hK62 _ _ | exact hpost _ | refine mn_wpX12_errs (fun _ => ?_) | refine And.imp ?_ ?_ | refine forall_imp fun _ => ?_ | refine Exists.imp fun _ => ?_)
theorem mn_wbX12_clause_62 {post post' : St → Prop} (hpost : ∀ x0, post x0 → post' x0) {v1 : Int32} {σ : St} : wbX12_clause_62 post v1 σ → wbX12_clause_62 post' v1 σ := by
  unfold wbX12_clause_62
  with_reducible repeat' (first | exact id | exact hpost _ | refine mn_wpX12_next (fun _ => ?_) | refine mn_wbX12_clause_107 (fun _ => ?_) | refine mn_wbX12_clause_198 (fun _ => ?_) | refine And.imp ?_ ?_ | refine forall_imp fun _ => ?_ | refine Exists.imp fun _ => ?_)
theorem mn_wpX12_clause {σ : St} {post post' : St → Prop} (hpost : ∀ x0, post x0 → post' x0) : wpX12_clause σ post → wpX12_clause σ post' := by
  unfold wpX12_clause
  with_reducible repeat' (first | exact id | exact hpost _ | refine mn_wbX12_clause_16 (fun _ => ?_) | refine mn_wbX12_clause_48 (fun _ _ => ?_) (fun _ => ?_) | refine mn_wbX12_clause_62 (fun _ => ?_) | refine mn_wpX12_wasTold (fun _ _ => ?_) | refine mn_wpX12_errs (fun _ => ?_) | refine And.imp ?_ ?_ | refine forall_imp fun _ => ?_ | refine Exists.imp fun _ => ?_)
theorem mn_wbX12_keepsText_88 {post post' : St → Prop} (hpost : ∀ x0, post x0 → post' x0) : ∀ (n : Nat) (y0 : Int32) (y1 : Int32) (y2 : St), wbX12_keepsText_88 post n y0 y1 y2 → wbX12_keepsText_88 post' n y0 y1 y2 := by
  intro n
  induction n with
  | zero => intro _ _ _ ; exact id
  | succ n ih =>
    intro _ _ _ 
    unfold wbX12_keepsText_88
    with_reducible repeat' (first | exact id | exact ih _ _ _ | exact hpost _ | refine And.imp ?_ ?_ | refine forall_imp fun _ => ?_ | refine Exists.imp fun _ => ?_)
theorem mn_wbX12_keepsText_32 {post post' : St → Prop} (hpost : ∀ x0, post x0 → post' x0) : ∀ (n : Nat) (y0 : Int32) (y1 : Int32) (y2 : St), wbX12_keepsText_32 post n y0 y1 y2 → wbX12_keepsText_32 post' n y0 y1 y2 := by
  intro n
  induction n with
  | zero => intro _ _ _ ; exact id
  | succ n ih =>
    intro _ _ _ 
    unfold wbX12_keepsText_32
    with_reducible repeat' (first | exact id | exact ih _ _ _ | exact hpost _ | refine mn_wbX12_keepsText_88 (fun _ => ?_) _ _ _ _ | refine And.imp ?_ ?_ | refine forall_imp fun _ => ?_ | refine Exists.imp fun _ => ?_)
theorem mn_wpX12_keepsText {a1 : Int32} {σ : St} {post post' : St → Prop} (hpost : ∀ x0, post x0 → post' x0) : wpX12_keepsText a1 σ post → wpX12_keepsText a1 σ post' := by
  unfold wpX12_keepsText
  with_reducible repeat' (first | exact id | exact hpost _ | refine mn_wbX12_keepsText_32 (fun _ => ?_) _ _ _ _ | refine And.imp ?_ ?_ | refine forall_imp fun _ => ?_ | refine Exists.imp fun _ => ?_)
theorem mn_wbX12_taste_108 {K86 K86' : St → Prop} (hK86 : ∀ x0, K86 x0 → K86' x0) {post post' : Int32 → St → Prop} (hpost : ∀ x0 x1, post x0 x1 → post' x0 x1) {σ : St} : wbX12_taste_108 K86 post σ → wbX12_taste_108 K86' post' σ := by
  unfold wbX12_taste_108
  with_reducible repeat' (first | exact id | exact hK86 _ | exact hpost _ _ | refine mn_wpX12_asks (fun _ => ?_) | refine mn_wpX12_begins (fun _ => ?_) | refine mn_wpX12_goesOn (fun _ => ?_) | refine mn_wpX12_asksOn (fun _ => ?_) | refine mn_wpX12_clause (fun _ => ?_) | refine And.imp ?_ ?_ | refine forall_imp fun _ => ?_ | refine Exists.imp fun _ => ?_)
theorem mn_wbX12_taste_179 {post post' : Int32 → St → Prop} (hpost : ∀ x0 x1, post x0 x1 → post' x0 x1) {σ : St} : wbX12_taste_179 post σ → wbX12_taste_179 post' σ := by
  unfold wbX12_taste_179
  with_reducible repeat' (first | exact id | exact hpost _ _ | refine mn_wpX12_keepsText (fun _ => ?_) | refine And.imp ?_ ?_ | refine forall_imp fun _ => ?_ | refine Exists.imp fun _ => ?_)
theorem mn_wbX12_taste_86 {post post' : Int32 → St → Prop} (hpost : ∀ x0 x1, post x0 x1 → post' x0 x1) : ∀ (n : Nat) (y0 : St), wbX12_taste_86 post n y0 → wbX12_taste_86 post' n y0 := by
  intro n
  induction n with
  | zero => intro _ ; exact id
  | succ n ih =>
    intro _ 
    unfold wbX12_taste_86
    with_reducible repeat' (first | exact id | exact ih _ | exact hpost _ _ | refine mn_wbX12_taste_179 (fun _ _ => ?_) | refine mn_wbX12_taste_108 (fun _ => ?_) (fun _ _ => ?_) | refine And.imp ?_ ?_ | refine forall_imp fun _ => ?_ | refine Exists.imp fun _ => ?_)
theorem mn_wpX12_taste {σ : St} {post post' : Int32 → St → Prop} (hpost : ∀ x0 x1, post x0 x1 → post' x0 x1) : wpX12_taste σ post → wpX12_taste σ post' := by
  unfold wpX12_taste
  with_reducible repeat' (first | exact id | exact hpost _ _ | refine mn_wpX12_next (fun _ => ?_) | refine mn_wbX12_taste_86 (fun _ _ => ?_) _ _ | refine And.imp ?_ ?_ | refine forall_imp fun _ => ?_ | refine Exists.imp fun _ => ?_)
theorem mn_wpX12_fault {a1 : Int32} {σ : St} {post post' : Int32 → St → Prop} (hpost : ∀ x0 x1, post x0 x1 → post' x0 x1) : wpX12_fault a1 σ post → wpX12_fault a1 σ post' := by
  unfold wpX12_fault
  with_reducible repeat' (first | exact id | exact hpost _ _ | refine And.imp ?_ ?_ | refine forall_imp fun _ => ?_ | refine Exists.imp fun _ => ?_)
theorem mn_wbX12_by_24 {post post' : Int32 → St → Prop} (hpost : ∀ x0 x1, post x0 x1 → post' x0 x1) {v1 : Int32} {v2 : Int32} {σ : St} : wbX12_by_24 post v1 v2 σ → wbX12_by_24 post' v1 v2 σ := by
  unfold wbX12_by_24
  with_reducible repeat' (first | exact id | exact hpost _ _ | refine And.imp ?_ ?_ | refine forall_imp fun _ => ?_ | refine Exists.imp fun _ => ?_)
theorem mn_wpX12_by {a1 : Int32} {a2 : Int32} {σ : St} {post post' : Int32 → St → Prop} (hpost : ∀ x0 x1, post x0 x1 → post' x0 x1) : wpX12_by a1 a2 σ post → wpX12_by a1 a2 σ post' := by
  unfold wpX12_by
  with_reducible repeat' (first | exact id | exact hpost _ _ | refine mn_wpX12_in (fun _ _ => ?_) | refine mn_wbX12_by_24 (fun _ _ => ?_) | refine mn_wpX12_isTaste (fun _ _ => ?_) | refine And.imp ?_ ?_ | refine forall_imp fun _ => ?_ | refine Exists.imp fun _ => ?_)
theorem mn_wbX12_years_49 {K27 K27' : Int32 → Int32 → St → Prop} (hK27 : ∀ x0 x1 x2, K27 x0 x1 x2 → K27' x0 x1 x2) {post post' : Int32 → St → Prop} (hpost : ∀ x0 x1, post x0 x1 → post' x0 x1) : ∀ (n : Nat) (y0 : Int32) (y1 : Int32) (y2 : Int32) (y3 : Int32) (y4 : St), wbX12_years_49 K27 post n y0 y1 y2 y3 y4 → wbX12_years_49 K27' post' n y0 y1 y2 y3 y4 := by
  intro n
  induction n with
  | zero => intro _ _ _ _ _ ; exact id
  | succ n ih =>
    intro _ _ _ _ _ 
    unfold wbX12_years_49
    with_reducible repeat' (first | exact id | exact ih _ _ _ _ _ | exact hK27 _ _ _ | exact hpost _ _ | refine And.imp ?_ ?_ | refine forall_imp fun _ => ?_ | refine Exists.imp fun _ => ?_)
theorem mn_wbX12_years_27 {post post' : Int32 → St → Prop} (hpost : ∀ x0 x1, post x0 x1 → post' x0 x1) : ∀ (n : Nat) (y0 : Int32) (y1 : Int32) (y2 : St), wbX12_years_27 post n y0 y1 y2 → wbX12_years_27 post' n y0 y1 y2 := by
  intro n
  induction n with
  | zero => intro _ _ _ ; exact id
  | succ n ih =>
    intro _ _ _ 
    unfold wbX12_years_27
    with_reducible repeat' (first | exact id | exact ih _ _ _ | exact hpost _ _ | refine mn_wbX12_years_49 (fun _ _ _ => ?_) (fun _ _ => ?_) _ _ _ _ _ _ | refine And.imp ?_ ?_ | refine forall_imp fun _ => ?_ | refine Exists.imp fun _ => ?_)
theorem mn_wpX12_years {a1 : Int32} {σ : St} {post post' : Int32 → St → Prop} (hpost : ∀ x0 x1, post x0 x1 → post' x0 x1) : wpX12_years a1 σ post → wpX12_years a1 σ post' := by
  unfold wpX12_years
  with_reducible repeat' (first | exact id | exact hpost _ _ | refine mn_wpX12_in (fun _ _ => ?_) | refine mn_wbX12_years_27 (fun _ _ => ?_) _ _ _ _ | refine And.imp ?_ ?_ | refine forall_imp fun _ => ?_ | refine Exists.imp fun _ => ?_)
theorem mn_wbX12_allOf_4 {post post' : Int32 → St → Prop} (hpost : ∀ x0 x1, post x0 x1 → post' x0 x1) : ∀ (n : Nat) (y0 : Int32) (y1 : Int32) (y2 : Int32) (y3 : St), wbX12_allOf_4 post n y0 y1 y2 y3 → wbX12_allOf_4 post' n y0 y1 y2 y3 := by
  intro n
  induction n with
  | zero => intro _ _ _ _ ; exact id
  | succ n ih =>
    intro _ _ _ _ 
    unfold wbX12_allOf_4
    with_reducible repeat' (first | exact id | exact ih _ _ _ _ | exact hpost _ _ | refine mn_wpX12_all (fun _ _ => ?_) | refine And.imp ?_ ?_ | refine forall_imp fun _ => ?_ | refine Exists.imp fun _ => ?_)
theorem mn_wpX12_allOf {a1 : Int32} {σ : St} {post post' : Int32 → St → Prop} (hpost : ∀ x0 x1, post x0 x1 → post' x0 x1) : wpX12_allOf a1 σ post → wpX12_allOf a1 σ post' := by
  unfold wpX12_allOf
  with_reducible repeat' (first | exact id | exact hpost _ _ | refine mn_wbX12_allOf_4 (fun _ _ => ?_) _ _ _ _ _ | refine And.imp ?_ ?_ | refine forall_imp fun _ => ?_ | refine Exists.imp fun _ => ?_)
theorem mn_wpX12_runsAll {σ : St} {post post' : St → Prop} (hpost : ∀ x0, post x0 → post' x0) : wpX12_runsAll σ post → wpX12_runsAll σ post' := by
  unfold wpX12_runsAll
  with_reducible repeat' (first | exact id | exact hpost _ | refine mn_wpX12_runs (fun _ => ?_) | refine And.imp ?_ ?_ | refine forall_imp fun _ => ?_ | refine Exists.imp fun _ => ?_)
theorem mn_wpX12_laysNow {σ : St} {post post' : St → Prop} (hpost : ∀ x0, post x0 → post' x0) : wpX12_laysNow σ post → wpX12_laysNow σ post' := by
  unfold wpX12_laysNow
  with_reducible repeat' (first | exact id | exact hpost _ | refine mn_wpX12_runsAll (fun _ => ?_) | refine mn_wpX12_lays (fun _ => ?_) | refine And.imp ?_ ?_ | refine forall_imp fun _ => ?_ | refine Exists.imp fun _ => ?_)
theorem mn_wpX12_isPart {a1 : Int32} {a2 : Int32} {σ : St} {post post' : Int32 → St → Prop} (hpost : ∀ x0 x1, post x0 x1 → post' x0 x1) : wpX12_isPart a1 a2 σ post → wpX12_isPart a1 a2 σ post' := by
  unfold wpX12_isPart
  with_reducible repeat' (first | exact id | exact hpost _ _ | refine mn_wpX12_in (fun _ _ => ?_) | refine And.imp ?_ ?_ | refine forall_imp fun _ => ?_ | refine Exists.imp fun _ => ?_)
theorem mn_wbX12_sumOf_41 {K66 K66' : Int32 → Int32 → Int32 → Int32 → Int32 → Int32 → Int32 → Int32 → Int32 → St → Prop} (hK66 : ∀ x0 x1 x2 x3 x4 x5 x6 x7 x8 x9, K66 x0 x1 x2 x3 x4 x5 x6 x7 x8 x9 → K66' x0 x1 x2 x3 x4 x5 x6 x7 x8 x9) {post post' : Int32 → St → Prop} (hpost : ∀ x0 x1, post x0 x1 → post' x0 x1) {v1 : Int32} {v2 : Int32} {v3 : Int32} {v4 : Int32} {v5 : Int32} {v6 : Int32} {v7 : Int32} {σ : St} : wbX12_sumOf_41 K66 post v1 v2 v3 v4 v5 v6 v7 σ → wbX12_sumOf_41 K66' post' v1 v2 v3 v4 v5 v6 v7 σ := by
  unfold wbX12_sumOf_41
  with_reducible repeat' (first | exact id | exact hK66 _ _ _ _ _ _ _ _ _ _ | exact hpost _ _ | refine And.imp ?_ ?_ | refine forall_imp fun _ => ?_ | refine Exists.imp fun _ => ?_)
theorem mn_wbX12_sumOf_97 {K66 K66' : Int32 → Int32 → Int32 → Int32 → Int32 → Int32 → Int32 → Int32 → Int32 → St → Prop} (hK66 : ∀ x0 x1 x2 x3 x4 x5 x6 x7 x8 x9, K66 x0 x1 x2 x3 x4 x5 x6 x7 x8 x9 → K66' x0 x1 x2 x3 x4 x5 x6 x7 x8 x9) {post post' : Int32 → St → Prop} (hpost : ∀ x0 x1, post x0 x1 → post' x0 x1) {v1 : Int32} {v2 : Int32} {v3 : Int32} {v4 : Int32} {v5 : Int32} {v7 : Int32} {v8 : Int32} {v9 : Int32} {s0 : Int32} {σ : St} : wbX12_sumOf_97 K66 post v1 v2 v3 v4 v5 v7 v8 v9 s0 σ → wbX12_sumOf_97 K66' post' v1 v2 v3 v4 v5 v7 v8 v9 s0 σ := by
  unfold wbX12_sumOf_97
  with_reducible repeat' (first | exact id | exact hK66 _ _ _ _ _ _ _ _ _ _ | exact hpost _ _ | refine And.imp ?_ ?_ | refine forall_imp fun _ => ?_ | refine Exists.imp fun _ => ?_)
theorem mn_wbX12_sumOf_26 {K66 K66' : Int32 → Int32 → Int32 → Int32 → Int32 → Int32 → Int32 → Int32 → Int32 → St → Prop} (hK66 : ∀ x0 x1 x2 x3 x4 x5 x6 x7 x8 x9, K66 x0 x1 x2 x3 x4 x5 x6 x7 x8 x9 → K66' x0 x1 x2 x3 x4 x5 x6 x7 x8 x9) {post post' : Int32 → St → Prop} (hpost : ∀ x0 x1, post x0 x1 → post' x0 x1) {v1 : Int32} {v2 : Int32} {v3 : Int32} {v4 : Int32} {v5 : Int32} {v6 : Int32} {v7 : Int32} {σ : St} : wbX12_sumOf_26 K66 post v1 v2 v3 v4 v5 v6 v7 σ → wbX12_sumOf_26 K66' post' v1 v2 v3 v4 v5 v6 v7 σ := by
  unfold wbX12_sumOf_26
  with_reducible repeat' (first | exact id | exact hK66 _ _ _ _ _ _ _ _ _ _ | exact hpost _ _ | refine mn_wbX12_sumOf_41 (fun _ _ _ _ _ _ _ _ _ _ => ?_) (fun _ _ => ?_) | refine And.imp ?_ ?_ | refine forall_imp fun _ => ?_ | refine Exists.imp fun _ => ?_)
theorem mn_wbX12_sumOf_66 {K6 K6' : Int32 → Int32 → Int32 → Int32 → Int32 → Int32 → Int32 → St → Prop} (hK6 : ∀ x0 x1 x2 x3 x4 x5 x6 x7, K6 x0 x1 x2 x3 x4 x5 x6 x7 → K6' x0 x1 x2 x3 x4 x5 x6 x7) {post post' : Int32 → St → Prop} (hpost : ∀ x0 x1, post x0 x1 → post' x0 x1) : ∀ (n : Nat) (y0 : Int32) (y1 : Int32) (y2 : Int32) (y3 : Int32) (y4 : Int32) (y5 : Int32) (y6 : Int32) (y7 : Int32) (y8 : Int32) (y9 : St), wbX12_sumOf_66 K6 post n y0 y1 y2 y3 y4 y5 y6 y7 y8 y9 → wbX12_sumOf_66 K6' post' n y0 y1 y2 y3 y4 y5 y6 y7 y8 y9 := by
  intro n
  induction n with
  | zero => intro _ _ _ _ _ _ _ _ _ _ ; exact id
  | succ n ih =>
    intro _ _ _ _ _ _ _ _ _ _ 
    unfold wbX12_sumOf_66
    with_reducible repeat' (first | exact id | exact ih _ _ _ _ _ _ _ _ _ _ | exact hK6 _ _ _ _ _ _ _ _ | exact hpost _ _ | refine mn_wbX12_sumOf_97 (fun _ _ _ _ _ _ _ _ _ _ => ?_) (fun _ _ => ?_) | refine And.imp ?_ ?_ | refine forall_imp fun _ => ?_ | refine Exists.imp fun _ => ?_)
theorem mn_wbX12_sumOf_6 {post post' : Int32 → St → Prop} (hpost : ∀ x0 x1, post x0 x1 → post' x0 x1) : ∀ (n : Nat) (y0 : Int32) (y1 : Int32) (y2 : Int32) (y3 : Int32) (y4 : Int32) (y5 : Int32) (y6 : Int32) (y7 : St), wbX12_sumOf_6 post n y0 y1 y2 y3 y4 y5 y6 y7 → wbX12_sumOf_6 post' n y0 y1 y2 y3 y4 y5 y6 y7 := by
  intro n
  induction n with
  | zero => intro _ _ _ _ _ _ _ _ ; exact id
  | succ n ih =>
    intro _ _ _ _ _ _ _ _ 
    unfold wbX12_sumOf_6
    with_reducible repeat' (first | exact id | exact ih _ _ _ _ _ _ _ _ | exact hpost _ _ | refine mn_wbX12_sumOf_26 (fun _ _ _ _ _ _ _ _ _ _ => ?_) (fun _ _ => ?_) | refine mn_wbX12_sumOf_66 (fun _ _ _ _ _ _ _ _ => ?_) (fun _ _ => ?_) _ _ _ _ _ _ _ _ _ _ _ | refine And.imp ?_ ?_ | refine forall_imp fun _ => ?_ | refine Exists.imp fun _ => ?_)
theorem mn_wpX12_sumOf {a1 : Int32} {a2 : Int32} {a3 : Int32} {a4 : Int32} {a5 : Int32} {σ : St} {post post' : Int32 → St → Prop} (hpost : ∀ x0 x1, post x0 x1 → post' x0 x1) : wpX12_sumOf a1 a2 a3 a4 a5 σ post → wpX12_sumOf a1 a2 a3 a4 a5 σ post' := by
  unfold wpX12_sumOf
  with_reducible repeat' (first | exact id | exact hpost _ _ | refine mn_wbX12_sumOf_6 (fun _ _ => ?_) _ _ _ _ _ _ _ _ _ | refine And.imp ?_ ?_ | refine forall_imp fun _ => ?_ | refine Exists.imp fun _ => ?_)
theorem mn_wbX12_given_59 {post post' : Int32 → St → Prop} (hpost : ∀ x0 x1, post x0 x1 → post' x0 x1) {v1 : Int32} {v2 : Int32} {v3 : Int32} {v4 : Int32} {v5 : Int32} {σ : St} : wbX12_given_59 post v1 v2 v3 v4 v5 σ → wbX12_given_59 post' v1 v2 v3 v4 v5 σ := by
  unfold wbX12_given_59
  with_reducible repeat' (first | exact id | exact hpost _ _ | refine mn_wpX12_runsAll (fun _ => ?_) | refine mn_wpX12_sumOf (fun _ _ => ?_) | refine And.imp ?_ ?_ | refine forall_imp fun _ => ?_ | refine Exists.imp fun _ => ?_)
theorem mn_wpX12_given {a1 : Int32} {a2 : Int32} {a3 : Int32} {a4 : Int32} {a5 : Int32} {σ : St} {post post' : Int32 → St → Prop} (hpost : ∀ x0 x1, post x0 x1 → post' x0 x1) : wpX12_given a1 a2 a3 a4 a5 σ post → wpX12_given a1 a2 a3 a4 a5 σ post' := by
  unfold wpX12_given
  with_reducible repeat' (first | exact id | exact hpost _ _ | refine mn_wpX12_in (fun _ _ => ?_) | refine mn_wpX12_isPart (fun _ _ => ?_) | refine mn_wbX12_given_59 (fun _ _ => ?_) | refine mn_wpX12_isName (fun _ _ => ?_) | refine And.imp ?_ ?_ | refine forall_imp fun _ => ?_ | refine Exists.imp fun _ => ?_)
theorem mn_wbX12_unnamed_23 {post post' : Int32 → St → Prop} (hpost : ∀ x0 x1, post x0 x1 → post' x0 x1) : ∀ (n : Nat) (y0 : Int32) (y1 : Int32) (y2 : Int32) (y3 : St), wbX12_unnamed_23 post n y0 y1 y2 y3 → wbX12_unnamed_23 post' n y0 y1 y2 y3 := by
  intro n
  induction n with
  | zero => intro _ _ _ _ ; exact id
  | succ n ih =>
    intro _ _ _ _ 
    unfold wbX12_unnamed_23
    with_reducible repeat' (first | exact id | exact ih _ _ _ _ | exact hpost _ _ | refine And.imp ?_ ?_ | refine forall_imp fun _ => ?_ | refine Exists.imp fun _ => ?_)
theorem mn_wbX12_unnamed_15 {post post' : Int32 → St → Prop} (hpost : ∀ x0 x1, post x0 x1 → post' x0 x1) {v1 : Int32} {σ : St} : wbX12_unnamed_15 post v1 σ → wbX12_unnamed_15 post' v1 σ := by
  unfold wbX12_unnamed_15
  with_reducible repeat' (first | exact id | exact hpost _ _ | refine mn_wpX12_runsAll (fun _ => ?_) | refine mn_wbX12_unnamed_23 (fun _ _ => ?_) _ _ _ _ _ | refine And.imp ?_ ?_ | refine forall_imp fun _ => ?_ | refine Exists.imp fun _ => ?_)
theorem mn_wpX12_unnamed {a1 : Int32} {σ : St} {post post' : Int32 → St → Prop} (hpost : ∀ x0 x1, post x0 x1 → post' x0 x1) : wpX12_unnamed a1 σ post → wpX12_unnamed a1 σ post' := by
  unfold wpX12_unnamed
  with_reducible repeat' (first | exact id | exact hpost _ _ | refine mn_wbX12_unnamed_15 (fun _ _ => ?_) | refine mn_wpX12_isGone (fun _ _ => ?_) | refine And.imp ?_ ?_ | refine forall_imp fun _ => ?_ | refine Exists.imp fun _ => ?_)
theorem mn_wbX12_now_103 {post post' : Int32 → St → Prop} (hpost : ∀ x0 x1, post x0 x1 → post' x0 x1) {v1 : Int32} {v2 : Int32} {v3 : Int32} {v4 : Int32} {v5 : Int32} {σ : St} : wbX12_now_103 post v1 v2 v3 v4 v5 σ → wbX12_now_103 post' v1 v2 v3 v4 v5 σ := by
  unfold wbX12_now_103
  with_reducible repeat' (first | exact id | exact hpost _ _ | refine mn_wpX12_laysNow (fun _ => ?_) | refine mn_wpX12_words (fun _ => ?_) | refine mn_wpX12_may (fun _ _ => ?_) | refine mn_wpX12_worthOf (fun _ _ => ?_) | refine mn_wpX12_chooses (fun _ => ?_) | refine And.imp ?_ ?_ | refine forall_imp fun _ => ?_ | refine Exists.imp fun _ => ?_)
theorem mn_wbX12_now_82 {post post' : Int32 → St → Prop} (hpost : ∀ x0 x1, post x0 x1 → post' x0 x1) {v1 : Int32} {v2 : Int32} {v3 : Int32} {v4 : Int32} {s0 : Int32} {σ : St} : wbX12_now_82 post v1 v2 v3 v4 s0 σ → wbX12_now_82 post' v1 v2 v3 v4 s0 σ := by
  unfold wbX12_now_82
  with_reducible repeat' (first | exact id | exact hpost _ _ | refine mn_wpX12_in (fun _ _ => ?_) | refine mn_wbX12_now_103 (fun _ _ => ?_) | refine And.imp ?_ ?_ | refine forall_imp fun _ => ?_ | refine Exists.imp fun _ => ?_)
theorem mn_wpX12_now {a1 : Int32} {a2 : Int32} {a3 : Int32} {a4 : Int32} {σ : St} {post post' : Int32 → St → Prop} (hpost : ∀ x0 x1, post x0 x1 → post' x0 x1) : wpX12_now a1 a2 a3 a4 σ post → wpX12_now a1 a2 a3 a4 σ post' := by
  unfold wpX12_now
  with_reducible repeat' (first | exact id | exact hpost _ _ | refine mn_wpX12_isCradle (fun _ _ => ?_) | refine mn_wpX12_in (fun _ _ => ?_) | refine mn_wbX12_now_82 (fun _ _ => ?_) | refine And.imp ?_ ?_ | refine forall_imp fun _ => ?_ | refine Exists.imp fun _ => ?_)
theorem mn_wbX12_peak_4 {post post' : Int32 → St → Prop} (hpost : ∀ x0 x1, post x0 x1 → post' x0 x1) : ∀ (n : Nat) (y0 : Int32) (y1 : Int32) (y2 : Int32) (y3 : St), wbX12_peak_4 post n y0 y1 y2 y3 → wbX12_peak_4 post' n y0 y1 y2 y3 := by
  intro n
  induction n with
  | zero => intro _ _ _ _ ; exact id
  | succ n ih =>
    intro _ _ _ _ 
    unfold wbX12_peak_4
    with_reducible repeat' (first | exact id | exact ih _ _ _ _ | exact hpost _ _ | refine mn_wpX12_all (fun _ _ => ?_) | refine And.imp ?_ ?_ | refine forall_imp fun _ => ?_ | refine Exists.imp fun _ => ?_)
theorem mn_wpX12_peak {a1 : Int32} {σ : St} {post post' : Int32 → St → Prop} (hpost : ∀ x0 x1, post x0 x1 → post' x0 x1) : wpX12_peak a1 σ post → wpX12_peak a1 σ post' := by
  unfold wpX12_peak
  with_reducible repeat' (first | exact id | exact hpost _ _ | refine mn_wbX12_peak_4 (fun _ _ => ?_) _ _ _ _ _ | refine And.imp ?_ ?_ | refine forall_imp fun _ => ?_ | refine Exists.imp fun _ => ?_)
theorem mn_wbX12_slope_8 {post post' : Int32 → St → Prop} (hpost : ∀ x0 x1, post x0 x1 → post' x0 x1) : ∀ (n : Nat) (y0 : Int32) (y1 : Int32) (y2 : Int32) (y3 : Int32) (y4 : Int32) (y5 : St), wbX12_slope_8 post n y0 y1 y2 y3 y4 y5 → wbX12_slope_8 post' n y0 y1 y2 y3 y4 y5 := by
  intro n
  induction n with
  | zero => intro _ _ _ _ _ _ ; exact id
  | succ n ih =>
    intro _ _ _ _ _ _ 
    unfold wbX12_slope_8
    with_reducible repeat' (first | exact id | exact ih _ _ _ _ _ _ | exact hpost _ _ | refine mn_wpX12_all (fun _ _ => ?_) | refine And.imp ?_ ?_ | refine forall_imp fun _ => ?_ | refine Exists.imp fun _ => ?_)
theorem mn_wpX12_slope {a1 : Int32} {a2 : Int32} {a3 : Int32} {σ : St} {post post' : Int32 → St → Prop} (hpost : ∀ x0 x1, post x0 x1 → post' x0 x1) : wpX12_slope a1 a2 a3 σ post → wpX12_slope a1 a2 a3 σ post' := by
  unfold wpX12_slope
  with_reducible repeat' (first | exact id | exact hpost _ _ | refine mn_wbX12_slope_8 (fun _ _ => ?_) _ _ _ _ _ _ _ | refine And.imp ?_ ?_ | refine forall_imp fun _ => ?_ | refine Exists.imp fun _ => ?_)
theorem mn_wbX12_shape_69 {post post' : Int32 → St → Prop} (hpost : ∀ x0 x1, post x0 x1 → post' x0 x1) {s0 : Int32} {s1 : Int32} {s2 : Int32} {σ : St} : wbX12_shape_69 post s0 s1 s2 σ → wbX12_shape_69 post' s0 s1 s2 σ := by
  unfold wbX12_shape_69
  with_reducible repeat' (first | exact id | exact hpost _ _ | refine mn_wpX12_slope (fun _ _ => ?_) | refine And.imp ?_ ?_ | refine forall_imp fun _ => ?_ | refine Exists.imp fun _ => ?_)
theorem mn_wpX12_shape {a1 : Int32} {a2 : Int32} {σ : St} {post post' : Int32 → St → Prop} (hpost : ∀ x0 x1, post x0 x1 → post' x0 x1) : wpX12_shape a1 a2 σ post → wpX12_shape a1 a2 σ post' := by
  unfold wpX12_shape
  with_reducible repeat' (first | exact id | exact hpost _ _ | refine mn_wpX12_isName (fun _ _ => ?_) | refine mn_wpX12_in (fun _ _ => ?_) | refine mn_wpX12_runsAll (fun _ => ?_) | refine mn_wpX12_peak (fun _ _ => ?_) | refine mn_wbX12_shape_69 (fun _ _ => ?_) | refine mn_wpX12_all (fun _ _ => ?_) | refine And.imp ?_ ?_ | refine forall_imp fun _ => ?_ | refine Exists.imp fun _ => ?_)
theorem mn_wbX12_shapes_142 {K157 K157' : Int32 → Int32 → Int32 → Int32 → Int32 → Int32 → St → Prop} (hK157 : ∀ x0 x1 x2 x3 x4 x5 x6, K157 x0 x1 x2 x3 x4 x5 x6 → K157' x0 x1 x2 x3 x4 x5 x6) {post post' : Int32 → St → Prop} (hpost : ∀ x0 x1, post x0 x1 → post' x0 x1) {v1 : Int32} {v2 : Int32} {v3 : Int32} {v4 : Int32} {v7 : Int32} {v8 : Int32} {v9 : Int32} {σ : St} : wbX12_shapes_142 K157 post v1 v2 v3 v4 v7 v8 v9 σ → wbX12_shapes_142 K157' post' v1 v2 v3 v4 v7 v8 v9 σ := by
  unfold wbX12_shapes_142
  with_reducible repeat' (first | exact id | exact hK157 _ _ _ _ _ _ _ | exact hpost _ _ | refine And.imp ?_ ?_ | refine forall_imp fun _ => ?_ | refine Exists.imp fun _ => ?_)
theorem mn_wbX12_shapes_157 {K32 K32' : Int32 → Int32 → Int32 → Int32 → St → Prop} (hK32 : ∀ x0 x1 x2 x3 x4, K32 x0 x1 x2 x3 x4 → K32' x0 x1 x2 x3 x4) {post post' : Int32 → St → Prop} (hpost : ∀ x0 x1, post x0 x1 → post' x0 x1) {v1 : Int32} {v2 : Int32} {v3 : Int32} {v4 : Int32} {v9 : Int32} {s0 : Int32} {σ : St} : wbX12_shapes_157 K32 post v1 v2 v3 v4 v9 s0 σ → wbX12_shapes_157 K32' post' v1 v2 v3 v4 v9 s0 σ := by
  unfold wbX12_shapes_157
  with_reducible repeat' (first | exact id | exact hK32 _ _ _ _ _ | exact hpost _ _ | refine And.imp ?_ ?_ | refine forall_imp fun _ => ?_ | refine Exists.imp fun _ => ?_)
theorem mn_wbX12_shapes_115 {K130 K130' : Int32 → Int32 → Int32 → Int32 → Int32 → Int32 → Int32 → St → Prop} (hK130 : ∀ x0 x1 x2 x3 x4 x5 x6 x7, K130 x0 x1 x2 x3 x4 x5 x6 x7 → K130' x0 x1 x2 x3 x4 x5 x6 x7) {post post' : Int32 → St → Prop} (hpost : ∀ x0 x1, post x0 x1 → post' x0 x1) {v1 : Int32} {v2 : Int32} {v3 : Int32} {v4 : Int32} {v7 : Int32} {v8 : Int32} {σ : St} : wbX12_shapes_115 K130 post v1 v2 v3 v4 v7 v8 σ → wbX12_shapes_115 K130' post' v1 v2 v3 v4 v7 v8 σ := by
  unfold wbX12_shapes_115
  with_reducible repeat' (first | exact id | exact hK130 _ _ _ _ _ _ _ _ | exact hpost _ _ | refine And.imp ?_ ?_ | refine forall_imp fun _ => ?_ | refine Exists.imp fun _ => ?_)
theorem mn_wbX12_shapes_130 {K32 K32' : Int32 → Int32 → Int32 → Int32 → St → Prop} (hK32 : ∀ x0 x1 x2 x3 x4, K32 x0 x1 x2 x3 x4 → K32' x0 x1 x2 x3 x4) {post post' : Int32 → St → Prop} (hpost : ∀ x0 x1, post x0 x1 → post' x0 x1) {v1 : Int32} {v2 : Int32} {v3 : Int32} {v4 : Int32} {v7 : Int32} {v8 : Int32} {s0 : Int32} {σ : St} : wbX12_shapes_130 K32 post v1 v2 v3 v4 v7 v8 s0 σ → wbX12_shapes_130 K32' post' v1 v2 v3 v4 v7 v8 s0 σ := by
  unfold wbX12_shapes_130
  with_reducible repeat' (first | exact id | exact hK32 _ _ _ _ _ | exact hpost _ _ | refine mn_wbX12_shapes_142 (fun _ _ _ _ _ _ _ => ?_) (fun _ _ => ?_) | refine mn_wbX12_shapes_157 (fun _ _ _ _ _ => ?_) (fun _ _ => ?_) | refine And.imp ?_ ?_ | refine forall_imp fun _ => ?_ | refine Exists.imp fun _ => ?_)
theorem mn_wbX12_shapes_32 {K19 K19' : Int32 → Int32 → Int32 → St → Prop} (hK19 : ∀ x0 x1 x2 x3, K19 x0 x1 x2 x3 → K19' x0 x1 x2 x3) {post post' : Int32 → St → Prop} (hpost : ∀ x0 x1, post x0 x1 → post' x0 x1) : ∀ (n : Nat) (y0 : Int32) (y1 : Int32) (y2 : Int32) (y3 : Int32) (y4 : St), wbX12_shapes_32 K19 post n y0 y1 y2 y3 y4 → wbX12_shapes_32 K19' post' n y0 y1 y2 y3 y4 := by
  intro n
  induction n with
  | zero => intro _ _ _ _ _ ; exact id
  | succ n ih =>
    intro _ _ _ _ _ 
    unfold wbX12_shapes_32
    with_reducible repeat' (first | exact id | exact ih _ _ _ _ _ | exact hK19 _ _ _ _ | exact hpost _ _ | refine mn_wpX12_peak (fun _ _ => ?_) | refine mn_wpX12_slope (fun _ _ => ?_) | refine mn_wbX12_shapes_115 (fun _ _ _ _ _ _ _ _ => ?_) (fun _ _ => ?_) | refine mn_wbX12_shapes_130 (fun _ _ _ _ _ => ?_) (fun _ _ => ?_) | refine And.imp ?_ ?_ | refine forall_imp fun _ => ?_ | refine Exists.imp fun _ => ?_)
theorem mn_wbX12_shapes_19 {post post' : Int32 → St → Prop} (hpost : ∀ x0 x1, post x0 x1 → post' x0 x1) : ∀ (n : Nat) (y0 : Int32) (y1 : Int32) (y2 : Int32) (y3 : St), wbX12_shapes_19 post n y0 y1 y2 y3 → wbX12_shapes_19 post' n y0 y1 y2 y3 := by
  intro n
  induction n with
  | zero => intro _ _ _ _ ; exact id
  | succ n ih =>
    intro _ _ _ _ 
    unfold wbX12_shapes_19
    with_reducible repeat' (first | exact id | exact ih _ _ _ _ | exact hpost _ _ | refine mn_wbX12_shapes_32 (fun _ _ _ _ => ?_) (fun _ _ => ?_) _ _ _ _ _ _ | refine And.imp ?_ ?_ | refine forall_imp fun _ => ?_ | refine Exists.imp fun _ => ?_)
theorem mn_wpX12_shapes {a1 : Int32} {σ : St} {post post' : Int32 → St → Prop} (hpost : ∀ x0 x1, post x0 x1 → post' x0 x1) : wpX12_shapes a1 σ post → wpX12_shapes a1 σ post' := by
  unfold wpX12_shapes
  with_reducible repeat' (first | exact id | exact hpost _ _ | refine mn_wpX12_in (fun _ _ => ?_) | refine mn_wpX12_runsAll (fun _ => ?_) | refine mn_wbX12_shapes_19 (fun _ _ => ?_) _ _ _ _ _ | refine And.imp ?_ ?_ | refine forall_imp fun _ => ?_ | refine Exists.imp fun _ => ?_)
theorem mn_wbX12_thousandths_6 {post post' : Int32 → St → Prop} (hpost : ∀ x0 x1, post x0 x1 → post' x0 x1) : ∀ (n : Nat) (y0 : Int32) (y1 : Int32) (y2 : Int32) (y3 : Int32) (y4 : Int32) (y5 : St), wbX12_thousandths_6 post n y0 y1 y2 y3 y4 y5 → wbX12_thousandths_6 post' n y0 y1 y2 y3 y4 y5 := by
  intro n
  induction n with
  | zero => intro _ _ _ _ _ _ ; exact id
  | succ n ih =>
    intro _ _ _ _ _ _ 
    unfold wbX12_thousandths_6
    with_reducible repeat' (first | exact id | exact ih _ _ _ _ _ _ | exact hpost _ _ | refine And.imp ?_ ?_ | refine forall_imp fun _ => ?_ | refine Exists.imp fun _ => ?_)
theorem mn_wpX12_thousandths {a1 : Int32} {a2 : Int32} {a3 : Int32} {σ : St} {post post' : Int32 → St → Prop} (hpost : ∀ x0 x1, post x0 x1 → post' x0 x1) : wpX12_thousandths a1 a2 a3 σ post → wpX12_thousandths a1 a2 a3 σ post' := by
  unfold wpX12_thousandths
  with_reducible repeat' (first | exact id | exact hpost _ _ | refine mn_wbX12_thousandths_6 (fun _ _ => ?_) _ _ _ _ _ _ _ | refine And.imp ?_ ?_ | refine forall_imp fun _ => ?_ | refine Exists.imp fun _ => ?_)
theorem mn_wbX12_lagOf_29 {K20 K20' : Int32 → Int32 → Int32 → Int32 → St → Prop} (hK20 : ∀ x0 x1 x2 x3 x4, K20 x0 x1 x2 x3 x4 → K20' x0 x1 x2 x3 x4) {post post' : Int32 → St → Prop} (hpost : ∀ x0 x1, post x0 x1 → post' x0 x1) : ∀ (n : Nat) (y0 : Int32) (y1 : Int32) (y2 : Int32) (y3 : Int32) (y4 : Int32) (y5 : St), wbX12_lagOf_29 K20 post n y0 y1 y2 y3 y4 y5 → wbX12_lagOf_29 K20' post' n y0 y1 y2 y3 y4 y5 := by
  intro n
  induction n with
  | zero => intro _ _ _ _ _ _ ; exact id
  | succ n ih =>
    intro _ _ _ _ _ _ 
    unfold wbX12_lagOf_29
    with_reducible repeat' (first | exact id | exact ih _ _ _ _ _ _ | exact hK20 _ _ _ _ _ | exact hpost _ _ | refine mn_wpX12_thousandths (fun _ _ => ?_) | refine mn_wpX12_away (fun _ _ => ?_) | refine And.imp ?_ ?_ | refine forall_imp fun _ => ?_ | refine Exists.imp fun _ => ?_)
theorem mn_wbX12_lagOf_20 {post post' : Int32 → St → Prop} (hpost : ∀ x0 x1, post x0 x1 → post' x0 x1) : ∀ (n : Nat) (y0 : Int32) (y1 : Int32) (y2 : Int32) (y3 : Int32) (y4 : St), wbX12_lagOf_20 post n y0 y1 y2 y3 y4 → wbX12_lagOf_20 post' n y0 y1 y2 y3 y4 := by
  intro n
  induction n with
  | zero => intro _ _ _ _ _ ; exact id
  | succ n ih =>
    intro _ _ _ _ _ 
    unfold wbX12_lagOf_20
    with_reducible repeat' (first | exact id | exact ih _ _ _ _ _ | exact hpost _ _ | refine mn_wbX12_lagOf_29 (fun _ _ _ _ _ => ?_) (fun _ _ => ?_) _ _ _ _ _ _ _ | refine And.imp ?_ ?_ | refine forall_imp fun _ => ?_ | refine Exists.imp fun _ => ?_)
theorem mn_wpX12_lagOf {a1 : Int32} {σ : St} {post post' : Int32 → St → Prop} (hpost : ∀ x0 x1, post x0 x1 → post' x0 x1) : wpX12_lagOf a1 σ post → wpX12_lagOf a1 σ post' := by
  unfold wpX12_lagOf
  with_reducible repeat' (first | exact id | exact hpost _ _ | refine mn_wbX12_lagOf_20 (fun _ _ => ?_) _ _ _ _ _ _ | refine And.imp ?_ ?_ | refine forall_imp fun _ => ?_ | refine Exists.imp fun _ => ?_)
theorem mn_wbX12_lag_54 {post post' : Int32 → St → Prop} (hpost : ∀ x0 x1, post x0 x1 → post' x0 x1) : ∀ (n : Nat) (y0 : Int32) (y1 : Int32) (y2 : Int32) (y3 : St), wbX12_lag_54 post n y0 y1 y2 y3 → wbX12_lag_54 post' n y0 y1 y2 y3 := by
  intro n
  induction n with
  | zero => intro _ _ _ _ ; exact id
  | succ n ih =>
    intro _ _ _ _ 
    unfold wbX12_lag_54
    with_reducible repeat' (first | exact id | exact ih _ _ _ _ | exact hpost _ _ | refine mn_wpX12_lagOf (fun _ _ => ?_) | refine And.imp ?_ ?_ | refine forall_imp fun _ => ?_ | refine Exists.imp fun _ => ?_)
theorem mn_wbX12_lag_31 {post post' : Int32 → St → Prop} (hpost : ∀ x0 x1, post x0 x1 → post' x0 x1) {v1 : Int32} {σ : St} : wbX12_lag_31 post v1 σ → wbX12_lag_31 post' v1 σ := by
  unfold wbX12_lag_31
  with_reducible repeat' (first | exact id | exact hpost _ _ | refine mn_wpX12_runsAll (fun _ => ?_) | refine mn_wbX12_lag_54 (fun _ _ => ?_) _ _ _ _ _ | refine mn_wpX12_lagOf (fun _ _ => ?_) | refine And.imp ?_ ?_ | refine forall_imp fun _ => ?_ | refine Exists.imp fun _ => ?_)
theorem mn_wpX12_lag {a1 : Int32} {σ : St} {post post' : Int32 → St → Prop} (hpost : ∀ x0 x1, post x0 x1 → post' x0 x1) : wpX12_lag a1 σ post → wpX12_lag a1 σ post' := by
  unfold wpX12_lag
  with_reducible repeat' (first | exact id | exact hpost _ _ | refine mn_wpX12_in (fun _ _ => ?_) | refine mn_wbX12_lag_31 (fun _ _ => ?_) | refine And.imp ?_ ?_ | refine forall_imp fun _ => ?_ | refine Exists.imp fun _ => ?_)
theorem mn_wbX12_together_27 {post post' : Int32 → St → Prop} (hpost : ∀ x0 x1, post x0 x1 → post' x0 x1) : ∀ (n : Nat) (y0 : Int32) (y1 : Int32) (y2 : Int32) (y3 : Int32) (y4 : St), wbX12_together_27 post n y0 y1 y2 y3 y4 → wbX12_together_27 post' n y0 y1 y2 y3 y4 := by
  intro n
  induction n with
  | zero => intro _ _ _ _ _ ; exact id
  | succ n ih =>
    intro _ _ _ _ _ 
    unfold wbX12_together_27
    with_reducible repeat' (first | exact id | exact ih _ _ _ _ _ | exact hpost _ _ | refine mn_wpX12_ending (fun _ _ => ?_) | refine mn_wpX12_all (fun _ _ => ?_) | refine And.imp ?_ ?_ | refine forall_imp fun _ => ?_ | refine Exists.imp fun _ => ?_)
theorem mn_wpX12_together {a1 : Int32} {a2 : Int32} {σ : St} {post post' : Int32 → St → Prop} (hpost : ∀ x0 x1, post x0 x1 → post' x0 x1) : wpX12_together a1 a2 σ post → wpX12_together a1 a2 σ post' := by
  unfold wpX12_together
  with_reducible repeat' (first | exact id | exact hpost _ _ | refine mn_wpX12_isName (fun _ _ => ?_) | refine mn_wpX12_isGone (fun _ _ => ?_) | refine mn_wpX12_runsAll (fun _ => ?_) | refine mn_wbX12_together_27 (fun _ _ => ?_) _ _ _ _ _ _ | refine And.imp ?_ ?_ | refine forall_imp fun _ => ?_ | refine Exists.imp fun _ => ?_)
theorem mn_wpX12_took {a1 : Int32} {a2 : Int32} {a3 : Int32} {σ : St} {post post' : Int32 → St → Prop} (hpost : ∀ x0 x1, post x0 x1 → post' x0 x1) : wpX12_took a1 a2 a3 σ post → wpX12_took a1 a2 a3 σ post' := by
  unfold wpX12_took
  with_reducible repeat' (first | exact id | exact hpost _ _ | refine mn_wpX12_in (fun _ _ => ?_) | refine mn_wpX12_isName (fun _ _ => ?_) | refine mn_wpX12_isGone (fun _ _ => ?_) | refine mn_wpX12_runsAll (fun _ => ?_) | refine mn_wpX12_all (fun _ _ => ?_) | refine mn_wpX12_runs (fun _ => ?_) | refine And.imp ?_ ?_ | refine forall_imp fun _ => ?_ | refine Exists.imp fun _ => ?_)
theorem mn_wpX12_sound {a1 : Int32} {a2 : Int32} {σ : St} {post post' : Int32 → St → Prop} (hpost : ∀ x0 x1, post x0 x1 → post' x0 x1) : wpX12_sound a1 a2 σ post → wpX12_sound a1 a2 σ post' := by
  unfold wpX12_sound
  with_reducible repeat' (first | exact id | exact hpost _ _ | refine mn_wpX12_isName (fun _ _ => ?_) | refine mn_wpX12_isGone (fun _ _ => ?_) | refine mn_wpX12_runsAll (fun _ => ?_) | refine mn_wpX12_all (fun _ _ => ?_) | refine mn_wpX12_runs (fun _ => ?_) | refine And.imp ?_ ?_ | refine forall_imp fun _ => ?_ | refine Exists.imp fun _ => ?_)
theorem mn_wpX12_ofSex {a1 : Int32} {a2 : Int32} {a3 : Int32} {σ : St} {post post' : Int32 → St → Prop} (hpost : ∀ x0 x1, post x0 x1 → post' x0 x1) : wpX12_ofSex a1 a2 a3 σ post → wpX12_ofSex a1 a2 a3 σ post' := by
  unfold wpX12_ofSex
  with_reducible repeat' (first | exact id | exact hpost _ _ | refine And.imp ?_ ?_ | refine forall_imp fun _ => ?_ | refine Exists.imp fun _ => ?_)
theorem mn_wbX12_crossed_126 {K35 K35' : Int32 → Int32 → Int32 → Int32 → Int32 → Int32 → St → Prop} (hK35 : ∀ x0 x1 x2 x3 x4 x5 x6, K35 x0 x1 x2 x3 x4 x5 x6 → K35' x0 x1 x2 x3 x4 x5 x6) {post post' : Int32 → St → Prop} (hpost : ∀ x0 x1, post x0 x1 → post' x0 x1) {v1 : Int32} {v2 : Int32} {v3 : Int32} {v4 : Int32} {v5 : Int32} {v6 : Int32} {v7 : Int32} {σ : St} : wbX12_crossed_126 K35 post v1 v2 v3 v4 v5 v6 v7 σ → wbX12_crossed_126 K35' post' v1 v2 v3 v4 v5 v6 v7 σ := by
  unfold wbX12_crossed_126
  with_reducible repeat' (first | exact id | exact hK35 _ _ _ _ _ _ _ | exact hpost _ _ | refine And.imp ?_ ?_ | refine forall_imp fun _ => ?_ | refine Exists.imp fun _ => ?_)
theorem mn_wbX12_crossed_70 {K35 K35' : Int32 → Int32 → Int32 → Int32 → Int32 → Int32 → St → Prop} (hK35 : ∀ x0 x1 x2 x3 x4 x5 x6, K35 x0 x1 x2 x3 x4 x5 x6 → K35' x0 x1 x2 x3 x4 x5 x6) {post post' : Int32 → St → Prop} (hpost : ∀ x0 x1, post x0 x1 → post' x0 x1) {v1 : Int32} {v2 : Int32} {v3 : Int32} {v4 : Int32} {v5 : Int32} {v6 : Int32} {s0 : Int32} {σ : St} : wbX12_crossed_70 K35 post v1 v2 v3 v4 v5 v6 s0 σ → wbX12_crossed_70 K35' post' v1 v2 v3 v4 v5 v6 s0 σ := by
  unfold wbX12_crossed_70
  with_reducible repeat' (first | exact id | exact hK35 _ _ _ _ _ _ _ | exact hpost _ _ | refine mn_wbX12_crossed_126 (fun _ _ _ _ _ _ _ => ?_) (fun _ _ => ?_) | refine mn_wpX12_all (fun _ _ => ?_) | refine And.imp ?_ ?_ | refine forall_imp fun _ => ?_ | refine Exists.imp fun _ => ?_)
theorem mn_wbX12_crossed_35 {post post' : Int32 → St → Prop} (hpost : ∀ x0 x1, post x0 x1 → post' x0 x1) : ∀ (n : Nat) (y0 : Int32) (y1 : Int32) (y2 : Int32) (y3 : Int32) (y4 : Int32) (y5 : Int32) (y6 : St), wbX12_crossed_35 post n y0 y1 y2 y3 y4 y5 y6 → wbX12_crossed_35 post' n y0 y1 y2 y3 y4 y5 y6 := by
  intro n
  induction n with
  | zero => intro _ _ _ _ _ _ _ ; exact id
  | succ n ih =>
    intro _ _ _ _ _ _ _ 
    unfold wbX12_crossed_35
    with_reducible repeat' (first | exact id | exact ih _ _ _ _ _ _ _ | exact hpost _ _ | refine mn_wpX12_ofSex (fun _ _ => ?_) | refine mn_wbX12_crossed_70 (fun _ _ _ _ _ _ _ => ?_) (fun _ _ => ?_) | refine And.imp ?_ ?_ | refine forall_imp fun _ => ?_ | refine Exists.imp fun _ => ?_)
theorem mn_wpX12_crossed {a1 : Int32} {a2 : Int32} {σ : St} {post post' : Int32 → St → Prop} (hpost : ∀ x0 x1, post x0 x1 → post' x0 x1) : wpX12_crossed a1 a2 σ post → wpX12_crossed a1 a2 σ post' := by
  unfold wpX12_crossed
  with_reducible repeat' (first | exact id | exact hpost _ _ | refine mn_wpX12_isName (fun _ _ => ?_) | refine mn_wpX12_in (fun _ _ => ?_) | refine mn_wpX12_runsAll (fun _ => ?_) | refine mn_wbX12_crossed_35 (fun _ _ => ?_) _ _ _ _ _ _ _ _ | refine And.imp ?_ ?_ | refine forall_imp fun _ => ?_ | refine Exists.imp fun _ => ?_)
theorem mn_wbX12_returned_41 {post post' : Int32 → St → Prop} (hpost : ∀ x0 x1, post x0 x1 → post' x0 x1) : ∀ (n : Nat) (y0 : Int32) (y1 : Int32) (y2 : Int32) (y3 : Int32) (y4 : Int32) (y5 : St), wbX12_returned_41 post n y0 y1 y2 y3 y4 y5 → wbX12_returned_41 post' n y0 y1 y2 y3 y4 y5 := by
  intro n
  induction n with
  | zero => intro _ _ _ _ _ _ ; exact id
  | succ n ih =>
    intro _ _ _ _ _ _ 
    unfold wbX12_returned_41
    with_reducible repeat' (first | exact id | exact ih _ _ _ _ _ _ | exact hpost _ _ | refine mn_wpX12_all (fun _ _ => ?_) | refine mn_wpX12_living (fun _ _ => ?_) | refine And.imp ?_ ?_ | refine forall_imp fun _ => ?_ | refine Exists.imp fun _ => ?_)
theorem mn_wpX12_returned {a1 : Int32} {a2 : Int32} {a3 : Int32} {σ : St} {post post' : Int32 → St → Prop} (hpost : ∀ x0 x1, post x0 x1 → post' x0 x1) : wpX12_returned a1 a2 a3 σ post → wpX12_returned a1 a2 a3 σ post' := by
  unfold wpX12_returned
  with_reducible repeat' (first | exact id | exact hpost _ _ | refine mn_wpX12_isName (fun _ _ => ?_) | refine mn_wpX12_in (fun _ _ => ?_) | refine mn_wpX12_runsAll (fun _ => ?_) | refine mn_wbX12_returned_41 (fun _ _ => ?_) _ _ _ _ _ _ _ | refine And.imp ?_ ?_ | refine forall_imp fun _ => ?_ | refine Exists.imp fun _ => ?_)
theorem mn_wbX12_isApart_21 {K4 K4' : Int32 → Int32 → Int32 → St → Prop} (hK4 : ∀ x0 x1 x2 x3, K4 x0 x1 x2 x3 → K4' x0 x1 x2 x3) {post post' : Int32 → St → Prop} (hpost : ∀ x0 x1, post x0 x1 → post' x0 x1) : ∀ (n : Nat) (y0 : Int32) (y1 : Int32) (y2 : Int32) (y3 : Int32) (y4 : St), wbX12_isApart_21 K4 post n y0 y1 y2 y3 y4 → wbX12_isApart_21 K4' post' n y0 y1 y2 y3 y4 := by
  intro n
  induction n with
  | zero => intro _ _ _ _ _ ; exact id
  | succ n ih =>
    intro _ _ _ _ _ 
    unfold wbX12_isApart_21
    with_reducible repeat' (first | exact id | exact ih _ _ _ _ _ | exact hK4 _ _ _ _ | exact hpost _ _ | refine mn_wpX12_areAlike (fun _ _ => ?_) | refine And.imp ?_ ?_ | refine forall_imp fun _ => ?_ | refine Exists.imp fun _ => ?_)
theorem mn_wbX12_isApart_4 {post post' : Int32 → St → Prop} (hpost : ∀ x0 x1, post x0 x1 → post' x0 x1) : ∀ (n : Nat) (y0 : Int32) (y1 : Int32) (y2 : Int32) (y3 : St), wbX12_isApart_4 post n y0 y1 y2 y3 → wbX12_isApart_4 post' n y0 y1 y2 y3 := by
  intro n
  induction n with
  | zero => intro _ _ _ _ ; exact id
  | succ n ih =>
    intro _ _ _ _ 
    unfold wbX12_isApart_4
    with_reducible repeat' (first | exact id | exact ih _ _ _ _ | exact hpost _ _ | refine mn_wbX12_isApart_21 (fun _ _ _ _ => ?_) (fun _ _ => ?_) _ _ _ _ _ _ | refine And.imp ?_ ?_ | refine forall_imp fun _ => ?_ | refine Exists.imp fun _ => ?_)
theorem mn_wpX12_isApart {a1 : Int32} {σ : St} {post post' : Int32 → St → Prop} (hpost : ∀ x0 x1, post x0 x1 → post' x0 x1) : wpX12_isApart a1 σ post → wpX12_isApart a1 σ post' := by
  unfold wpX12_isApart
  with_reducible repeat' (first | exact id | exact hpost _ _ | refine mn_wbX12_isApart_4 (fun _ _ => ?_) _ _ _ _ _ | refine And.imp ?_ ?_ | refine forall_imp fun _ => ?_ | refine Exists.imp fun _ => ?_)
theorem mn_wbX12_apart_77 {K13 K13' : Int32 → Int32 → Int64 → Int32 → Int32 → St → Prop} (hK13 : ∀ x0 x1 x2 x3 x4 x5, K13 x0 x1 x2 x3 x4 x5 → K13' x0 x1 x2 x3 x4 x5) {post post' : Int64 → St → Prop} (hpost : ∀ x0 x1, post x0 x1 → post' x0 x1) {v1 : Int32} {v2 : Int32} {v3 : Int64} {v5 : Int32} {v6 : Int32} {v7 : Int64} {v9 : Int32} {σ : St} : wbX12_apart_77 K13 post v1 v2 v3 v5 v6 v7 v9 σ → wbX12_apart_77 K13' post' v1 v2 v3 v5 v6 v7 v9 σ := by
  unfold wbX12_apart_77
  with_reducible repeat' (first | exact id | exact hK13 _ _ _ _ _ _ | exact hpost _ _ | refine mn_wpX12_isApart (fun _ _ => ?_) | refine And.imp ?_ ?_ | refine forall_imp fun _ => ?_ | refine Exists.imp fun _ => ?_)
theorem mn_wbX12_apart_31 {K13 K13' : Int32 → Int32 → Int64 → Int32 → Int32 → St → Prop} (hK13 : ∀ x0 x1 x2 x3 x4 x5, K13 x0 x1 x2 x3 x4 x5 → K13' x0 x1 x2 x3 x4 x5) {post post' : Int64 → St → Prop} (hpost : ∀ x0 x1, post x0 x1 → post' x0 x1) : ∀ (n : Nat) (y0 : Int32) (y1 : Int32) (y2 : Int64) (y3 : Int32) (y4 : Int32) (y5 : Int64) (y6 : Int32) (y7 : Int32) (y8 : St), wbX12_apart_31 K13 post n y0 y1 y2 y3 y4 y5 y6 y7 y8 → wbX12_apart_31 K13' post' n y0 y1 y2 y3 y4 y5 y6 y7 y8 := by
  intro n
  induction n with
  | zero => intro _ _ _ _ _ _ _ _ _ ; exact id
  | succ n ih =>
    intro _ _ _ _ _ _ _ _ _ 
    unfold wbX12_apart_31
    with_reducible repeat' (first | exact id | exact ih _ _ _ _ _ _ _ _ _ | exact hK13 _ _ _ _ _ _ | exact hpost _ _ | refine mn_wbX12_apart_77 (fun _ _ _ _ _ _ => ?_) (fun _ _ => ?_) | refine And.imp ?_ ?_ | refine forall_imp fun _ => ?_ | refine Exists.imp fun _ => ?_)
theorem mn_wbX12_apart_13 {post post' : Int64 → St → Prop} (hpost : ∀ x0 x1, post x0 x1 → post' x0 x1) : ∀ (n : Nat) (y0 : Int32) (y1 : Int32) (y2 : Int64) (y3 : Int32) (y4 : Int32) (y5 : St), wbX12_apart_13 post n y0 y1 y2 y3 y4 y5 → wbX12_apart_13 post' n y0 y1 y2 y3 y4 y5 := by
  intro n
  induction n with
  | zero => intro _ _ _ _ _ _ ; exact id
  | succ n ih =>
    intro _ _ _ _ _ _ 
    unfold wbX12_apart_13
    with_reducible repeat' (first | exact id | exact ih _ _ _ _ _ _ | exact hpost _ _ | refine mn_wbX12_apart_31 (fun _ _ _ _ _ _ => ?_) (fun _ _ => ?_) _ _ _ _ _ _ _ _ _ _ | refine And.imp ?_ ?_ | refine forall_imp fun _ => ?_ | refine Exists.imp fun _ => ?_)
theorem mn_wpX12_apart {a1 : Int32} {a2 : Int32} {σ : St} {post post' : Int64 → St → Prop} (hpost : ∀ x0 x1, post x0 x1 → post' x0 x1) : wpX12_apart a1 a2 σ post → wpX12_apart a1 a2 σ post' := by
  unfold wpX12_apart
  with_reducible repeat' (first | exact id | exact hpost _ _ | refine mn_wbX12_apart_13 (fun _ _ => ?_) _ _ _ _ _ _ _ | refine And.imp ?_ ?_ | refine forall_imp fun _ => ?_ | refine Exists.imp fun _ => ?_)
theorem mn_wbX12_room_109 {post post' : Int32 → St → Prop} (hpost : ∀ x0 x1, post x0 x1 → post' x0 x1) : ∀ (n : Nat) (y0 : Int32) (y1 : Int32) (y2 : Int32) (y3 : Int64) (y4 : Int32) (y5 : St), wbX12_room_109 post n y0 y1 y2 y3 y4 y5 → wbX12_room_109 post' n y0 y1 y2 y3 y4 y5 := by
  intro n
  induction n with
  | zero => intro _ _ _ _ _ _ ; exact id
  | succ n ih =>
    intro _ _ _ _ _ _ 
    unfold wbX12_room_109
    with_reducible repeat' (first | exact id | exact ih _ _ _ _ _ _ | exact hpost _ _ | refine mn_wpX12_apart (fun _ _ => ?_) | refine And.imp ?_ ?_ | refine forall_imp fun _ => ?_ | refine Exists.imp fun _ => ?_)
theorem mn_wbX12_room_39 {post post' : Int32 → St → Prop} (hpost : ∀ x0 x1, post x0 x1 → post' x0 x1) : ∀ (n : Nat) (y0 : Int32) (y1 : Int32) (y2 : Int32) (y3 : Int32) (y4 : Int32) (y5 : Int32) (y6 : St), wbX12_room_39 post n y0 y1 y2 y3 y4 y5 y6 → wbX12_room_39 post' n y0 y1 y2 y3 y4 y5 y6 := by
  intro n
  induction n with
  | zero => intro _ _ _ _ _ _ _ ; exact id
  | succ n ih =>
    intro _ _ _ _ _ _ _ 
    unfold wbX12_room_39
    with_reducible repeat' (first | exact id | exact ih _ _ _ _ _ _ _ | exact hpost _ _ | refine mn_wbX12_room_109 (fun _ _ => ?_) _ _ _ _ _ _ _ | refine And.imp ?_ ?_ | refine forall_imp fun _ => ?_ | refine Exists.imp fun _ => ?_)
theorem mn_wpX12_room {a1 : Int32} {a2 : Int32} {a3 : Int32} {a4 : Int32} {σ : St} {post post' : Int32 → St → Prop} (hpost : ∀ x0 x1, post x0 x1 → post' x0 x1) : wpX12_room a1 a2 a3 a4 σ post → wpX12_room a1 a2 a3 a4 σ post' := by
  unfold wpX12_room
  with_reducible repeat' (first | exact id | exact hpost _ _ | refine mn_wpX12_in (fun _ _ => ?_) | refine mn_wpX12_isGone (fun _ _ => ?_) | refine mn_wpX12_runsAll (fun _ => ?_) | refine mn_wbX12_room_39 (fun _ _ => ?_) _ _ _ _ _ _ _ _ | refine And.imp ?_ ?_ | refine forall_imp fun _ => ?_ | refine Exists.imp fun _ => ?_)
theorem mn_wbX12_best_173 {K133 K133' : Int32 → Int32 → Int32 → Int32 → Int32 → Int32 → Int64 → Int32 → Int64 → Int32 → Int32 → St → Prop} (hK133 : ∀ x0 x1 x2 x3 x4 x5 x6 x7 x8 x9 x10 x11, K133 x0 x1 x2 x3 x4 x5 x6 x7 x8 x9 x10 x11 → K133' x0 x1 x2 x3 x4 x5 x6 x7 x8 x9 x10 x11) {post post' : Int32 → St → Prop} (hpost : ∀ x0 x1, post x0 x1 → post' x0 x1) {v1 : Int32} {v2 : Int32} {v3 : Int32} {v4 : Int32} {v5 : Int32} {v6 : Int32} {v7 : Int64} {v9 : Int32} {v10 : Int64} {v13 : Int32} {s0 : Int32} {σ : St} : wbX12_best_173 K133 post v1 v2 v3 v4 v5 v6 v7 v9 v10 v13 s0 σ → wbX12_best_173 K133' post' v1 v2 v3 v4 v5 v6 v7 v9 v10 v13 s0 σ := by
  unfold wbX12_best_173
  with_reducible repeat' (first | exact id | exact hK133 _ _ _ _ _ _ _ _ _ _ _ _ | exact hpost _ _ | refine And.imp ?_ ?_ | refine forall_imp fun _ => ?_ | refine Exists.imp fun _ => ?_)
theorem mn_wbX12_best_239 {K70 K70' : Int32 → Int32 → Int32 → Int32 → Int32 → Int32 → Int64 → Int32 → St → Prop} (hK70 : ∀ x0 x1 x2 x3 x4 x5 x6 x7 x8, K70 x0 x1 x2 x3 x4 x5 x6 x7 x8 → K70' x0 x1 x2 x3 x4 x5 x6 x7 x8) {post post' : Int32 → St → Prop} (hpost : ∀ x0 x1, post x0 x1 → post' x0 x1) {v1 : Int32} {v2 : Int32} {v3 : Int32} {v4 : Int32} {v9 : Int32} {v10 : Int64} {v12 : Int32} {σ : St} : wbX12_best_239 K70 post v1 v2 v3 v4 v9 v10 v12 σ → wbX12_best_239 K70' post' v1 v2 v3 v4 v9 v10 v12 σ := by
  unfold wbX12_best_239
  with_reducible repeat' (first | exact id | exact hK70 _ _ _ _ _ _ _ _ _ | exact hpost _ _ | refine And.imp ?_ ?_ | refine forall_imp fun _ => ?_ | refine Exists.imp fun _ => ?_)
theorem mn_wbX12_best_133 {K70 K70' : Int32 → Int32 → Int32 → Int32 → Int32 → Int32 → Int64 → Int32 → St → Prop} (hK70 : ∀ x0 x1 x2 x3 x4 x5 x6 x7 x8, K70 x0 x1 x2 x3 x4 x5 x6 x7 x8 → K70' x0 x1 x2 x3 x4 x5 x6 x7 x8) {post post' : Int32 → St → Prop} (hpost : ∀ x0 x1, post x0 x1 → post' x0 x1) : ∀ (n : Nat) (y0 : Int32) (y1 : Int32) (y2 : Int32) (y3 : Int32) (y4 : Int32) (y5 : Int32) (y6 : Int64) (y7 : Int32) (y8 : Int64) (y9 : Int32) (y10 : Int32) (y11 : St), wbX12_best_133 K70 post n y0 y1 y2 y3 y4 y5 y6 y7 y8 y9 y10 y11 → wbX12_best_133 K70' post' n y0 y1 y2 y3 y4 y5 y6 y7 y8 y9 y10 y11 := by
  intro n
  induction n with
  | zero => intro _ _ _ _ _ _ _ _ _ _ _ _ ; exact id
  | succ n ih =>
    intro _ _ _ _ _ _ _ _ _ _ _ _ 
    unfold wbX12_best_133
    with_reducible repeat' (first | exact id | exact ih _ _ _ _ _ _ _ _ _ _ _ _ | exact hK70 _ _ _ _ _ _ _ _ _ | exact hpost _ _ | refine mn_wbX12_best_239 (fun _ _ _ _ _ _ _ _ _ => ?_) (fun _ _ => ?_) | refine mn_wbX12_best_173 (fun _ _ _ _ _ _ _ _ _ _ _ _ => ?_) (fun _ _ => ?_) | refine mn_wpX12_areAlike (fun _ _ => ?_) | refine And.imp ?_ ?_ | refine forall_imp fun _ => ?_ | refine Exists.imp fun _ => ?_)
theorem mn_wbX12_best_70 {post post' : Int32 → St → Prop} (hpost : ∀ x0 x1, post x0 x1 → post' x0 x1) : ∀ (n : Nat) (y0 : Int32) (y1 : Int32) (y2 : Int32) (y3 : Int32) (y4 : Int32) (y5 : Int32) (y6 : Int64) (y7 : Int32) (y8 : St), wbX12_best_70 post n y0 y1 y2 y3 y4 y5 y6 y7 y8 → wbX12_best_70 post' n y0 y1 y2 y3 y4 y5 y6 y7 y8 := by
  intro n
  induction n with
  | zero => intro _ _ _ _ _ _ _ _ _ ; exact id
  | succ n ih =>
    intro _ _ _ _ _ _ _ _ _ 
    unfold wbX12_best_70
    with_reducible repeat' (first | exact id | exact ih _ _ _ _ _ _ _ _ _ | exact hpost _ _ | refine mn_wpX12_words (fun _ => ?_) | refine mn_wpX12_may (fun _ _ => ?_) | refine mn_wpX12_worthOf (fun _ _ => ?_) | refine mn_wbX12_best_133 (fun _ _ _ _ _ _ _ _ _ => ?_) (fun _ _ => ?_) _ _ _ _ _ _ _ _ _ _ _ _ _ | refine And.imp ?_ ?_ | refine forall_imp fun _ => ?_ | refine Exists.imp fun _ => ?_)
theorem mn_wpX12_best {a1 : Int32} {a2 : Int32} {a3 : Int32} {a4 : Int32} {σ : St} {post post' : Int32 → St → Prop} (hpost : ∀ x0 x1, post x0 x1 → post' x0 x1) : wpX12_best a1 a2 a3 a4 σ post → wpX12_best a1 a2 a3 a4 σ post' := by
  unfold wpX12_best
  with_reducible repeat' (first | exact id | exact hpost _ _ | refine mn_wpX12_isCradle (fun _ _ => ?_) | refine mn_wpX12_in (fun _ _ => ?_) | refine mn_wpX12_laysNow (fun _ => ?_) | refine mn_wbX12_best_70 (fun _ _ => ?_) _ _ _ _ _ _ _ _ _ _ | refine And.imp ?_ ?_ | refine forall_imp fun _ => ?_ | refine Exists.imp fun _ => ?_)
theorem mn_wbX12_age_168 {K149 K149' : Int32 → Int32 → Int32 → Int32 → Int32 → Int32 → Int32 → Int32 → St → Prop} (hK149 : ∀ x0 x1 x2 x3 x4 x5 x6 x7 x8, K149 x0 x1 x2 x3 x4 x5 x6 x7 x8 → K149' x0 x1 x2 x3 x4 x5 x6 x7 x8) {post post' : Int32 → St → Prop} (hpost : ∀ x0 x1, post x0 x1 → post' x0 x1) : ∀ (n : Nat) (y0 : Int32) (y1 : Int32) (y2 : Int32) (y3 : Int32) (y4 : Int32) (y5 : Int32) (y6 : Int32) (y7 : Int32) (y8 : Int32) (y9 : Int32) (y10 : St), wbX12_age_168 K149 post n y0 y1 y2 y3 y4 y5 y6 y7 y8 y9 y10 → wbX12_age_168 K149' post' n y0 y1 y2 y3 y4 y5 y6 y7 y8 y9 y10 := by
  intro n
  induction n with
  | zero => intro _ _ _ _ _ _ _ _ _ _ _ ; exact id
  | succ n ih =>
    intro _ _ _ _ _ _ _ _ _ _ _ 
    unfold wbX12_age_168
    with_reducible repeat' (first | exact id | exact ih _ _ _ _ _ _ _ _ _ _ _ | exact hK149 _ _ _ _ _ _ _ _ _ | exact hpost _ _ | refine mn_wpX12_all (fun _ _ => ?_) | refine And.imp ?_ ?_ | refine forall_imp fun _ => ?_ | refine Exists.imp fun _ => ?_)
theorem mn_wbX12_age_149 {K133 K133' : Int32 → Int32 → Int32 → Int32 → Int32 → Int32 → Int32 → St → Prop} (hK133 : ∀ x0 x1 x2 x3 x4 x5 x6 x7, K133 x0 x1 x2 x3 x4 x5 x6 x7 → K133' x0 x1 x2 x3 x4 x5 x6 x7) {post post' : Int32 → St → Prop} (hpost : ∀ x0 x1, post x0 x1 → post' x0 x1) : ∀ (n : Nat) (y0 : Int32) (y1 : Int32) (y2 : Int32) (y3 : Int32) (y4 : Int32) (y5 : Int32) (y6 : Int32) (y7 : Int32) (y8 : St), wbX12_age_149 K133 post n y0 y1 y2 y3 y4 y5 y6 y7 y8 → wbX12_age_149 K133' post' n y0 y1 y2 y3 y4 y5 y6 y7 y8 := by
  intro n
  induction n with
  | zero => intro _ _ _ _ _ _ _ _ _ ; exact id
  | succ n ih =>
    intro _ _ _ _ _ _ _ _ _ 
    unfold wbX12_age_149
    with_reducible repeat' (first | exact id | exact ih _ _ _ _ _ _ _ _ _ | exact hK133 _ _ _ _ _ _ _ _ | exact hpost _ _ | refine mn_wbX12_age_168 (fun _ _ _ _ _ _ _ _ _ => ?_) (fun _ _ => ?_) _ _ _ _ _ _ _ _ _ _ _ _ | refine And.imp ?_ ?_ | refine forall_imp fun _ => ?_ | refine Exists.imp fun _ => ?_)
theorem mn_wbX12_age_100 {post post' : Int32 → St → Prop} (hpost : ∀ x0 x1, post x0 x1 → post' x0 x1) : ∀ (n : Nat) (y0 : Int32) (y1 : Int32) (y2 : Int32) (y3 : Int32) (y4 : St), wbX12_age_100 post n y0 y1 y2 y3 y4 → wbX12_age_100 post' n y0 y1 y2 y3 y4 := by
  intro n
  induction n with
  | zero => intro _ _ _ _ _ ; exact id
  | succ n ih =>
    intro _ _ _ _ _ 
    unfold wbX12_age_100
    with_reducible repeat' (first | exact id | exact ih _ _ _ _ _ | exact hpost _ _ | refine mn_wpX12_all (fun _ _ => ?_) | refine And.imp ?_ ?_ | refine forall_imp fun _ => ?_ | refine Exists.imp fun _ => ?_)
theorem mn_wbX12_age_133 {post post' : Int32 → St → Prop} (hpost : ∀ x0 x1, post x0 x1 → post' x0 x1) : ∀ (n : Nat) (y0 : Int32) (y1 : Int32) (y2 : Int32) (y3 : Int32) (y4 : Int32) (y5 : Int32) (y6 : Int32) (y7 : St), wbX12_age_133 post n y0 y1 y2 y3 y4 y5 y6 y7 → wbX12_age_133 post' n y0 y1 y2 y3 y4 y5 y6 y7 := by
  intro n
  induction n with
  | zero => intro _ _ _ _ _ _ _ _ ; exact id
  | succ n ih =>
    intro _ _ _ _ _ _ _ _ 
    unfold wbX12_age_133
    with_reducible repeat' (first | exact id | exact ih _ _ _ _ _ _ _ _ | exact hpost _ _ | refine mn_wbX12_age_149 (fun _ _ _ _ _ _ _ _ => ?_) (fun _ _ => ?_) _ _ _ _ _ _ _ _ _ _ | refine And.imp ?_ ?_ | refine forall_imp fun _ => ?_ | refine Exists.imp fun _ => ?_)
theorem mn_wpX12_age {a1 : Int32} {a2 : Int32} {a3 : Int32} {σ : St} {post post' : Int32 → St → Prop} (hpost : ∀ x0 x1, post x0 x1 → post' x0 x1) : wpX12_age a1 a2 a3 σ post → wpX12_age a1 a2 a3 σ post' := by
  unfold wpX12_age
  with_reducible repeat' (first | exact id | exact hpost _ _ | refine mn_wpX12_isName (fun _ _ => ?_) | refine mn_wpX12_in (fun _ _ => ?_) | refine mn_wpX12_runsAll (fun _ => ?_) | refine mn_wpX12_greater (fun _ _ => ?_) | refine mn_wpX12_living (fun _ _ => ?_) | refine mn_wbX12_age_133 (fun _ _ => ?_) _ _ _ _ _ _ _ _ _ | refine mn_wpX12_all (fun _ _ => ?_) | refine mn_wbX12_age_100 (fun _ _ => ?_) _ _ _ _ _ _ | refine And.imp ?_ ?_ | refine forall_imp fun _ => ?_ | refine Exists.imp fun _ => ?_)
theorem mn_wbX12_livingIn_64 {K41 K41' : Int32 → Int32 → Int64 → Int32 → Int32 → Int32 → St → Prop} (hK41 : ∀ x0 x1 x2 x3 x4 x5 x6, K41 x0 x1 x2 x3 x4 x5 x6 → K41' x0 x1 x2 x3 x4 x5 x6) {post post' : Int64 → St → Prop} (hpost : ∀ x0 x1, post x0 x1 → post' x0 x1) {v1 : Int32} {v2 : Int32} {v5 : Int32} {v6 : Int32} {v7 : Int32} {s0 : Int64} {σ : St} : wbX12_livingIn_64 K41 post v1 v2 v5 v6 v7 s0 σ → wbX12_livingIn_64 K41' post' v1 v2 v5 v6 v7 s0 σ := by
  unfold wbX12_livingIn_64
  with_reducible repeat' (first | exact id | exact hK41 _ _ _ _ _ _ _ | exact hpost _ _ | refine And.imp ?_ ?_ | refine forall_imp fun _ => ?_ | refine Exists.imp fun _ => ?_)
theorem mn_wbX12_livingIn_41 {K31 K31' : Int32 → Int32 → Int64 → Int32 → Int32 → St → Prop} (hK31 : ∀ x0 x1 x2 x3 x4 x5, K31 x0 x1 x2 x3 x4 x5 → K31' x0 x1 x2 x3 x4 x5) {post post' : Int64 → St → Prop} (hpost : ∀ x0 x1, post x0 x1 → post' x0 x1) : ∀ (n : Nat) (y0 : Int32) (y1 : Int32) (y2 : Int64) (y3 : Int32) (y4 : Int32) (y5 : Int32) (y6 : St), wbX12_livingIn_41 K31 post n y0 y1 y2 y3 y4 y5 y6 → wbX12_livingIn_41 K31' post' n y0 y1 y2 y3 y4 y5 y6 := by
  intro n
  induction n with
  | zero => intro _ _ _ _ _ _ _ ; exact id
  | succ n ih =>
    intro _ _ _ _ _ _ _ 
    unfold wbX12_livingIn_41
    with_reducible repeat' (first | exact id | exact ih _ _ _ _ _ _ _ | exact hK31 _ _ _ _ _ _ | exact hpost _ _ | refine mn_wbX12_livingIn_64 (fun _ _ _ _ _ _ _ => ?_) (fun _ _ => ?_) | refine And.imp ?_ ?_ | refine forall_imp fun _ => ?_ | refine Exists.imp fun _ => ?_)
theorem mn_wbX12_livingIn_31 {post post' : Int64 → St → Prop} (hpost : ∀ x0 x1, post x0 x1 → post' x0 x1) : ∀ (n : Nat) (y0 : Int32) (y1 : Int32) (y2 : Int64) (y3 : Int32) (y4 : Int32) (y5 : St), wbX12_livingIn_31 post n y0 y1 y2 y3 y4 y5 → wbX12_livingIn_31 post' n y0 y1 y2 y3 y4 y5 := by
  intro n
  induction n with
  | zero => intro _ _ _ _ _ _ ; exact id
  | succ n ih =>
    intro _ _ _ _ _ _ 
    unfold wbX12_livingIn_31
    with_reducible repeat' (first | exact id | exact ih _ _ _ _ _ _ | exact hpost _ _ | refine mn_wbX12_livingIn_41 (fun _ _ _ _ _ _ => ?_) (fun _ _ => ?_) _ _ _ _ _ _ _ _ | refine And.imp ?_ ?_ | refine forall_imp fun _ => ?_ | refine Exists.imp fun _ => ?_)
theorem mn_wpX12_livingIn {a1 : Int32} {a2 : Int32} {σ : St} {post post' : Int64 → St → Prop} (hpost : ∀ x0 x1, post x0 x1 → post' x0 x1) : wpX12_livingIn a1 a2 σ post → wpX12_livingIn a1 a2 σ post' := by
  unfold wpX12_livingIn
  with_reducible repeat' (first | exact id | exact hpost _ _ | refine mn_wpX12_greater (fun _ _ => ?_) | refine mn_wbX12_livingIn_31 (fun _ _ => ?_) _ _ _ _ _ _ _ | refine And.imp ?_ ?_ | refine forall_imp fun _ => ?_ | refine Exists.imp fun _ => ?_)
theorem mn_wbX12_guess_18 {post post' : Int32 → St → Prop} (hpost : ∀ x0 x1, post x0 x1 → post' x0 x1) : ∀ (n : Nat) (y0 : Int32) (y1 : Int32) (y2 : Int32) (y3 : St), wbX12_guess_18 post n y0 y1 y2 y3 → wbX12_guess_18 post' n y0 y1 y2 y3 := by
  intro n
  induction n with
  | zero => intro _ _ _ _ ; exact id
  | succ n ih =>
    intro _ _ _ _ 
    unfold wbX12_guess_18
    with_reducible repeat' (first | exact id | exact ih _ _ _ _ | exact hpost _ _ | refine mn_wpX12_livingIn (fun _ _ => ?_) | refine And.imp ?_ ?_ | refine forall_imp fun _ => ?_ | refine Exists.imp fun _ => ?_)
theorem mn_wpX12_guess {a1 : Int32} {σ : St} {post post' : Int32 → St → Prop} (hpost : ∀ x0 x1, post x0 x1 → post' x0 x1) : wpX12_guess a1 σ post → wpX12_guess a1 σ post' := by
  unfold wpX12_guess
  with_reducible repeat' (first | exact id | exact hpost _ _ | refine mn_wpX12_isName (fun _ _ => ?_) | refine mn_wpX12_runsAll (fun _ => ?_) | refine mn_wbX12_guess_18 (fun _ _ => ?_) _ _ _ _ _ | refine And.imp ?_ ?_ | refine forall_imp fun _ => ?_ | refine Exists.imp fun _ => ?_)
theorem mn_wbX12_adds_68 {K14 K14' : Int32 → Int32 → Int32 → Int64 → Int32 → St → Prop} (hK14 : ∀ x0 x1 x2 x3 x4 x5, K14 x0 x1 x2 x3 x4 x5 → K14' x0 x1 x2 x3 x4 x5) {post post' : St → Prop} (hpost : ∀ x0, post x0 → post' x0) {v2 : Int32} {v3 : Int32} {v4 : Int32} {v7 : Int32} {s0 : Int64} {s1 : Int64} {σ : St} : wbX12_adds_68 K14 post v2 v3 v4 v7 s0 s1 σ → wbX12_adds_68 K14' post' v2 v3 v4 v7 s0 s1 σ := by
  unfold wbX12_adds_68
  with_reducible repeat' (first | exact id | exact hK14 _ _ _ _ _ _ | exact hpost _ | refine And.imp ?_ ?_ | refine forall_imp fun _ => ?_ | refine Exists.imp fun _ => ?_)
theorem mn_wbX12_adds_14 {K3 K3' : Int32 → Int32 → Int32 → St → Prop} (hK3 : ∀ x0 x1 x2 x3, K3 x0 x1 x2 x3 → K3' x0 x1 x2 x3) {post post' : St → Prop} (hpost : ∀ x0, post x0 → post' x0) : ∀ (n : Nat) (y0 : Int32) (y1 : Int32) (y2 : Int32) (y3 : Int64) (y4 : Int32) (y5 : St), wbX12_adds_14 K3 post n y0 y1 y2 y3 y4 y5 → wbX12_adds_14 K3' post' n y0 y1 y2 y3 y4 y5 := by
  intro n
  induction n with
  | zero => intro _ _ _ _ _ _ ; exact id
  | succ n ih =>
    intro _ _ _ _ _ _ 
    unfold wbX12_adds_14
    with_reducible repeat' (first | exact id | exact ih _ _ _ _ _ _ | exact hK3 _ _ _ _ | exact hpost _ | refine mn_wbX12_adds_68 (fun _ _ _ _ _ _ => ?_) (fun _ => ?_) | refine And.imp ?_ ?_ | refine forall_imp fun _ => ?_ | refine Exists.imp fun _ => ?_)
theorem mn_wbX12_adds_3 {post post' : St → Prop} (hpost : ∀ x0, post x0 → post' x0) : ∀ (n : Nat) (y0 : Int32) (y1 : Int32) (y2 : Int32) (y3 : St), wbX12_adds_3 post n y0 y1 y2 y3 → wbX12_adds_3 post' n y0 y1 y2 y3 := by
  intro n
  induction n with
  | zero => intro _ _ _ _ ; exact id
  | succ n ih =>
    intro _ _ _ _ 
    unfold wbX12_adds_3
    with_reducible repeat' (first | exact id | exact ih _ _ _ _ | exact hpost _ | refine mn_wbX12_adds_14 (fun _ _ _ _ => ?_) (fun _ => ?_) _ _ _ _ _ _ _ | refine And.imp ?_ ?_ | refine forall_imp fun _ => ?_ | refine Exists.imp fun _ => ?_)
theorem mn_wpX12_adds {a1 : Int32} {a2 : Int32} {a3 : Int32} {σ : St} {post post' : St → Prop} (hpost : ∀ x0, post x0 → post' x0) : wpX12_adds a1 a2 a3 σ post → wpX12_adds a1 a2 a3 σ post' := by
  unfold wpX12_adds
  with_reducible repeat' (first | exact id | exact hpost _ | refine mn_wbX12_adds_3 (fun _ => ?_) _ _ _ _ _ | refine And.imp ?_ ?_ | refine forall_imp fun _ => ?_ | refine Exists.imp fun _ => ?_)
theorem mn_wbX12_sums_34 {K23 K23' : Int32 → Int32 → St → Prop} (hK23 : ∀ x0 x1 x2, K23 x0 x1 x2 → K23' x0 x1 x2) {post post' : St → Prop} (hpost : ∀ x0, post x0 → post' x0) : ∀ (n : Nat) (y0 : Int32) (y1 : Int32) (y2 : Int64) (y3 : Int32) (y4 : St), wbX12_sums_34 K23 post n y0 y1 y2 y3 y4 → wbX12_sums_34 K23' post' n y0 y1 y2 y3 y4 := by
  intro n
  induction n with
  | zero => intro _ _ _ _ _ ; exact id
  | succ n ih =>
    intro _ _ _ _ _ 
    unfold wbX12_sums_34
    with_reducible repeat' (first | exact id | exact ih _ _ _ _ _ | exact hK23 _ _ _ | exact hpost _ | refine And.imp ?_ ?_ | refine forall_imp fun _ => ?_ | refine Exists.imp fun _ => ?_)
theorem mn_wbX12_sums_23 {post post' : St → Prop} (hpost : ∀ x0, post x0 → post' x0) : ∀ (n : Nat) (y0 : Int32) (y1 : Int32) (y2 : St), wbX12_sums_23 post n y0 y1 y2 → wbX12_sums_23 post' n y0 y1 y2 := by
  intro n
  induction n with
  | zero => intro _ _ _ ; exact id
  | succ n ih =>
    intro _ _ _ 
    unfold wbX12_sums_23
    with_reducible repeat' (first | exact id | exact ih _ _ _ | exact hpost _ | refine mn_wbX12_sums_34 (fun _ _ _ => ?_) (fun _ => ?_) _ _ _ _ _ _ | refine And.imp ?_ ?_ | refine forall_imp fun _ => ?_ | refine Exists.imp fun _ => ?_)
theorem mn_wbX12_sums_2 {post post' : St → Prop} (hpost : ∀ x0, post x0 → post' x0) : ∀ (n : Nat) (y0 : Int32) (y1 : Int32) (y2 : Int32) (y3 : St), wbX12_sums_2 post n y0 y1 y2 y3 → wbX12_sums_2 post' n y0 y1 y2 y3 := by
  intro n
  induction n with
  | zero => intro _ _ _ _ ; exact id
  | succ n ih =>
    intro _ _ _ _ 
    unfold wbX12_sums_2
    with_reducible repeat' (first | exact id | exact ih _ _ _ _ | exact hpost _ | refine mn_wbX12_sums_23 (fun _ => ?_) _ _ _ _ | refine And.imp ?_ ?_ | refine forall_imp fun _ => ?_ | refine Exists.imp fun _ => ?_)
theorem mn_wpX12_sums {a1 : Int32} {a2 : Int32} {σ : St} {post post' : St → Prop} (hpost : ∀ x0, post x0 → post' x0) : wpX12_sums a1 a2 σ post → wpX12_sums a1 a2 σ post' := by
  unfold wpX12_sums
  with_reducible repeat' (first | exact id | exact hpost _ | refine mn_wbX12_sums_2 (fun _ => ?_) _ _ _ _ _ | refine And.imp ?_ ?_ | refine forall_imp fun _ => ?_ | refine Exists.imp fun _ => ?_)
theorem mn_wbX12_isRare_56 {post post' : Int32 → St → Prop} (hpost : ∀ x0 x1, post x0 x1 → post' x0 x1) : ∀ (n : Nat) (y0 : Int32) (y1 : St), wbX12_isRare_56 post n y0 y1 → wbX12_isRare_56 post' n y0 y1 := by
  intro n
  induction n with
  | zero => intro _ _ ; exact id
  | succ n ih =>
    intro _ _ 
    unfold wbX12_isRare_56
    with_reducible repeat' (first | exact id | exact ih _ _ | exact hpost _ _ | refine And.imp ?_ ?_ | refine forall_imp fun _ => ?_ | refine Exists.imp fun _ => ?_)
theorem mn_wbX12_isRare_5 {post post' : Int32 → St → Prop} (hpost : ∀ x0 x1, post x0 x1 → post' x0 x1) : ∀ (n : Nat) (y0 : Int32) (y1 : Int64) (y2 : Int32) (y3 : St), wbX12_isRare_5 post n y0 y1 y2 y3 → wbX12_isRare_5 post' n y0 y1 y2 y3 := by
  intro n
  induction n with
  | zero => intro _ _ _ _ ; exact id
  | succ n ih =>
    intro _ _ _ _ 
    unfold wbX12_isRare_5
    with_reducible repeat' (first | exact id | exact ih _ _ _ _ | exact hpost _ _ | refine mn_wbX12_isRare_56 (fun _ _ => ?_) _ _ _ | refine And.imp ?_ ?_ | refine forall_imp fun _ => ?_ | refine Exists.imp fun _ => ?_)
theorem mn_wpX12_isRare {a1 : Int32} {σ : St} {post post' : Int32 → St → Prop} (hpost : ∀ x0 x1, post x0 x1 → post' x0 x1) : wpX12_isRare a1 σ post → wpX12_isRare a1 σ post' := by
  unfold wpX12_isRare
  with_reducible repeat' (first | exact id | exact hpost _ _ | refine mn_wbX12_isRare_5 (fun _ _ => ?_) _ _ _ _ _ | refine And.imp ?_ ?_ | refine forall_imp fun _ => ?_ | refine Exists.imp fun _ => ?_)
theorem mn_wbX12_chanceOf_105 {post post' : Int32 → St → Prop} (hpost : ∀ x0 x1, post x0 x1 → post' x0 x1) : ∀ (n : Nat) (y0 : Int32) (y1 : Int32) (y2 : Int32) (y3 : Int32) (y4 : St), wbX12_chanceOf_105 post n y0 y1 y2 y3 y4 → wbX12_chanceOf_105 post' n y0 y1 y2 y3 y4 := by
  intro n
  induction n with
  | zero => intro _ _ _ _ _ ; exact id
  | succ n ih =>
    intro _ _ _ _ _ 
    unfold wbX12_chanceOf_105
    with_reducible repeat' (first | exact id | exact ih _ _ _ _ _ | exact hpost _ _ | refine mn_wpX12_sums (fun _ => ?_) | refine mn_wpX12_isRare (fun _ _ => ?_) | refine And.imp ?_ ?_ | refine forall_imp fun _ => ?_ | refine Exists.imp fun _ => ?_)
theorem mn_wbX12_chanceOf_69 {post post' : Int32 → St → Prop} (hpost : ∀ x0 x1, post x0 x1 → post' x0 x1) : ∀ (n : Nat) (y0 : Int32) (y1 : Int32) (y2 : Int32) (y3 : Int32) (y4 : Int32) (y5 : Int32) (y6 : St), wbX12_chanceOf_69 post n y0 y1 y2 y3 y4 y5 y6 → wbX12_chanceOf_69 post' n y0 y1 y2 y3 y4 y5 y6 := by
  intro n
  induction n with
  | zero => intro _ _ _ _ _ _ _ ; exact id
  | succ n ih =>
    intro _ _ _ _ _ _ _ 
    unfold wbX12_chanceOf_69
    with_reducible repeat' (first | exact id | exact ih _ _ _ _ _ _ _ | exact hpost _ _ | refine mn_wpX12_sums (fun _ => ?_) | refine mn_wbX12_chanceOf_105 (fun _ _ => ?_) _ _ _ _ _ _ | refine mn_wpX12_adds (fun _ => ?_) | refine And.imp ?_ ?_ | refine forall_imp fun _ => ?_ | refine Exists.imp fun _ => ?_)
theorem mn_wbX12_chanceOf_37 {post post' : Int32 → St → Prop} (hpost : ∀ x0 x1, post x0 x1 → post' x0 x1) : ∀ (n : Nat) (y0 : Int32) (y1 : Int32) (y2 : Int32) (y3 : Int32) (y4 : Int32) (y5 : Int32) (y6 : St), wbX12_chanceOf_37 post n y0 y1 y2 y3 y4 y5 y6 → wbX12_chanceOf_37 post' n y0 y1 y2 y3 y4 y5 y6 := by
  intro n
  induction n with
  | zero => intro _ _ _ _ _ _ _ ; exact id
  | succ n ih =>
    intro _ _ _ _ _ _ _ 
    unfold wbX12_chanceOf_37
    with_reducible repeat' (first | exact id | exact ih _ _ _ _ _ _ _ | exact hpost _ _ | refine mn_wbX12_chanceOf_69 (fun _ _ => ?_) _ _ _ _ _ _ _ _ | refine And.imp ?_ ?_ | refine forall_imp fun _ => ?_ | refine Exists.imp fun _ => ?_)
theorem mn_wpX12_chanceOf {a1 : Int32} {a2 : Int32} {a3 : Int32} {σ : St} {post post' : Int32 → St → Prop} (hpost : ∀ x0 x1, post x0 x1 → post' x0 x1) : wpX12_chanceOf a1 a2 a3 σ post → wpX12_chanceOf a1 a2 a3 σ post' := by
  unfold wpX12_chanceOf
  with_reducible repeat' (first | exact id | exact hpost _ _ | refine mn_wpX12_allOf (fun _ _ => ?_) | refine mn_wpX12_all (fun _ _ => ?_) | refine mn_wbX12_chanceOf_37 (fun _ _ => ?_) _ _ _ _ _ _ _ _ | refine And.imp ?_ ?_ | refine forall_imp fun _ => ?_ | refine Exists.imp fun _ => ?_)
theorem mn_wbX12_chance_85 {post post' : Int32 → St → Prop} (hpost : ∀ x0 x1, post x0 x1 → post' x0 x1) : ∀ (n : Nat) (y0 : Int32) (y1 : Int32) (y2 : Int32) (y3 : Int32) (y4 : St), wbX12_chance_85 post n y0 y1 y2 y3 y4 → wbX12_chance_85 post' n y0 y1 y2 y3 y4 := by
  intro n
  induction n with
  | zero => intro _ _ _ _ _ ; exact id
  | succ n ih =>
    intro _ _ _ _ _ 
    unfold wbX12_chance_85
    with_reducible repeat' (first | exact id | exact ih _ _ _ _ _ | exact hpost _ _ | refine mn_wpX12_chanceOf (fun _ _ => ?_) | refine And.imp ?_ ?_ | refine forall_imp fun _ => ?_ | refine Exists.imp fun _ => ?_)
theorem mn_wbX12_chance_13 {post post' : Int32 → St → Prop} (hpost : ∀ x0 x1, post x0 x1 → post' x0 x1) {v1 : Int32} {v2 : Int32} {v3 : Int32} {σ : St} : wbX12_chance_13 post v1 v2 v3 σ → wbX12_chance_13 post' v1 v2 v3 σ := by
  unfold wbX12_chance_13
  with_reducible repeat' (first | exact id | exact hpost _ _ | refine mn_wpX12_in (fun _ _ => ?_) | refine mn_wpX12_runsAll (fun _ => ?_) | refine mn_wpX12_allOf (fun _ _ => ?_) | refine mn_wbX12_chance_85 (fun _ _ => ?_) _ _ _ _ _ _ | refine mn_wpX12_chanceOf (fun _ _ => ?_) | refine And.imp ?_ ?_ | refine forall_imp fun _ => ?_ | refine Exists.imp fun _ => ?_)
theorem mn_wpX12_chance {a1 : Int32} {a2 : Int32} {a3 : Int32} {σ : St} {post post' : Int32 → St → Prop} (hpost : ∀ x0 x1, post x0 x1 → post' x0 x1) : wpX12_chance a1 a2 a3 σ post → wpX12_chance a1 a2 a3 σ post' := by
  unfold wpX12_chance
  with_reducible repeat' (first | exact id | exact hpost _ _ | refine mn_wbX12_chance_13 (fun _ _ => ?_) | refine mn_wpX12_isName (fun _ _ => ?_) | refine And.imp ?_ ?_ | refine forall_imp fun _ => ?_ | refine Exists.imp fun _ => ?_)
theorem mn_wbX12_aheadOf_5 {post post' : Int32 → St → Prop} (hpost : ∀ x0 x1, post x0 x1 → post' x0 x1) : ∀ (n : Nat) (y0 : Int32) (y1 : Int32) (y2 : Int32) (y3 : Int32) (y4 : St), wbX12_aheadOf_5 post n y0 y1 y2 y3 y4 → wbX12_aheadOf_5 post' n y0 y1 y2 y3 y4 := by
  intro n
  induction n with
  | zero => intro _ _ _ _ _ ; exact id
  | succ n ih =>
    intro _ _ _ _ _ 
    unfold wbX12_aheadOf_5
    with_reducible repeat' (first | exact id | exact ih _ _ _ _ _ | exact hpost _ _ | refine mn_wpX12_all (fun _ _ => ?_) | refine And.imp ?_ ?_ | refine forall_imp fun _ => ?_ | refine Exists.imp fun _ => ?_)
theorem mn_wpX12_aheadOf {a1 : Int32} {a2 : Int32} {σ : St} {post post' : Int32 → St → Prop} (hpost : ∀ x0 x1, post x0 x1 → post' x0 x1) : wpX12_aheadOf a1 a2 σ post → wpX12_aheadOf a1 a2 σ post' := by
  unfold wpX12_aheadOf
  with_reducible repeat' (first | exact id | exact hpost _ _ | refine mn_wbX12_aheadOf_5 (fun _ _ => ?_) _ _ _ _ _ _ | refine And.imp ?_ ?_ | refine forall_imp fun _ => ?_ | refine Exists.imp fun _ => ?_)
theorem mn_wbX12_turnover_98 {K29 K29' : Int32 → Int32 → Int32 → Int32 → St → Prop} (hK29 : ∀ x0 x1 x2 x3 x4, K29 x0 x1 x2 x3 x4 → K29' x0 x1 x2 x3 x4) {post post' : Int32 → St → Prop} (hpost : ∀ x0 x1, post x0 x1 → post' x0 x1) {v1 : Int32} {v2 : Int32} {v3 : Int32} {v4 : Int32} {v5 : Int32} {s0 : Int32} {σ : St} : wbX12_turnover_98 K29 post v1 v2 v3 v4 v5 s0 σ → wbX12_turnover_98 K29' post' v1 v2 v3 v4 v5 s0 σ := by
  unfold wbX12_turnover_98
  with_reducible repeat' (first | exact id | exact hK29 _ _ _ _ _ | exact hpost _ _ | refine And.imp ?_ ?_ | refine forall_imp fun _ => ?_ | refine Exists.imp fun _ => ?_)
theorem mn_wbX12_turnover_66 {K29 K29' : Int32 → Int32 → Int32 → Int32 → St → Prop} (hK29 : ∀ x0 x1 x2 x3 x4, K29 x0 x1 x2 x3 x4 → K29' x0 x1 x2 x3 x4) {post post' : Int32 → St → Prop} (hpost : ∀ x0 x1, post x0 x1 → post' x0 x1) {v1 : Int32} {v2 : Int32} {v3 : Int32} {v4 : Int32} {s0 : Int32} {σ : St} : wbX12_turnover_66 K29 post v1 v2 v3 v4 s0 σ → wbX12_turnover_66 K29' post' v1 v2 v3 v4 s0 σ := by
  unfold wbX12_turnover_66
  with_reducible repeat' (first | exact id | exact hK29 _ _ _ _ _ | exact hpost _ _ | refine mn_wpX12_all (fun _ _ => ?_) | refine mn_wbX12_turnover_98 (fun _ _ _ _ _ => ?_) (fun _ _ => ?_) | refine mn_wpX12_aheadOf (fun _ _ => ?_) | refine And.imp ?_ ?_ | refine forall_imp fun _ => ?_ | refine Exists.imp fun _ => ?_)
theorem mn_wbX12_turnover_29 {post post' : Int32 → St → Prop} (hpost : ∀ x0 x1, post x0 x1 → post' x0 x1) : ∀ (n : Nat) (y0 : Int32) (y1 : Int32) (y2 : Int32) (y3 : Int32) (y4 : St), wbX12_turnover_29 post n y0 y1 y2 y3 y4 → wbX12_turnover_29 post' n y0 y1 y2 y3 y4 := by
  intro n
  induction n with
  | zero => intro _ _ _ _ _ ; exact id
  | succ n ih =>
    intro _ _ _ _ _ 
    unfold wbX12_turnover_29
    with_reducible repeat' (first | exact id | exact ih _ _ _ _ _ | exact hpost _ _ | refine mn_wpX12_all (fun _ _ => ?_) | refine mn_wbX12_turnover_66 (fun _ _ _ _ _ => ?_) (fun _ _ => ?_) | refine mn_wpX12_aheadOf (fun _ _ => ?_) | refine And.imp ?_ ?_ | refine forall_imp fun _ => ?_ | refine Exists.imp fun _ => ?_)
theorem mn_wpX12_turnover {a1 : Int32} {a2 : Int32} {σ : St} {post post' : Int32 → St → Prop} (hpost : ∀ x0 x1, post x0 x1 → post' x0 x1) : wpX12_turnover a1 a2 σ post → wpX12_turnover a1 a2 σ post' := by
  unfold wpX12_turnover
  with_reducible repeat' (first | exact id | exact hpost _ _ | refine mn_wpX12_isGone (fun _ _ => ?_) | refine mn_wpX12_in (fun _ _ => ?_) | refine mn_wpX12_runsAll (fun _ => ?_) | refine mn_wbX12_turnover_29 (fun _ _ => ?_) _ _ _ _ _ _ | refine And.imp ?_ ?_ | refine forall_imp fun _ => ?_ | refine Exists.imp fun _ => ?_)
theorem mn_wpX12_print {a1 : Int32} {a2 : Int32} {a3 : Int32} {a4 : Int32} {a5 : Int32} {σ : St} {post post' : Int32 → St → Prop} (hpost : ∀ x0 x1, post x0 x1 → post' x0 x1) : wpX12_print a1 a2 a3 a4 a5 σ post → wpX12_print a1 a2 a3 a4 a5 σ post' := by
  unfold wpX12_print
  with_reducible repeat' (first | exact id | exact hpost _ _ | refine mn_wpX12_in (fun _ _ => ?_) | refine mn_wpX12_isName (fun _ _ => ?_) | refine And.imp ?_ ?_ | refine forall_imp fun _ => ?_ | refine Exists.imp fun _ => ?_)
theorem mn_wbX12_isLet_77 {post post' : Int32 → St → Prop} (hpost : ∀ x0 x1, post x0 x1 → post' x0 x1) : ∀ (n : Nat) (y0 : Int32) (y1 : Int32) (y2 : Int32) (y3 : St), wbX12_isLet_77 post n y0 y1 y2 y3 → wbX12_isLet_77 post' n y0 y1 y2 y3 := by
  intro n
  induction n with
  | zero => intro _ _ _ _ ; exact id
  | succ n ih =>
    intro _ _ _ _ 
    unfold wbX12_isLet_77
    with_reducible repeat' (first | exact id | exact ih _ _ _ _ | exact hpost _ _ | refine mn_wpX12_sumOf (fun _ _ => ?_) | refine And.imp ?_ ?_ | refine forall_imp fun _ => ?_ | refine Exists.imp fun _ => ?_)
theorem mn_wbX12_isLet_5 {post post' : Int32 → St → Prop} (hpost : ∀ x0 x1, post x0 x1 → post' x0 x1) : ∀ (n : Nat) (y0 : Int32) (y1 : Int32) (y2 : Int32) (y3 : Int32) (y4 : St), wbX12_isLet_5 post n y0 y1 y2 y3 y4 → wbX12_isLet_5 post' n y0 y1 y2 y3 y4 := by
  intro n
  induction n with
  | zero => intro _ _ _ _ _ ; exact id
  | succ n ih =>
    intro _ _ _ _ _ 
    unfold wbX12_isLet_5
    with_reducible repeat' (first | exact id | exact ih _ _ _ _ _ | exact hpost _ _ | refine mn_wpX12_runs (fun _ => ?_) | refine mn_wbX12_isLet_77 (fun _ _ => ?_) _ _ _ _ _ | refine mn_wpX12_greater (fun _ _ => ?_) | refine And.imp ?_ ?_ | refine forall_imp fun _ => ?_ | refine Exists.imp fun _ => ?_)
theorem mn_wpX12_isLet {a1 : Int32} {a2 : Int32} {σ : St} {post post' : Int32 → St → Prop} (hpost : ∀ x0 x1, post x0 x1 → post' x0 x1) : wpX12_isLet a1 a2 σ post → wpX12_isLet a1 a2 σ post' := by
  unfold wpX12_isLet
  with_reducible repeat' (first | exact id | exact hpost _ _ | refine mn_wbX12_isLet_5 (fun _ _ => ?_) _ _ _ _ _ _ | refine And.imp ?_ ?_ | refine forall_imp fun _ => ?_ | refine Exists.imp fun _ => ?_)
theorem mn_wbX12_let_53 {K30 K30' : Int32 → Int32 → Int32 → Int32 → St → Prop} (hK30 : ∀ x0 x1 x2 x3 x4, K30 x0 x1 x2 x3 x4 → K30' x0 x1 x2 x3 x4) {post post' : Int32 → St → Prop} (hpost : ∀ x0 x1, post x0 x1 → post' x0 x1) {v1 : Int32} {v2 : Int32} {v4 : Int32} {s0 : Int32} {σ : St} : wbX12_let_53 K30 post v1 v2 v4 s0 σ → wbX12_let_53 K30' post' v1 v2 v4 s0 σ := by
  unfold wbX12_let_53
  with_reducible repeat' (first | exact id | exact hK30 _ _ _ _ _ | exact hpost _ _ | refine mn_wpX12_isLet (fun _ _ => ?_) | refine And.imp ?_ ?_ | refine forall_imp fun _ => ?_ | refine Exists.imp fun _ => ?_)
theorem mn_wbX12_let_30 {post post' : Int32 → St → Prop} (hpost : ∀ x0 x1, post x0 x1 → post' x0 x1) : ∀ (n : Nat) (y0 : Int32) (y1 : Int32) (y2 : Int32) (y3 : Int32) (y4 : St), wbX12_let_30 post n y0 y1 y2 y3 y4 → wbX12_let_30 post' n y0 y1 y2 y3 y4 := by
  intro n
  induction n with
  | zero => intro _ _ _ _ _ ; exact id
  | succ n ih =>
    intro _ _ _ _ _ 
    unfold wbX12_let_30
    with_reducible repeat' (first | exact id | exact ih _ _ _ _ _ | exact hpost _ _ | refine mn_wbX12_let_53 (fun _ _ _ _ _ => ?_) (fun _ _ => ?_) | refine And.imp ?_ ?_ | refine forall_imp fun _ => ?_ | refine Exists.imp fun _ => ?_)
theorem mn_wbX12_let_13 {post post' : Int32 → St → Prop} (hpost : ∀ x0 x1, post x0 x1 → post' x0 x1) {v1 : Int32} {v2 : Int32} {σ : St} : wbX12_let_13 post v1 v2 σ → wbX12_let_13 post' v1 v2 σ := by
  unfold wbX12_let_13
  with_reducible repeat' (first | exact id | exact hpost _ _ | refine mn_wpX12_in (fun _ _ => ?_) | refine mn_wbX12_let_30 (fun _ _ => ?_) _ _ _ _ _ _ | refine And.imp ?_ ?_ | refine forall_imp fun _ => ?_ | refine Exists.imp fun _ => ?_)
theorem mn_wpX12_let {a1 : Int32} {a2 : Int32} {σ : St} {post post' : Int32 → St → Prop} (hpost : ∀ x0 x1, post x0 x1 → post' x0 x1) : wpX12_let a1 a2 σ post → wpX12_let a1 a2 σ post' := by
  unfold wpX12_let
  with_reducible repeat' (first | exact id | exact hpost _ _ | refine mn_wbX12_let_13 (fun _ _ => ?_) | refine mn_wpX12_isTaste (fun _ _ => ?_) | refine And.imp ?_ ?_ | refine forall_imp fun _ => ?_ | refine Exists.imp fun _ => ?_)
theorem mn_wbX12_span_115 {K48 K48' : Int32 → Int32 → Int32 → Int32 → Int32 → Int32 → Int32 → Int32 → St → Prop} (hK48 : ∀ x0 x1 x2 x3 x4 x5 x6 x7 x8, K48 x0 x1 x2 x3 x4 x5 x6 x7 x8 → K48' x0 x1 x2 x3 x4 x5 x6 x7 x8) {post post' : Int32 → St → Prop} (hpost : ∀ x0 x1, post x0 x1 → post' x0 x1) {v1 : Int32} {v2 : Int32} {v3 : Int32} {v4 : Int32} {v5 : Int32} {v7 : Int32} {v8 : Int32} {v9 : Int32} {s0 : Int32} {σ : St} : wbX12_span_115 K48 post v1 v2 v3 v4 v5 v7 v8 v9 s0 σ → wbX12_span_115 K48' post' v1 v2 v3 v4 v5 v7 v8 v9 s0 σ := by
  unfold wbX12_span_115
  with_reducible repeat' (first | exact id | exact hK48 _ _ _ _ _ _ _ _ _ | exact hpost _ _ | refine mn_wpX12_greater (fun _ _ => ?_) | refine And.imp ?_ ?_ | refine forall_imp fun _ => ?_ | refine Exists.imp fun _ => ?_)
theorem mn_wbX12_span_48 {post post' : Int32 → St → Prop} (hpost : ∀ x0 x1, post x0 x1 → post' x0 x1) : ∀ (n : Nat) (y0 : Int32) (y1 : Int32) (y2 : Int32) (y3 : Int32) (y4 : Int32) (y5 : Int32) (y6 : Int32) (y7 : Int32) (y8 : St), wbX12_span_48 post n y0 y1 y2 y3 y4 y5 y6 y7 y8 → wbX12_span_48 post' n y0 y1 y2 y3 y4 y5 y6 y7 y8 := by
  intro n
  induction n with
  | zero => intro _ _ _ _ _ _ _ _ _ ; exact id
  | succ n ih =>
    intro _ _ _ _ _ _ _ _ _ 
    unfold wbX12_span_48
    with_reducible repeat' (first | exact id | exact ih _ _ _ _ _ _ _ _ _ | exact hpost _ _ | refine mn_wpX12_isLet (fun _ _ => ?_) | refine mn_wpX12_runs (fun _ => ?_) | refine mn_wpX12_sumOf (fun _ _ => ?_) | refine mn_wpX12_lesser (fun _ _ => ?_) | refine mn_wbX12_span_115 (fun _ _ _ _ _ _ _ _ _ => ?_) (fun _ _ => ?_) | refine And.imp ?_ ?_ | refine forall_imp fun _ => ?_ | refine Exists.imp fun _ => ?_)
theorem mn_wpX12_span {a1 : Int32} {a2 : Int32} {a3 : Int32} {a4 : Int32} {a5 : Int32} {σ : St} {post post' : Int32 → St → Prop} (hpost : ∀ x0 x1, post x0 x1 → post' x0 x1) : wpX12_span a1 a2 a3 a4 a5 σ post → wpX12_span a1 a2 a3 a4 a5 σ post' := by
  unfold wpX12_span
  with_reducible repeat' (first | exact id | exact hpost _ _ | refine mn_wpX12_in (fun _ _ => ?_) | refine mn_wpX12_isName (fun _ _ => ?_) | refine mn_wbX12_span_48 (fun _ _ => ?_) _ _ _ _ _ _ _ _ _ _ | refine And.imp ?_ ?_ | refine forall_imp fun _ => ?_ | refine Exists.imp fun _ => ?_)
theorem mn_wbX12_parts_143 {K66 K66' : Int32 → Int32 → Int32 → Int32 → Int32 → St → Prop} (hK66 : ∀ x0 x1 x2 x3 x4 x5, K66 x0 x1 x2 x3 x4 x5 → K66' x0 x1 x2 x3 x4 x5) {post post' : Int32 → St → Prop} (hpost : ∀ x0 x1, post x0 x1 → post' x0 x1) {v1 : Int32} {v2 : Int32} {v3 : Int32} {v4 : Int32} {v5 : Int32} {v6 : Int32} {s0 : Int32} {s1 : Int32} {σ : St} : wbX12_parts_143 K66 post v1 v2 v3 v4 v5 v6 s0 s1 σ → wbX12_parts_143 K66' post' v1 v2 v3 v4 v5 v6 s0 s1 σ := by
  unfold wbX12_parts_143
  with_reducible repeat' (first | exact id | exact hK66 _ _ _ _ _ _ | exact hpost _ _ | refine mn_wpX12_greater (fun _ _ => ?_) | refine And.imp ?_ ?_ | refine forall_imp fun _ => ?_ | refine Exists.imp fun _ => ?_)
theorem mn_wbX12_parts_114 {K66 K66' : Int32 → Int32 → Int32 → Int32 → Int32 → St → Prop} (hK66 : ∀ x0 x1 x2 x3 x4 x5, K66 x0 x1 x2 x3 x4 x5 → K66' x0 x1 x2 x3 x4 x5) {post post' : Int32 → St → Prop} (hpost : ∀ x0 x1, post x0 x1 → post' x0 x1) {v1 : Int32} {v2 : Int32} {v3 : Int32} {v4 : Int32} {v5 : Int32} {s0 : Int32} {σ : St} : wbX12_parts_114 K66 post v1 v2 v3 v4 v5 s0 σ → wbX12_parts_114 K66' post' v1 v2 v3 v4 v5 s0 σ := by
  unfold wbX12_parts_114
  with_reducible repeat' (first | exact id | exact hK66 _ _ _ _ _ _ | exact hpost _ _ | refine mn_wbX12_parts_143 (fun _ _ _ _ _ _ => ?_) (fun _ _ => ?_) | refine mn_wpX12_lesser (fun _ _ => ?_) | refine And.imp ?_ ?_ | refine forall_imp fun _ => ?_ | refine Exists.imp fun _ => ?_)
theorem mn_wbX12_parts_253 {post post' : Int32 → St → Prop} (hpost : ∀ x0 x1, post x0 x1 → post' x0 x1) {v2 : Int32} {v4 : Int32} {v5 : Int32} {σ : St} : wbX12_parts_253 post v2 v4 v5 σ → wbX12_parts_253 post' v2 v4 v5 σ := by
  unfold wbX12_parts_253
  with_reducible repeat' (first | exact id | exact hpost _ _ | refine And.imp ?_ ?_ | refine forall_imp fun _ => ?_ | refine Exists.imp fun _ => ?_)
theorem mn_wbX12_parts_66 {K26 K26' : Int32 → Int32 → Int32 → Int32 → St → Prop} (hK26 : ∀ x0 x1 x2 x3 x4, K26 x0 x1 x2 x3 x4 → K26' x0 x1 x2 x3 x4) {post post' : Int32 → St → Prop} (hpost : ∀ x0 x1, post x0 x1 → post' x0 x1) : ∀ (n : Nat) (y0 : Int32) (y1 : Int32) (y2 : Int32) (y3 : Int32) (y4 : Int32) (y5 : St), wbX12_parts_66 K26 post n y0 y1 y2 y3 y4 y5 → wbX12_parts_66 K26' post' n y0 y1 y2 y3 y4 y5 := by
  intro n
  induction n with
  | zero => intro _ _ _ _ _ _ ; exact id
  | succ n ih =>
    intro _ _ _ _ _ _ 
    unfold wbX12_parts_66
    with_reducible repeat' (first | exact id | exact ih _ _ _ _ _ _ | exact hK26 _ _ _ _ _ | exact hpost _ _ | refine mn_wbX12_parts_114 (fun _ _ _ _ _ _ => ?_) (fun _ _ => ?_) | refine mn_wpX12_sumOf (fun _ _ => ?_) | refine And.imp ?_ ?_ | refine forall_imp fun _ => ?_ | refine Exists.imp fun _ => ?_)
theorem mn_wbX12_parts_195 {post post' : Int32 → St → Prop} (hpost : ∀ x0 x1, post x0 x1 → post' x0 x1) : ∀ (n : Nat) (y0 : Int32) (y1 : Int32) (y2 : Int32) (y3 : Int32) (y4 : Int32) (y5 : St), wbX12_parts_195 post n y0 y1 y2 y3 y4 y5 → wbX12_parts_195 post' n y0 y1 y2 y3 y4 y5 := by
  intro n
  induction n with
  | zero => intro _ _ _ _ _ _ ; exact id
  | succ n ih =>
    intro _ _ _ _ _ _ 
    unfold wbX12_parts_195
    with_reducible repeat' (first | exact id | exact ih _ _ _ _ _ _ | exact hpost _ _ | refine mn_wbX12_parts_253 (fun _ _ => ?_) | refine And.imp ?_ ?_ | refine forall_imp fun _ => ?_ | refine Exists.imp fun _ => ?_)
theorem mn_wbX12_parts_26 {post post' : Int32 → St → Prop} (hpost : ∀ x0 x1, post x0 x1 → post' x0 x1) : ∀ (n : Nat) (y0 : Int32) (y1 : Int32) (y2 : Int32) (y3 : Int32) (y4 : St), wbX12_parts_26 post n y0 y1 y2 y3 y4 → wbX12_parts_26 post' n y0 y1 y2 y3 y4 := by
  intro n
  induction n with
  | zero => intro _ _ _ _ _ ; exact id
  | succ n ih =>
    intro _ _ _ _ _ 
    unfold wbX12_parts_26
    with_reducible repeat' (first | exact id | exact ih _ _ _ _ _ | exact hpost _ _ | refine mn_wbX12_parts_195 (fun _ _ => ?_) _ _ _ _ _ _ _ | refine mn_wpX12_isLet (fun _ _ => ?_) | refine mn_wpX12_runs (fun _ => ?_) | refine mn_wbX12_parts_66 (fun _ _ _ _ _ => ?_) (fun _ _ => ?_) _ _ _ _ _ _ _ | refine And.imp ?_ ?_ | refine forall_imp fun _ => ?_ | refine Exists.imp fun _ => ?_)
theorem mn_wpX12_parts {a1 : Int32} {a2 : Int32} {σ : St} {post post' : Int32 → St → Prop} (hpost : ∀ x0 x1, post x0 x1 → post' x0 x1) : wpX12_parts a1 a2 σ post → wpX12_parts a1 a2 σ post' := by
  unfold wpX12_parts
  with_reducible repeat' (first | exact id | exact hpost _ _ | refine mn_wpX12_in (fun _ _ => ?_) | refine mn_wbX12_parts_26 (fun _ _ => ?_) _ _ _ _ _ _ | refine And.imp ?_ ?_ | refine forall_imp fun _ => ?_ | refine Exists.imp fun _ => ?_)
theorem mn_wpX12_image {σ : St} {post post' : Int32 → St → Prop} (hpost : ∀ x0 x1, post x0 x1 → post' x0 x1) : wpX12_image σ post → wpX12_image σ post' := by
  unfold wpX12_image
  with_reducible repeat' (first | exact id | exact hpost _ _ | refine mn_wpX12_copies (fun _ => ?_) | refine And.imp ?_ ?_ | refine forall_imp fun _ => ?_ | refine Exists.imp fun _ => ?_)
theorem mn_wpX12_back {σ : St} {post post' : Int32 → St → Prop} (hpost : ∀ x0 x1, post x0 x1 → post' x0 x1) : wpX12_back σ post → wpX12_back σ post' := by
  unfold wpX12_back
  with_reducible repeat' (first | exact id | exact hpost _ _ | refine mn_wpX12_copies (fun _ => ?_) | refine And.imp ?_ ?_ | refine forall_imp fun _ => ?_ | refine Exists.imp fun _ => ?_)
theorem mn_wpX12_about {a1 : Int32} {σ : St} {post post' : Int32 → St → Prop} (hpost : ∀ x0 x1, post x0 x1 → post' x0 x1) : wpX12_about a1 σ post → wpX12_about a1 σ post' := by
  unfold wpX12_about
  with_reducible repeat' (first | exact id | exact hpost _ _ | refine mn_wpX12_in (fun _ _ => ?_) | refine And.imp ?_ ?_ | refine forall_imp fun _ => ?_ | refine Exists.imp fun _ => ?_)
