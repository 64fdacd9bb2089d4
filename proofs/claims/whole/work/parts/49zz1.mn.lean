/-! posts may be weakened (2) -/
theorem mn_wbX8_ask_30 {K4 K4' : Int32 → Int32 → St → Prop} (hK4 : ∀ x0 x1 x2, K4 x0 x1 x2 → K4' x0 x1 x2) {post post' : St → Prop} (hpost : ∀ x0, post x0 → post' x0) {v1 : Int32} {v2 : Int32} {σ : St} : wbX8_ask_30 K4 post v1 v2 σ → wbX8_ask_30 K4' post' v1 v2 σ := by
  unfold wbX8_ask_30
  with_reducible repeat' (first | exact id | exact hK4 _ _ _ | exact hpost _ | refine mn_wpX8_advance (fun _ => ?_) | refine And.imp ?_ ?_ | refine forall_imp fun _ => ?_ | refine Exists.imp fun _ => ?_)
theorem mn_wbX8_ask_43 {post post' : St → Prop} (hpost : ∀ x0, post x0 → post' x0) {v1 : Int32} {σ : St} : wbX8_ask_43 post v1 σ → wbX8_ask_43 post' v1 σ := by
  unfold wbX8_ask_43
  with_reducible repeat' (first | exact id | exact hpost _ | refine mn_wpX8_sum (by first | exact hR | exact mn_wr_12 _ | exact mn_wr2_12 _) (fun _ => ?_) | refine mn_wr_12 _ _ _ _ _ _ (fun _ => ?_) | refine mn_wbX8_ask_65 (fun _ _ _ => ?_) (fun _ => ?_) | refine mn_wbX8_ask_70 (fun _ => ?_) | refine And.imp ?_ ?_ | refine forall_imp fun _ => ?_ | refine Exists.imp fun _ => ?_)
theorem mn_wbX8_ask_4 {post post' : St → Prop} (hpost : ∀ x0, post x0 → post' x0) : ∀ (n : Nat) (y0 : Int32) (y1 : Int32) (y2 : St), wbX8_ask_4 post n y0 y1 y2 → wbX8_ask_4 post' n y0 y1 y2 := by
  intro n
  induction n with
  | zero => intro _ _ _ ; exact id
  | succ n ih =>
    intro _ _ _ 
    unfold wbX8_ask_4
    with_reducible repeat' (first | exact id | exact ih _ _ _ | exact hpost _ | refine mn_wbX8_ask_43 (fun _ => ?_) | refine mn_wbX8_ask_30 (fun _ _ _ => ?_) (fun _ => ?_) | refine mn_wpX8_fail (fun _ => ?_) | refine And.imp ?_ ?_ | refine forall_imp fun _ => ?_ | refine Exists.imp fun _ => ?_)
theorem mn_wpX8_ask {σ : St} {post post' : St → Prop} (hpost : ∀ x0, post x0 → post' x0) : wpX8_ask σ post → wpX8_ask σ post' := by
  unfold wpX8_ask
  with_reducible repeat' (first | exact id | exact hpost _ | refine mn_wbX8_ask_4 (fun _ => ?_) _ _ _ _ | refine And.imp ?_ ?_ | refine forall_imp fun _ => ?_ | refine Exists.imp fun _ => ?_)
theorem mn_wbX8_either_77 {K4 K4' : Int32 → Int32 → St → Prop} (hK4 : ∀ x0 x1 x2, K4 x0 x1 x2 → K4' x0 x1 x2) {post post' : St → Prop} (hpost : ∀ x0, post x0 → post' x0) {v1 : Int32} {v2 : Int32} {σ : St} : wbX8_either_77 K4 post v1 v2 σ → wbX8_either_77 K4' post' v1 v2 σ := by
  unfold wbX8_either_77
  with_reducible repeat' (first | exact id | exact hK4 _ _ _ | exact hpost _ | refine mn_wpX9_put (fun _ => ?_) | refine And.imp ?_ ?_ | refine forall_imp fun _ => ?_ | refine Exists.imp fun _ => ?_)
theorem mn_wbX8_either_38 {K4 K4' : Int32 → Int32 → St → Prop} (hK4 : ∀ x0 x1 x2, K4 x0 x1 x2 → K4' x0 x1 x2) {post post' : St → Prop} (hpost : ∀ x0, post x0 → post' x0) : ∀ (n : Nat) (y0 : Int32) (y1 : Int32) (y2 : Int32) (y3 : St), wbX8_either_38 K4 post n y0 y1 y2 y3 → wbX8_either_38 K4' post' n y0 y1 y2 y3 := by
  intro n
  induction n with
  | zero => intro _ _ _ _ ; exact id
  | succ n ih =>
    intro _ _ _ _ 
    unfold wbX8_either_38
    with_reducible repeat' (first | exact id | exact ih _ _ _ _ | exact hK4 _ _ _ | exact hpost _ | refine mn_wbX8_either_77 (fun _ _ _ => ?_) (fun _ => ?_) | refine mn_wpX8_advance (fun _ => ?_) | refine mn_wpX8_ask (fun _ => ?_) | refine mn_wpX9_put (fun _ => ?_) | refine And.imp ?_ ?_ | refine forall_imp fun _ => ?_ | refine Exists.imp fun _ => ?_)
theorem mn_wbX8_either_32 {K4 K4' : Int32 → Int32 → St → Prop} (hK4 : ∀ x0 x1 x2, K4 x0 x1 x2 → K4' x0 x1 x2) {post post' : St → Prop} (hpost : ∀ x0, post x0 → post' x0) {v1 : Int32} {v2 : Int32} {σ : St} : wbX8_either_32 K4 post v1 v2 σ → wbX8_either_32 K4' post' v1 v2 σ := by
  unfold wbX8_either_32
  with_reducible repeat' (first | exact id | exact hK4 _ _ _ | exact hpost _ | refine mn_wpX8_ask (fun _ => ?_) | refine mn_wbX8_either_38 (fun _ _ _ => ?_) (fun _ => ?_) _ _ _ _ _ | refine And.imp ?_ ?_ | refine forall_imp fun _ => ?_ | refine Exists.imp fun _ => ?_)
theorem mn_wbX8_either_24 {K4 K4' : Int32 → Int32 → St → Prop} (hK4 : ∀ x0 x1 x2, K4 x0 x1 x2 → K4' x0 x1 x2) {post post' : St → Prop} (hpost : ∀ x0, post x0 → post' x0) {v1 : Int32} {v2 : Int32} {σ : St} : wbX8_either_24 K4 post v1 v2 σ → wbX8_either_24 K4' post' v1 v2 σ := by
  unfold wbX8_either_24
  with_reducible repeat' (first | exact id | exact hK4 _ _ _ | exact hpost _ | refine mn_wbX8_either_32 (fun _ _ _ => ?_) (fun _ => ?_) | refine mn_wpX8_advance (fun _ => ?_) | refine And.imp ?_ ?_ | refine forall_imp fun _ => ?_ | refine Exists.imp fun _ => ?_)
theorem mn_wbX8_either_4 {post post' : St → Prop} (hpost : ∀ x0, post x0 → post' x0) : ∀ (n : Nat) (y0 : Int32) (y1 : Int32) (y2 : St), wbX8_either_4 post n y0 y1 y2 → wbX8_either_4 post' n y0 y1 y2 := by
  intro n
  induction n with
  | zero => intro _ _ _ ; exact id
  | succ n ih =>
    intro _ _ _ 
    unfold wbX8_either_4
    with_reducible repeat' (first | exact id | exact ih _ _ _ | exact hpost _ | refine mn_wbX8_either_24 (fun _ _ _ => ?_) (fun _ => ?_) | refine And.imp ?_ ?_ | refine forall_imp fun _ => ?_ | refine Exists.imp fun _ => ?_)
theorem mn_wpX8_either {σ : St} {post post' : St → Prop} (hpost : ∀ x0, post x0 → post' x0) : wpX8_either σ post → wpX8_either σ post' := by
  unfold wpX8_either
  with_reducible repeat' (first | exact id | exact hpost _ | refine mn_wbX8_either_4 (fun _ => ?_) _ _ _ _ | refine And.imp ?_ ?_ | refine forall_imp fun _ => ?_ | refine Exists.imp fun _ => ?_)
theorem mn_wbX8_clause_151 {post post' : St → Prop} (hpost : ∀ x0, post x0 → post' x0) {σ : St} : wbX8_clause_151 post σ → wbX8_clause_151 post' σ := by
  unfold wbX8_clause_151
  with_reducible repeat' (first | exact id | exact hpost _ | refine mn_wpX8_expect (fun _ => ?_) | refine And.imp ?_ ?_ | refine forall_imp fun _ => ?_ | refine Exists.imp fun _ => ?_)
theorem mn_wbX8_clause_93 {post post' : St → Prop} (hpost : ∀ x0, post x0 → post' x0) {v2 : Int32} {s0 : Int32} {s1 : Int32} {σ : St} : wbX8_clause_93 post v2 s0 s1 σ → wbX8_clause_93 post' v2 s0 s1 σ := by
  unfold wbX8_clause_93
  with_reducible repeat' (first | exact id | exact hpost _ | refine mn_wpX8_advance (fun _ => ?_) | refine mn_wpX8_window (fun _ => ?_) | refine mn_wbX8_clause_151 (fun _ => ?_) | refine mn_wpX8_either (fun _ => ?_) | refine mn_wpX9_put (fun _ => ?_) | refine mn_wpX8_sum (by first | exact hR | exact mn_wr_12 _ | exact mn_wr2_12 _) (fun _ => ?_) | refine mn_wr_12 _ _ _ _ _ _ (fun _ => ?_) | refine And.imp ?_ ?_ | refine forall_imp fun _ => ?_ | refine Exists.imp fun _ => ?_)
theorem mn_wbX8_clause_35 {K66 K66' : Int32 → St → Prop} (hK66 : ∀ x0 x1, K66 x0 x1 → K66' x0 x1) {post post' : St → Prop} (hpost : ∀ x0, post x0 → post' x0) {v1 : Int32} {v2 : Int32} {σ : St} : wbX8_clause_35 K66 post v1 v2 σ → wbX8_clause_35 K66' post' v1 v2 σ := by
  unfold wbX8_clause_35
  with_reducible repeat' (first | exact id | exact hK66 _ _ | exact hpost _ | refine mn_wpX8_fail (fun _ => ?_) | refine And.imp ?_ ?_ | refine forall_imp fun _ => ?_ | refine Exists.imp fun _ => ?_)
theorem mn_wbX8_clause_66 {post post' : St → Prop} (hpost : ∀ x0, post x0 → post' x0) {v2 : Int32} {σ : St} : wbX8_clause_66 post v2 σ → wbX8_clause_66 post' v2 σ := by
  unfold wbX8_clause_66
  with_reducible repeat' (first | exact id | exact hpost _ | refine mn_wbX8_clause_93 (fun _ => ?_) | refine And.imp ?_ ?_ | refine forall_imp fun _ => ?_ | refine Exists.imp fun _ => ?_)
theorem mn_wpX8_clause {a1 : Int32} {σ : St} {post post' : St → Prop} (hpost : ∀ x0, post x0 → post' x0) : wpX8_clause a1 σ post → wpX8_clause a1 σ post' := by
  unfold wpX8_clause
  with_reducible repeat' (first | exact id | exact hpost _ | refine mn_wbX8_clause_35 (fun _ _ => ?_) (fun _ => ?_) | refine mn_wbX8_clause_66 (fun _ => ?_) | refine mn_wpX8_fail (fun _ => ?_) | refine And.imp ?_ ?_ | refine forall_imp fun _ => ?_ | refine Exists.imp fun _ => ?_)
theorem mn_wpX9_clear {k0 : Nat} {σ : St} {post post' : St → Prop} (hpost : ∀ x0, post x0 → post' x0) : wpX9_clear k0 σ post → wpX9_clear k0 σ post' := by
  unfold wpX9_clear
  with_reducible repeat' (first | exact id | exact hpost _ | refine And.imp ?_ ?_ | refine forall_imp fun _ => ?_ | refine Exists.imp fun _ => ?_)
theorem mn_wbX8_wordOf_52 {K24 K24' : Int32 → Int32 → Int32 → Int32 → Int32 → St → Prop} (hK24 : ∀ x0 x1 x2 x3 x4 x5, K24 x0 x1 x2 x3 x4 x5 → K24' x0 x1 x2 x3 x4 x5) {post post' : Int32 → St → Prop} (hpost : ∀ x0 x1, post x0 x1 → post' x0 x1) {v1 : Int32} {v2 : Int32} {v3 : Int32} {v4 : Int32} {v5 : Int32} {s0 : Int32} {σ : St} : wbX8_wordOf_52 K24 post v1 v2 v3 v4 v5 s0 σ → wbX8_wordOf_52 K24' post' v1 v2 v3 v4 v5 s0 σ := by
  unfold wbX8_wordOf_52
  with_reducible repeat' (first | exact id | exact hK24 _ _ _ _ _ _ | exact hpost _ _ | refine mn_wpJ0_charAt_5068e (fun _ _ => ?_) | refine And.imp ?_ ?_ | refine forall_imp fun _ => ?_ | refine Exists.imp fun _ => ?_)
theorem mn_wbX8_wordOf_24 {K12 K12' : Int32 → Int32 → Int32 → St → Prop} (hK12 : ∀ x0 x1 x2 x3, K12 x0 x1 x2 x3 → K12' x0 x1 x2 x3) {post post' : Int32 → St → Prop} (hpost : ∀ x0 x1, post x0 x1 → post' x0 x1) : ∀ (n : Nat) (y0 : Int32) (y1 : Int32) (y2 : Int32) (y3 : Int32) (y4 : Int32) (y5 : St), wbX8_wordOf_24 K12 post n y0 y1 y2 y3 y4 y5 → wbX8_wordOf_24 K12' post' n y0 y1 y2 y3 y4 y5 := by
  intro n
  induction n with
  | zero => intro _ _ _ _ _ _ ; exact id
  | succ n ih =>
    intro _ _ _ _ _ _ 
    unfold wbX8_wordOf_24
    with_reducible repeat' (first | exact id | exact ih _ _ _ _ _ _ | exact hK12 _ _ _ _ | exact hpost _ _ | refine mn_wbX8_wordOf_52 (fun _ _ _ _ _ _ => ?_) (fun _ _ => ?_) | refine And.imp ?_ ?_ | refine forall_imp fun _ => ?_ | refine Exists.imp fun _ => ?_)
theorem mn_wbX8_wordOf_12 {post post' : Int32 → St → Prop} (hpost : ∀ x0 x1, post x0 x1 → post' x0 x1) : ∀ (n : Nat) (y0 : Int32) (y1 : Int32) (y2 : Int32) (y3 : St), wbX8_wordOf_12 post n y0 y1 y2 y3 → wbX8_wordOf_12 post' n y0 y1 y2 y3 := by
  intro n
  induction n with
  | zero => intro _ _ _ _ ; exact id
  | succ n ih =>
    intro _ _ _ _ 
    unfold wbX8_wordOf_12
    with_reducible repeat' (first | exact id | exact ih _ _ _ _ | exact hpost _ _ | refine mn_wbX8_wordOf_24 (fun _ _ _ _ => ?_) (fun _ _ => ?_) _ _ _ _ _ _ _ | refine And.imp ?_ ?_ | refine forall_imp fun _ => ?_ | refine Exists.imp fun _ => ?_)
theorem mn_wpX8_wordOf {a1 : Int32} {a2 : Int32} {σ : St} {post post' : Int32 → St → Prop} (hpost : ∀ x0 x1, post x0 x1 → post' x0 x1) : wpX8_wordOf a1 a2 σ post → wpX8_wordOf a1 a2 σ post' := by
  unfold wpX8_wordOf
  with_reducible repeat' (first | exact id | exact hpost _ _ | refine mn_wbX8_wordOf_12 (fun _ _ => ?_) _ _ _ _ _ | refine And.imp ?_ ?_ | refine forall_imp fun _ => ?_ | refine Exists.imp fun _ => ?_)
theorem mn_wbX8_isLetter_12 {post post' : Int32 → St → Prop} (hpost : ∀ x0 x1, post x0 x1 → post' x0 x1) {v0 : Int32} {σ : St} : wbX8_isLetter_12 post v0 σ → wbX8_isLetter_12 post' v0 σ := by
  unfold wbX8_isLetter_12
  with_reducible repeat' (first | exact id | exact hpost _ _ | refine And.imp ?_ ?_ | refine forall_imp fun _ => ?_ | refine Exists.imp fun _ => ?_)
theorem mn_wpX8_isLetter {a1 : Int32} {σ : St} {post post' : Int32 → St → Prop} (hpost : ∀ x0 x1, post x0 x1 → post' x0 x1) : wpX8_isLetter a1 σ post → wpX8_isLetter a1 σ post' := by
  unfold wpX8_isLetter
  with_reducible repeat' (first | exact id | exact hpost _ _ | refine mn_wbX8_isLetter_12 (fun _ _ => ?_) | refine And.imp ?_ ?_ | refine forall_imp fun _ => ?_ | refine Exists.imp fun _ => ?_)
theorem mn_wpX8_isDigit {a1 : Int32} {σ : St} {post post' : Int32 → St → Prop} (hpost : ∀ x0 x1, post x0 x1 → post' x0 x1) : wpX8_isDigit a1 σ post → wpX8_isDigit a1 σ post' := by
  unfold wpX8_isDigit
  with_reducible repeat' (first | exact id | exact hpost _ _ | refine And.imp ?_ ?_ | refine forall_imp fun _ => ?_ | refine Exists.imp fun _ => ?_)
theorem mn_wbX8_cutOne_215 {post post' : Int32 → St → Prop} (hpost : ∀ x0 x1, post x0 x1 → post' x0 x1) {v4 : Int32} {v5 : Int32} {s0 : Int32} {s1 : Int32} {s2 : Int32} {σ : St} : wbX8_cutOne_215 post v4 v5 s0 s1 s2 σ → wbX8_cutOne_215 post' v4 v5 s0 s1 s2 σ := by
  unfold wbX8_cutOne_215
  with_reducible repeat' (first | exact id | exact hpost _ _ | refine And.imp ?_ ?_ | refine forall_imp fun _ => ?_ | refine Exists.imp fun _ => ?_)
theorem mn_wbX8_cutOne_205 {post post' : Int32 → St → Prop} (hpost : ∀ x0 x1, post x0 x1 → post' x0 x1) {v4 : Int32} {v5 : Int32} {s0 : Int32} {s1 : Int32} {σ : St} : wbX8_cutOne_205 post v4 v5 s0 s1 σ → wbX8_cutOne_205 post' v4 v5 s0 s1 σ := by
  unfold wbX8_cutOne_205
  with_reducible repeat' (first | exact id | exact hpost _ _ | refine mn_wbX8_cutOne_215 (fun _ _ => ?_) | refine And.imp ?_ ?_ | refine forall_imp fun _ => ?_ | refine Exists.imp fun _ => ?_)
theorem mn_wbX8_cutOne_47 {post post' : Int32 → St → Prop} (hpost : ∀ x0 x1, post x0 x1 → post' x0 x1) {v1 : Int32} {v2 : Int32} {v4 : Int32} {σ : St} : wbX8_cutOne_47 post v1 v2 v4 σ → wbX8_cutOne_47 post' v1 v2 v4 σ := by
  unfold wbX8_cutOne_47
  with_reducible repeat' (first | exact id | exact hpost _ _ | refine mn_wpX8_wordOf (fun _ _ => ?_) | refine And.imp ?_ ?_ | refine forall_imp fun _ => ?_ | refine Exists.imp fun _ => ?_)
theorem mn_wbX8_cutOne_128 {post post' : Int32 → St → Prop} (hpost : ∀ x0 x1, post x0 x1 → post' x0 x1) {v1 : Int32} {v4 : Int32} {v5 : Int32} {σ : St} : wbX8_cutOne_128 post v1 v4 v5 σ → wbX8_cutOne_128 post' v1 v4 v5 σ := by
  unfold wbX8_cutOne_128
  with_reducible repeat' (first | exact id | exact hpost _ _ | refine And.imp ?_ ?_ | refine forall_imp fun _ => ?_ | refine Exists.imp fun _ => ?_)
theorem mn_wbX8_cutOne_185 {post post' : Int32 → St → Prop} (hpost : ∀ x0 x1, post x0 x1 → post' x0 x1) {v1 : Int32} {v3 : Int32} {v4 : Int32} {s0 : Int32} {σ : St} : wbX8_cutOne_185 post v1 v3 v4 s0 σ → wbX8_cutOne_185 post' v1 v3 v4 s0 σ := by
  unfold wbX8_cutOne_185
  with_reducible repeat' (first | exact id | exact hpost _ _ | refine mn_wbX8_cutOne_205 (fun _ _ => ?_) | refine And.imp ?_ ?_ | refine forall_imp fun _ => ?_ | refine Exists.imp fun _ => ?_)
theorem mn_wbX8_cutOne_19 {post post' : Int32 → St → Prop} (hpost : ∀ x0 x1, post x0 x1 → post' x0 x1) : ∀ (n : Nat) (y0 : Int32) (y1 : Int32) (y2 : Int32) (y3 : St), wbX8_cutOne_19 post n y0 y1 y2 y3 → wbX8_cutOne_19 post' n y0 y1 y2 y3 := by
  intro n
  induction n with
  | zero => intro _ _ _ _ ; exact id
  | succ n ih =>
    intro _ _ _ _ 
    unfold wbX8_cutOne_19
    with_reducible repeat' (first | exact id | exact ih _ _ _ _ | exact hpost _ _ | refine mn_wbX8_cutOne_47 (fun _ _ => ?_) | refine mn_wpX8_isLetter (fun _ _ => ?_) | refine And.imp ?_ ?_ | refine forall_imp fun _ => ?_ | refine Exists.imp fun _ => ?_)
theorem mn_wbX8_cutOne_76 {post post' : Int32 → St → Prop} (hpost : ∀ x0 x1, post x0 x1 → post' x0 x1) : ∀ (n : Nat) (y0 : Int32) (y1 : Int32) (y2 : Int32) (y3 : St), wbX8_cutOne_76 post n y0 y1 y2 y3 → wbX8_cutOne_76 post' n y0 y1 y2 y3 := by
  intro n
  induction n with
  | zero => intro _ _ _ _ ; exact id
  | succ n ih =>
    intro _ _ _ _ 
    unfold wbX8_cutOne_76
    with_reducible repeat' (first | exact id | exact ih _ _ _ _ | exact hpost _ _ | refine mn_wbX8_cutOne_128 (fun _ _ => ?_) | refine mn_wpX8_isDigit (fun _ _ => ?_) | refine And.imp ?_ ?_ | refine forall_imp fun _ => ?_ | refine Exists.imp fun _ => ?_)
theorem mn_wbX8_cutOne_159 {post post' : Int32 → St → Prop} (hpost : ∀ x0 x1, post x0 x1 → post' x0 x1) {v1 : Int32} {v3 : Int32} {v4 : Int32} {σ : St} : wbX8_cutOne_159 post v1 v3 v4 σ → wbX8_cutOne_159 post' v1 v3 v4 σ := by
  unfold wbX8_cutOne_159
  with_reducible repeat' (first | exact id | exact hpost _ _ | refine mn_wbX8_cutOne_185 (fun _ _ => ?_) | refine And.imp ?_ ?_ | refine forall_imp fun _ => ?_ | refine Exists.imp fun _ => ?_)
theorem mn_wpX8_cutOne {a1 : Int32} {a2 : Int32} {σ : St} {post post' : Int32 → St → Prop} (hpost : ∀ x0 x1, post x0 x1 → post' x0 x1) : wpX8_cutOne a1 a2 σ post → wpX8_cutOne a1 a2 σ post' := by
  unfold wpX8_cutOne
  with_reducible repeat' (first | exact id | exact hpost _ _ | refine mn_wpX8_isLetter (fun _ _ => ?_) | refine mn_wpX8_isDigit (fun _ _ => ?_) | refine mn_wbX8_cutOne_159 (fun _ _ => ?_) | refine mn_wpJ0_indexOf_0f7a4 (fun _ _ => ?_) | refine mn_wbX8_cutOne_76 (fun _ _ => ?_) _ _ _ _ _ | refine mn_wbX8_cutOne_19 (fun _ _ => ?_) _ _ _ _ _ | refine And.imp ?_ ?_ | refine forall_imp fun _ => ?_ | refine Exists.imp fun _ => ?_)
theorem mn_wbX8_cut_72 {post post' : St → Prop} (hpost : ∀ x0, post x0 → post' x0) {v1 : Int32} {σ : St} : wbX8_cut_72 post v1 σ → wbX8_cut_72 post' v1 σ := by
  unfold wbX8_cut_72
  with_reducible repeat' (first | exact id | exact hpost _ | refine And.imp ?_ ?_ | refine forall_imp fun _ => ?_ | refine Exists.imp fun _ => ?_)
theorem mn_wbX8_cut_6 {post post' : St → Prop} (hpost : ∀ x0, post x0 → post' x0) : ∀ (n : Nat) (y0 : Int32) (y1 : Int32) (y2 : Int32) (y3 : St), wbX8_cut_6 post n y0 y1 y2 y3 → wbX8_cut_6 post' n y0 y1 y2 y3 := by
  intro n
  induction n with
  | zero => intro _ _ _ _ ; exact id
  | succ n ih =>
    intro _ _ _ _ 
    unfold wbX8_cut_6
    with_reducible repeat' (first | exact id | exact ih _ _ _ _ | exact hpost _ | refine mn_wbX8_cut_72 (fun _ => ?_) | refine mn_wpX8_cutOne (fun _ _ => ?_) | refine And.imp ?_ ?_ | refine forall_imp fun _ => ?_ | refine Exists.imp fun _ => ?_)
theorem mn_wpX8_cut {σ : St} {post post' : St → Prop} (hpost : ∀ x0, post x0 → post' x0) : wpX8_cut σ post → wpX8_cut σ post' := by
  unfold wpX8_cut
  with_reducible repeat' (first | exact id | exact hpost _ | refine mn_wbX8_cut_6 (fun _ => ?_) _ _ _ _ _ | refine And.imp ?_ ?_ | refine forall_imp fun _ => ?_ | refine Exists.imp fun _ => ?_)
theorem mn_wbX8_read_83 {k1 : Nat} {post post' : Int32 → St → Prop} (hpost : ∀ x0 x1, post x0 x1 → post' x0 x1) {σ : St} : wbX8_read_83 k1 post σ → wbX8_read_83 k1 post' σ := by
  unfold wbX8_read_83
  with_reducible repeat' (first | exact id | exact hpost _ _ | refine And.imp ?_ ?_ | refine forall_imp fun _ => ?_ | refine Exists.imp fun _ => ?_)
theorem mn_wbX8_read_48 {k1 : Nat} {post post' : Int32 → St → Prop} (hpost : ∀ x0 x1, post x0 x1 → post' x0 x1) : ∀ (n : Nat) (y0 : Int32) (y1 : St), wbX8_read_48 k1 post n y0 y1 → wbX8_read_48 k1 post' n y0 y1 := by
  intro n
  induction n with
  | zero => intro _ _ ; exact id
  | succ n ih =>
    intro _ _ 
    unfold wbX8_read_48
    with_reducible repeat' (first | exact id | exact ih _ _ | exact hpost _ _ | refine mn_wbX8_read_83 (fun _ _ => ?_) | refine mn_wpX8_clause (fun _ => ?_) | refine And.imp ?_ ?_ | refine forall_imp fun _ => ?_ | refine Exists.imp fun _ => ?_)
theorem mn_wpX8_read {k1 : Nat} {σ : St} {post post' : Int32 → St → Prop} (hpost : ∀ x0 x1, post x0 x1 → post' x0 x1) : wpX8_read k1 σ post → wpX8_read k1 σ post' := by
  unfold wpX8_read
  with_reducible repeat' (first | exact id | exact hpost _ _ | refine mn_wpX9_clear (fun _ => ?_) | refine mn_wpX8_cut (fun _ => ?_) | refine mn_wbX8_read_48 (fun _ _ => ?_) _ _ _ | refine And.imp ?_ ?_ | refine forall_imp fun _ => ?_ | refine Exists.imp fun _ => ?_)
theorem mn_wpX10_in {a1 : Int32} {a2 : Int32} {σ : St} {post post' : Int32 → St → Prop} (hpost : ∀ x0 x1, post x0 x1 → post' x0 x1) : wpX10_in a1 a2 σ post → wpX10_in a1 a2 σ post' := by
  unfold wpX10_in
  with_reducible repeat' (first | exact id | exact hpost _ _ | refine mn_wpX0_between (fun _ _ => ?_) | refine And.imp ?_ ?_ | refine forall_imp fun _ => ?_ | refine Exists.imp fun _ => ?_)
theorem mn_wpX10_livingAt {a1 : Int32} {a2 : Int32} {σ : St} {post post' : Int32 → St → Prop} (hpost : ∀ x0 x1, post x0 x1 → post' x0 x1) : wpX10_livingAt a1 a2 σ post → wpX10_livingAt a1 a2 σ post' := by
  unfold wpX10_livingAt
  with_reducible repeat' (first | exact id | exact hpost _ _ | refine mn_wpX0_between (fun _ _ => ?_) | refine And.imp ?_ ?_ | refine forall_imp fun _ => ?_ | refine Exists.imp fun _ => ?_)
theorem mn_wbX10_peak_7 {post post' : Int32 → St → Prop} (hpost : ∀ x0 x1, post x0 x1 → post' x0 x1) : ∀ (n : Nat) (y0 : Int32) (y1 : Int32) (y2 : Int32) (y3 : Int32) (y4 : St), wbX10_peak_7 post n y0 y1 y2 y3 y4 → wbX10_peak_7 post' n y0 y1 y2 y3 y4 := by
  intro n
  induction n with
  | zero => intro _ _ _ _ _ ; exact id
  | succ n ih =>
    intro _ _ _ _ _ 
    unfold wbX10_peak_7
    with_reducible repeat' (first | exact id | exact ih _ _ _ _ _ | exact hpost _ _ | refine mn_wpX10_in (fun _ _ => ?_) | refine And.imp ?_ ?_ | refine forall_imp fun _ => ?_ | refine Exists.imp fun _ => ?_)
theorem mn_wpX10_peak {a1 : Int32} {σ : St} {post post' : Int32 → St → Prop} (hpost : ∀ x0 x1, post x0 x1 → post' x0 x1) : wpX10_peak a1 σ post → wpX10_peak a1 σ post' := by
  unfold wpX10_peak
  with_reducible repeat' (first | exact id | exact hpost _ _ | refine mn_wbX10_peak_7 (fun _ _ => ?_) _ _ _ _ _ _ | refine And.imp ?_ ?_ | refine forall_imp fun _ => ?_ | refine Exists.imp fun _ => ?_)
theorem mn_wbX10_slope_11 {post post' : Int32 → St → Prop} (hpost : ∀ x0 x1, post x0 x1 → post' x0 x1) : ∀ (n : Nat) (y0 : Int32) (y1 : Int32) (y2 : Int32) (y3 : Int32) (y4 : Int32) (y5 : St), wbX10_slope_11 post n y0 y1 y2 y3 y4 y5 → wbX10_slope_11 post' n y0 y1 y2 y3 y4 y5 := by
  intro n
  induction n with
  | zero => intro _ _ _ _ _ _ ; exact id
  | succ n ih =>
    intro _ _ _ _ _ _ 
    unfold wbX10_slope_11
    with_reducible repeat' (first | exact id | exact ih _ _ _ _ _ _ | exact hpost _ _ | refine mn_wpX4_wentBy (fun _ _ => ?_) | refine mn_wpX10_in (fun _ _ => ?_) | refine And.imp ?_ ?_ | refine forall_imp fun _ => ?_ | refine Exists.imp fun _ => ?_)
theorem mn_wpX10_slope {a1 : Int32} {a2 : Int32} {a3 : Int32} {σ : St} {post post' : Int32 → St → Prop} (hpost : ∀ x0 x1, post x0 x1 → post' x0 x1) : wpX10_slope a1 a2 a3 σ post → wpX10_slope a1 a2 a3 σ post' := by
  unfold wpX10_slope
  with_reducible repeat' (first | exact id | exact hpost _ _ | refine mn_wpX10_in (fun _ _ => ?_) | refine mn_wbX10_slope_11 (fun _ _ => ?_) _ _ _ _ _ _ _ | refine And.imp ?_ ?_ | refine forall_imp fun _ => ?_ | refine Exists.imp fun _ => ?_)
theorem mn_wpJ6_compare_7cf53 {a1 : Int32} {a2 : Int32} {σ : St} {post post' : Int32 → St → Prop} (hpost : ∀ x0 x1, post x0 x1 → post' x0 x1) : wpJ6_compare_7cf53 a1 a2 σ post → wpJ6_compare_7cf53 a1 a2 σ post' := by
  unfold wpJ6_compare_7cf53
  with_reducible repeat' (first | exact id | exact hpost _ _ | refine And.imp ?_ ?_ | refine forall_imp fun _ => ?_ | refine Exists.imp fun _ => ?_)
theorem mn_wbX10_pairs_146 {K73 K73' : Int32 → Int32 → Int32 → Int32 → Int32 → St → Prop} (hK73 : ∀ x0 x1 x2 x3 x4 x5, K73 x0 x1 x2 x3 x4 x5 → K73' x0 x1 x2 x3 x4 x5) {post post' : Int32 → St → Prop} (hpost : ∀ x0 x1, post x0 x1 → post' x0 x1) {v1 : Int32} {v2 : Int32} {v3 : Int32} {v4 : Int32} {v5 : Int32} {s0 : Int32} {s1 : Int32} {σ : St} : wbX10_pairs_146 K73 post v1 v2 v3 v4 v5 s0 s1 σ → wbX10_pairs_146 K73' post' v1 v2 v3 v4 v5 s0 s1 σ := by
  unfold wbX10_pairs_146
  with_reducible repeat' (first | exact id | exact hK73 _ _ _ _ _ _ | exact hpost _ _ | refine And.imp ?_ ?_ | refine forall_imp fun _ => ?_ | refine Exists.imp fun _ => ?_)
theorem mn_wbX10_pairs_73 {K4 K4' : Int32 → Int32 → Int32 → St → Prop} (hK4 : ∀ x0 x1 x2 x3, K4 x0 x1 x2 x3 → K4' x0 x1 x2 x3) {post post' : Int32 → St → Prop} (hpost : ∀ x0 x1, post x0 x1 → post' x0 x1) : ∀ (n : Nat) (y0 : Int32) (y1 : Int32) (y2 : Int32) (y3 : Int32) (y4 : Int32) (y5 : St), wbX10_pairs_73 K4 post n y0 y1 y2 y3 y4 y5 → wbX10_pairs_73 K4' post' n y0 y1 y2 y3 y4 y5 := by
  intro n
  induction n with
  | zero => intro _ _ _ _ _ _ ; exact id
  | succ n ih =>
    intro _ _ _ _ _ _ 
    unfold wbX10_pairs_73
    with_reducible repeat' (first | exact id | exact ih _ _ _ _ _ _ | exact hK4 _ _ _ _ | exact hpost _ _ | refine mn_wpJ6_compare_7cf53 (fun _ _ => ?_) | refine mn_wbX10_pairs_146 (fun _ _ _ _ _ _ => ?_) (fun _ _ => ?_) | refine And.imp ?_ ?_ | refine forall_imp fun _ => ?_ | refine Exists.imp fun _ => ?_)
theorem mn_wbX10_pairs_45 {K4 K4' : Int32 → Int32 → Int32 → St → Prop} (hK4 : ∀ x0 x1 x2 x3, K4 x0 x1 x2 x3 → K4' x0 x1 x2 x3) {post post' : Int32 → St → Prop} (hpost : ∀ x0 x1, post x0 x1 → post' x0 x1) {v1 : Int32} {v2 : Int32} {v3 : Int32} {v4 : Int32} {s0 : Int32} {s1 : Int32} {σ : St} : wbX10_pairs_45 K4 post v1 v2 v3 v4 s0 s1 σ → wbX10_pairs_45 K4' post' v1 v2 v3 v4 s0 s1 σ := by
  unfold wbX10_pairs_45
  with_reducible repeat' (first | exact id | exact hK4 _ _ _ _ | exact hpost _ _ | refine mn_wpX10_slope (fun _ _ => ?_) | refine mn_wbX10_pairs_73 (fun _ _ _ _ => ?_) (fun _ _ => ?_) _ _ _ _ _ _ _ | refine And.imp ?_ ?_ | refine forall_imp fun _ => ?_ | refine Exists.imp fun _ => ?_)
theorem mn_wbX10_pairs_4 {post post' : Int32 → St → Prop} (hpost : ∀ x0 x1, post x0 x1 → post' x0 x1) : ∀ (n : Nat) (y0 : Int32) (y1 : Int32) (y2 : Int32) (y3 : St), wbX10_pairs_4 post n y0 y1 y2 y3 → wbX10_pairs_4 post' n y0 y1 y2 y3 := by
  intro n
  induction n with
  | zero => intro _ _ _ _ ; exact id
  | succ n ih =>
    intro _ _ _ _ 
    unfold wbX10_pairs_4
    with_reducible repeat' (first | exact id | exact ih _ _ _ _ | exact hpost _ _ | refine mn_wpX10_peak (fun _ _ => ?_) | refine mn_wpX10_slope (fun _ _ => ?_) | refine mn_wbX10_pairs_45 (fun _ _ _ _ => ?_) (fun _ _ => ?_) | refine And.imp ?_ ?_ | refine forall_imp fun _ => ?_ | refine Exists.imp fun _ => ?_)
theorem mn_wpX10_pairs {a1 : Int32} {σ : St} {post post' : Int32 → St → Prop} (hpost : ∀ x0 x1, post x0 x1 → post' x0 x1) : wpX10_pairs a1 σ post → wpX10_pairs a1 σ post' := by
  unfold wpX10_pairs
  with_reducible repeat' (first | exact id | exact hpost _ _ | refine mn_wbX10_pairs_4 (fun _ _ => ?_) _ _ _ _ _ | refine And.imp ?_ ?_ | refine forall_imp fun _ => ?_ | refine Exists.imp fun _ => ?_)
theorem mn_wbX10_findThousandths_86 {K38 K38' : Int32 → Int32 → Int32 → Int32 → St → Prop} (hK38 : ∀ x0 x1 x2 x3 x4, K38 x0 x1 x2 x3 x4 → K38' x0 x1 x2 x3 x4) {post post' : St → Prop} (hpost : ∀ x0, post x0 → post' x0) {v1 : Int32} {v2 : Int32} {v3 : Int32} {v4 : Int32} {v5 : Int32} {s0 : Int32} {s1 : Int32} {σ : St} : wbX10_findThousandths_86 K38 post v1 v2 v3 v4 v5 s0 s1 σ → wbX10_findThousandths_86 K38' post' v1 v2 v3 v4 v5 s0 s1 σ := by
  unfold wbX10_findThousandths_86
  with_reducible repeat' (first | exact id | exact hK38 _ _ _ _ _ | exact hpost _ | refine mn_wpX0_between (fun _ _ => ?_) | refine And.imp ?_ ?_ | refine forall_imp fun _ => ?_ | refine Exists.imp fun _ => ?_)
theorem mn_wbX10_findThousandths_38 {K2 K2' : Int32 → St → Prop} (hK2 : ∀ x0 x1, K2 x0 x1 → K2' x0 x1) {post post' : St → Prop} (hpost : ∀ x0, post x0 → post' x0) : ∀ (n : Nat) (y0 : Int32) (y1 : Int32) (y2 : Int32) (y3 : Int32) (y4 : St), wbX10_findThousandths_38 K2 post n y0 y1 y2 y3 y4 → wbX10_findThousandths_38 K2' post' n y0 y1 y2 y3 y4 := by
  intro n
  induction n with
  | zero => intro _ _ _ _ _ ; exact id
  | succ n ih =>
    intro _ _ _ _ _ 
    unfold wbX10_findThousandths_38
    with_reducible repeat' (first | exact id | exact ih _ _ _ _ _ | exact hK2 _ _ | exact hpost _ | refine mn_wpX0_between (fun _ _ => ?_) | refine mn_wbX10_findThousandths_86 (fun _ _ _ _ _ => ?_) (fun _ => ?_) | refine And.imp ?_ ?_ | refine forall_imp fun _ => ?_ | refine Exists.imp fun _ => ?_)
theorem mn_wbX10_findThousandths_2 {post post' : St → Prop} (hpost : ∀ x0, post x0 → post' x0) : ∀ (n : Nat) (y0 : Int32) (y1 : St), wbX10_findThousandths_2 post n y0 y1 → wbX10_findThousandths_2 post' n y0 y1 := by
  intro n
  induction n with
  | zero => intro _ _ ; exact id
  | succ n ih =>
    intro _ _ 
    unfold wbX10_findThousandths_2
    with_reducible repeat' (first | exact id | exact ih _ _ | exact hpost _ | refine mn_wpX0_groupTotal (fun _ _ => ?_) | refine mn_wbX10_findThousandths_38 (fun _ _ => ?_) (fun _ => ?_) _ _ _ _ _ _ | refine And.imp ?_ ?_ | refine forall_imp fun _ => ?_ | refine Exists.imp fun _ => ?_)
theorem mn_wpX10_findThousandths {σ : St} {post post' : St → Prop} (hpost : ∀ x0, post x0 → post' x0) : wpX10_findThousandths σ post → wpX10_findThousandths σ post' := by
  unfold wpX10_findThousandths
  with_reducible repeat' (first | exact id | exact hpost _ | refine mn_wbX10_findThousandths_2 (fun _ => ?_) _ _ _ | refine And.imp ?_ ?_ | refine forall_imp fun _ => ?_ | refine Exists.imp fun _ => ?_)
theorem mn_wbX10_apartBy_25 {post post' : Int32 → St → Prop} (hpost : ∀ x0 x1, post x0 x1 → post' x0 x1) : ∀ (n : Nat) (y0 : Int32) (y1 : Int32) (y2 : Int32) (y3 : Int32) (y4 : St), wbX10_apartBy_25 post n y0 y1 y2 y3 y4 → wbX10_apartBy_25 post' n y0 y1 y2 y3 y4 := by
  intro n
  induction n with
  | zero => intro _ _ _ _ _ ; exact id
  | succ n ih =>
    intro _ _ _ _ _ 
    unfold wbX10_apartBy_25
    with_reducible repeat' (first | exact id | exact ih _ _ _ _ _ | exact hpost _ _ | refine And.imp ?_ ?_ | refine forall_imp fun _ => ?_ | refine Exists.imp fun _ => ?_)
theorem mn_wpX10_apartBy {a1 : Int32} {σ : St} {post post' : Int32 → St → Prop} (hpost : ∀ x0 x1, post x0 x1 → post' x0 x1) : wpX10_apartBy a1 σ post → wpX10_apartBy a1 σ post' := by
  unfold wpX10_apartBy
  with_reducible repeat' (first | exact id | exact hpost _ _ | refine mn_wbX10_apartBy_25 (fun _ _ => ?_) _ _ _ _ _ _ | refine And.imp ?_ ?_ | refine forall_imp fun _ => ?_ | refine Exists.imp fun _ => ?_)
theorem mn_wbX10_leastLag_6 {post post' : Int32 → St → Prop} (hpost : ∀ x0 x1, post x0 x1 → post' x0 x1) : ∀ (n : Nat) (y0 : Int32) (y1 : Int32) (y2 : Int32) (y3 : St), wbX10_leastLag_6 post n y0 y1 y2 y3 → wbX10_leastLag_6 post' n y0 y1 y2 y3 := by
  intro n
  induction n with
  | zero => intro _ _ _ _ ; exact id
  | succ n ih =>
    intro _ _ _ _ 
    unfold wbX10_leastLag_6
    with_reducible repeat' (first | exact id | exact ih _ _ _ _ | exact hpost _ _ | refine mn_wpX10_apartBy (fun _ _ => ?_) | refine And.imp ?_ ?_ | refine forall_imp fun _ => ?_ | refine Exists.imp fun _ => ?_)
theorem mn_wpX10_leastLag {σ : St} {post post' : Int32 → St → Prop} (hpost : ∀ x0 x1, post x0 x1 → post' x0 x1) : wpX10_leastLag σ post → wpX10_leastLag σ post' := by
  unfold wpX10_leastLag
  with_reducible repeat' (first | exact id | exact hpost _ _ | refine mn_wbX10_leastLag_6 (fun _ _ => ?_) _ _ _ _ _ | refine And.imp ?_ ?_ | refine forall_imp fun _ => ?_ | refine Exists.imp fun _ => ?_)
theorem mn_wbX10_risenOfEnding_5 {post post' : Int32 → St → Prop} (hpost : ∀ x0 x1, post x0 x1 → post' x0 x1) : ∀ (n : Nat) (y0 : Int32) (y1 : Int32) (y2 : Int32) (y3 : Int32) (y4 : St), wbX10_risenOfEnding_5 post n y0 y1 y2 y3 y4 → wbX10_risenOfEnding_5 post' n y0 y1 y2 y3 y4 := by
  intro n
  induction n with
  | zero => intro _ _ _ _ _ ; exact id
  | succ n ih =>
    intro _ _ _ _ _ 
    unfold wbX10_risenOfEnding_5
    with_reducible repeat' (first | exact id | exact ih _ _ _ _ _ | exact hpost _ _ | refine mn_wpX5_sameEnding (fun _ _ => ?_) | refine mn_wpX10_in (fun _ _ => ?_) | refine And.imp ?_ ?_ | refine forall_imp fun _ => ?_ | refine Exists.imp fun _ => ?_)
theorem mn_wpX10_risenOfEnding {a1 : Int32} {a2 : Int32} {σ : St} {post post' : Int32 → St → Prop} (hpost : ∀ x0 x1, post x0 x1 → post' x0 x1) : wpX10_risenOfEnding a1 a2 σ post → wpX10_risenOfEnding a1 a2 σ post' := by
  unfold wpX10_risenOfEnding
  with_reducible repeat' (first | exact id | exact hpost _ _ | refine mn_wbX10_risenOfEnding_5 (fun _ _ => ?_) _ _ _ _ _ _ | refine And.imp ?_ ?_ | refine forall_imp fun _ => ?_ | refine Exists.imp fun _ => ?_)
theorem mn_wpX10_girlsMore {a1 : Int32} {a2 : Int32} {σ : St} {post post' : Int32 → St → Prop} (hpost : ∀ x0 x1, post x0 x1 → post' x0 x1) : wpX10_girlsMore a1 a2 σ post → wpX10_girlsMore a1 a2 σ post' := by
  unfold wpX10_girlsMore
  with_reducible repeat' (first | exact id | exact hpost _ _ | refine mn_wpX0_between (fun _ _ => ?_) | refine mn_wpX10_in (fun _ _ => ?_) | refine And.imp ?_ ?_ | refine forall_imp fun _ => ?_ | refine Exists.imp fun _ => ?_)
theorem mn_wbX10_crossing_48 {K5 K5' : Int32 → Int32 → Int32 → St → Prop} (hK5 : ∀ x0 x1 x2 x3, K5 x0 x1 x2 x3 → K5' x0 x1 x2 x3) {post post' : Int32 → St → Prop} (hpost : ∀ x0 x1, post x0 x1 → post' x0 x1) {v1 : Int32} {v2 : Int32} {v3 : Int32} {v4 : Int32} {σ : St} : wbX10_crossing_48 K5 post v1 v2 v3 v4 σ → wbX10_crossing_48 K5' post' v1 v2 v3 v4 σ := by
  unfold wbX10_crossing_48
  with_reducible repeat' (first | exact id | exact hK5 _ _ _ _ | exact hpost _ _ | refine And.imp ?_ ?_ | refine forall_imp fun _ => ?_ | refine Exists.imp fun _ => ?_)
theorem mn_wbX10_crossing_5 {post post' : Int32 → St → Prop} (hpost : ∀ x0 x1, post x0 x1 → post' x0 x1) : ∀ (n : Nat) (y0 : Int32) (y1 : Int32) (y2 : Int32) (y3 : St), wbX10_crossing_5 post n y0 y1 y2 y3 → wbX10_crossing_5 post' n y0 y1 y2 y3 := by
  intro n
  induction n with
  | zero => intro _ _ _ _ ; exact id
  | succ n ih =>
    intro _ _ _ _ 
    unfold wbX10_crossing_5
    with_reducible repeat' (first | exact id | exact ih _ _ _ _ | exact hpost _ _ | refine mn_wpX10_girlsMore (fun _ _ => ?_) | refine mn_wbX10_crossing_48 (fun _ _ _ _ => ?_) (fun _ _ => ?_) | refine mn_wpX10_in (fun _ _ => ?_) | refine And.imp ?_ ?_ | refine forall_imp fun _ => ?_ | refine Exists.imp fun _ => ?_)
theorem mn_wpX10_crossing {a1 : Int32} {σ : St} {post post' : Int32 → St → Prop} (hpost : ∀ x0 x1, post x0 x1 → post' x0 x1) : wpX10_crossing a1 σ post → wpX10_crossing a1 σ post' := by
  unfold wpX10_crossing
  with_reducible repeat' (first | exact id | exact hpost _ _ | refine mn_wbX10_crossing_5 (fun _ _ => ?_) _ _ _ _ _ | refine And.imp ?_ ?_ | refine forall_imp fun _ => ?_ | refine Exists.imp fun _ => ?_)
theorem mn_wbX10_boysAgain_4 {post post' : Int32 → St → Prop} (hpost : ∀ x0 x1, post x0 x1 → post' x0 x1) : ∀ (n : Nat) (y0 : Int32) (y1 : Int32) (y2 : St), wbX10_boysAgain_4 post n y0 y1 y2 → wbX10_boysAgain_4 post' n y0 y1 y2 := by
  intro n
  induction n with
  | zero => intro _ _ _ ; exact id
  | succ n ih =>
    intro _ _ _ 
    unfold wbX10_boysAgain_4
    with_reducible repeat' (first | exact id | exact ih _ _ _ | exact hpost _ _ | refine mn_wpX10_girlsMore (fun _ _ => ?_) | refine And.imp ?_ ?_ | refine forall_imp fun _ => ?_ | refine Exists.imp fun _ => ?_)
theorem mn_wpX10_boysAgain {a1 : Int32} {a2 : Int32} {σ : St} {post post' : Int32 → St → Prop} (hpost : ∀ x0 x1, post x0 x1 → post' x0 x1) : wpX10_boysAgain a1 a2 σ post → wpX10_boysAgain a1 a2 σ post' := by
  unfold wpX10_boysAgain
  with_reducible repeat' (first | exact id | exact hpost _ _ | refine mn_wbX10_boysAgain_4 (fun _ _ => ?_) _ _ _ _ | refine And.imp ?_ ?_ | refine forall_imp fun _ => ?_ | refine Exists.imp fun _ => ?_)
theorem mn_wbX10_emptyAhead_7 {post post' : Int32 → St → Prop} (hpost : ∀ x0 x1, post x0 x1 → post' x0 x1) : ∀ (n : Nat) (y0 : Int32) (y1 : Int32) (y2 : Int32) (y3 : St), wbX10_emptyAhead_7 post n y0 y1 y2 y3 → wbX10_emptyAhead_7 post' n y0 y1 y2 y3 := by
  intro n
  induction n with
  | zero => intro _ _ _ _ ; exact id
  | succ n ih =>
    intro _ _ _ _ 
    unfold wbX10_emptyAhead_7
    with_reducible repeat' (first | exact id | exact ih _ _ _ _ | exact hpost _ _ | refine mn_wpX10_in (fun _ _ => ?_) | refine And.imp ?_ ?_ | refine forall_imp fun _ => ?_ | refine Exists.imp fun _ => ?_)
theorem mn_wpX10_emptyAhead {a1 : Int32} {a2 : Int32} {σ : St} {post post' : Int32 → St → Prop} (hpost : ∀ x0 x1, post x0 x1 → post' x0 x1) : wpX10_emptyAhead a1 a2 σ post → wpX10_emptyAhead a1 a2 σ post' := by
  unfold wpX10_emptyAhead
  with_reducible repeat' (first | exact id | exact hpost _ _ | refine mn_wbX10_emptyAhead_7 (fun _ _ => ?_) _ _ _ _ _ | refine And.imp ?_ ?_ | refine forall_imp fun _ => ?_ | refine Exists.imp fun _ => ?_)
theorem mn_wbX10_comesBack_44 {K2 K2' : Int32 → Int32 → Int32 → St → Prop} (hK2 : ∀ x0 x1 x2 x3, K2 x0 x1 x2 x3 → K2' x0 x1 x2 x3) {post post' : Int32 → St → Prop} (hpost : ∀ x0 x1, post x0 x1 → post' x0 x1) {v1 : Int32} {v2 : Int32} {v3 : Int32} {v4 : Int32} {s0 : Int32} {σ : St} : wbX10_comesBack_44 K2 post v1 v2 v3 v4 s0 σ → wbX10_comesBack_44 K2' post' v1 v2 v3 v4 s0 σ := by
  unfold wbX10_comesBack_44
  with_reducible repeat' (first | exact id | exact hK2 _ _ _ _ | exact hpost _ _ | refine And.imp ?_ ?_ | refine forall_imp fun _ => ?_ | refine Exists.imp fun _ => ?_)
theorem mn_wbX10_comesBack_2 {post post' : Int32 → St → Prop} (hpost : ∀ x0 x1, post x0 x1 → post' x0 x1) : ∀ (n : Nat) (y0 : Int32) (y1 : Int32) (y2 : Int32) (y3 : St), wbX10_comesBack_2 post n y0 y1 y2 y3 → wbX10_comesBack_2 post' n y0 y1 y2 y3 := by
  intro n
  induction n with
  | zero => intro _ _ _ _ ; exact id
  | succ n ih =>
    intro _ _ _ _ 
    unfold wbX10_comesBack_2
    with_reducible repeat' (first | exact id | exact ih _ _ _ _ | exact hpost _ _ | refine mn_wpX10_in (fun _ _ => ?_) | refine mn_wpX10_emptyAhead (fun _ _ => ?_) | refine mn_wbX10_comesBack_44 (fun _ _ _ _ => ?_) (fun _ _ => ?_) | refine And.imp ?_ ?_ | refine forall_imp fun _ => ?_ | refine Exists.imp fun _ => ?_)
theorem mn_wpX10_comesBack {a1 : Int32} {a2 : Int32} {σ : St} {post post' : Int32 → St → Prop} (hpost : ∀ x0 x1, post x0 x1 → post' x0 x1) : wpX10_comesBack a1 a2 σ post → wpX10_comesBack a1 a2 σ post' := by
  unfold wpX10_comesBack
  with_reducible repeat' (first | exact id | exact hpost _ _ | refine mn_wbX10_comesBack_2 (fun _ _ => ?_) _ _ _ _ _ | refine And.imp ?_ ?_ | refine forall_imp fun _ => ?_ | refine Exists.imp fun _ => ?_)
theorem mn_wbX10_unlike_12 {FX10_unlike : Int32 → Int32 → Int32 → St → (Int64 → St → Prop) → Prop} (hR : ∀ (P Q : Int64 → St → Prop) (a0 : Int32) (a1 : Int32) (a2 : Int32) (a3 : St), (∀ x0 x1, P x0 x1 → Q x0 x1) → FX10_unlike a0 a1 a2 a3 P → FX10_unlike a0 a1 a2 a3 Q) {post post' : Int64 → St → Prop} (hpost : ∀ x0 x1, post x0 x1 → post' x0 x1) : ∀ (n : Nat) (y0 : Int32) (y1 : Int32) (y2 : Int64) (y3 : Int32) (y4 : St), wbX10_unlike_12 FX10_unlike post n y0 y1 y2 y3 y4 → wbX10_unlike_12 FX10_unlike post' n y0 y1 y2 y3 y4 := by
  intro n
  induction n with
  | zero => intro _ _ _ _ _ ; exact id
  | succ n ih =>
    intro _ _ _ _ _ 
    unfold wbX10_unlike_12
    with_reducible repeat' (first | exact id | exact ih _ _ _ _ _ | refine hR _ _ _ _ _ _ (fun _ _ => ?_) | exact hpost _ _ | refine And.imp ?_ ?_ | refine forall_imp fun _ => ?_ | refine Exists.imp fun _ => ?_)
theorem mn_wpX10_unlike {FX10_unlike : Int32 → Int32 → Int32 → St → (Int64 → St → Prop) → Prop} (hR : ∀ (P Q : Int64 → St → Prop) (a0 : Int32) (a1 : Int32) (a2 : Int32) (a3 : St), (∀ x0 x1, P x0 x1 → Q x0 x1) → FX10_unlike a0 a1 a2 a3 P → FX10_unlike a0 a1 a2 a3 Q) {a1 : Int32} {a2 : Int32} {a3 : Int32} {σ : St} {post post' : Int64 → St → Prop} (hpost : ∀ x0 x1, post x0 x1 → post' x0 x1) : wpX10_unlike FX10_unlike a1 a2 a3 σ post → wpX10_unlike FX10_unlike a1 a2 a3 σ post' := by
  unfold wpX10_unlike
  with_reducible repeat' (first | exact id | refine hR _ _ _ _ _ _ (fun _ _ => ?_) | exact hpost _ _ | refine mn_wbX10_unlike_12 (by first | exact hR | exact mn_wr_12 _ | exact mn_wr2_12 _) (fun _ _ => ?_) _ _ _ _ _ _ | refine And.imp ?_ ?_ | refine forall_imp fun _ => ?_ | refine Exists.imp fun _ => ?_)
theorem mn_wr2_12 : ∀ (n : Nat) (P Q : Int64 → St → Prop) (a0 : Int32) (a1 : Int32) (a2 : Int32) (a3 : St), (∀ x0 x1, P x0 x1 → Q x0 x1) → wrX10_unlike n a0 a1 a2 a3 P → wrX10_unlike n a0 a1 a2 a3 Q := by
  intro n
  induction n with
  | zero => intro _ _ _ _ _ _  _; exact id
  | succ n ih =>
    intro P Q a0 a1 a2 a3 hP
    unfold wrX10_unlike
    exact mn_wpX10_unlike ih hP
theorem mn_wbX10_kinOf_4 {post post' : Int32 → St → Prop} (hpost : ∀ x0 x1, post x0 x1 → post' x0 x1) : ∀ (n : Nat) (y0 : Int32) (y1 : Int32) (y2 : Int32) (y3 : St), wbX10_kinOf_4 post n y0 y1 y2 y3 → wbX10_kinOf_4 post' n y0 y1 y2 y3 := by
  intro n
  induction n with
  | zero => intro _ _ _ _ ; exact id
  | succ n ih =>
    intro _ _ _ _ 
    unfold wbX10_kinOf_4
    with_reducible repeat' (first | exact id | exact ih _ _ _ _ | exact hpost _ _ | refine mn_wpX5_akin (fun _ _ => ?_) | refine And.imp ?_ ?_ | refine forall_imp fun _ => ?_ | refine Exists.imp fun _ => ?_)
theorem mn_wpX10_kinOf {a1 : Int32} {σ : St} {post post' : Int32 → St → Prop} (hpost : ∀ x0 x1, post x0 x1 → post' x0 x1) : wpX10_kinOf a1 σ post → wpX10_kinOf a1 σ post' := by
  unfold wpX10_kinOf
  with_reducible repeat' (first | exact id | exact hpost _ _ | refine mn_wbX10_kinOf_4 (fun _ _ => ?_) _ _ _ _ _ | refine And.imp ?_ ?_ | refine forall_imp fun _ => ?_ | refine Exists.imp fun _ => ?_)
theorem mn_wbX10_sharing_143 {post post' : Int32 → St → Prop} (hpost : ∀ x0 x1, post x0 x1 → post' x0 x1) : ∀ (n : Nat) (y0 : Int32) (y1 : Int32) (y2 : Int64) (y3 : Int32) (y4 : St), wbX10_sharing_143 post n y0 y1 y2 y3 y4 → wbX10_sharing_143 post' n y0 y1 y2 y3 y4 := by
  intro n
  induction n with
  | zero => intro _ _ _ _ _ ; exact id
  | succ n ih =>
    intro _ _ _ _ _ 
    unfold wbX10_sharing_143
    with_reducible repeat' (first | exact id | exact ih _ _ _ _ _ | exact hpost _ _ | refine mn_wr2_12 _ _ _ _ _ _ _ (fun _ _ => ?_) | refine And.imp ?_ ?_ | refine forall_imp fun _ => ?_ | refine Exists.imp fun _ => ?_)
theorem mn_wbX10_sharing_100 {post post' : Int32 → St → Prop} (hpost : ∀ x0 x1, post x0 x1 → post' x0 x1) : ∀ (n : Nat) (y0 : Int32) (y1 : Int32) (y2 : Int32) (y3 : Int32) (y4 : St), wbX10_sharing_100 post n y0 y1 y2 y3 y4 → wbX10_sharing_100 post' n y0 y1 y2 y3 y4 := by
  intro n
  induction n with
  | zero => intro _ _ _ _ _ ; exact id
  | succ n ih =>
    intro _ _ _ _ _ 
    unfold wbX10_sharing_100
    with_reducible repeat' (first | exact id | exact ih _ _ _ _ _ | exact hpost _ _ | refine mn_wbX10_sharing_143 (fun _ _ => ?_) _ _ _ _ _ _ | refine mn_wpX10_kinOf (fun _ _ => ?_) | refine And.imp ?_ ?_ | refine forall_imp fun _ => ?_ | refine Exists.imp fun _ => ?_)
theorem mn_wbX10_sharing_11 {post post' : Int32 → St → Prop} (hpost : ∀ x0 x1, post x0 x1 → post' x0 x1) : ∀ (n : Nat) (y0 : Int32) (y1 : Int32) (y2 : Int32) (y3 : Int32) (y4 : Int32) (y5 : Int32) (y6 : St), wbX10_sharing_11 post n y0 y1 y2 y3 y4 y5 y6 → wbX10_sharing_11 post' n y0 y1 y2 y3 y4 y5 y6 := by
  intro n
  induction n with
  | zero => intro _ _ _ _ _ _ _ ; exact id
  | succ n ih =>
    intro _ _ _ _ _ _ _ 
    unfold wbX10_sharing_11
    with_reducible repeat' (first | exact id | exact ih _ _ _ _ _ _ _ | exact hpost _ _ | refine mn_wbX10_sharing_100 (fun _ _ => ?_) _ _ _ _ _ _ | refine mn_wpX0_between (fun _ _ => ?_) | refine And.imp ?_ ?_ | refine forall_imp fun _ => ?_ | refine Exists.imp fun _ => ?_)
theorem mn_wpX10_sharing {a1 : Int32} {a2 : Int32} {a3 : Int32} {a4 : Int32} {σ : St} {post post' : Int32 → St → Prop} (hpost : ∀ x0 x1, post x0 x1 → post' x0 x1) : wpX10_sharing a1 a2 a3 a4 σ post → wpX10_sharing a1 a2 a3 a4 σ post' := by
  unfold wpX10_sharing
  with_reducible repeat' (first | exact id | exact hpost _ _ | refine mn_wbX10_sharing_11 (fun _ _ => ?_) _ _ _ _ _ _ _ _ | refine And.imp ?_ ?_ | refine forall_imp fun _ => ?_ | refine Exists.imp fun _ => ?_)
theorem mn_wbX10_akinLastYear_16 {post post' : Int32 → St → Prop} (hpost : ∀ x0 x1, post x0 x1 → post' x0 x1) : ∀ (n : Nat) (y0 : Int32) (y1 : Int32) (y2 : Int32) (y3 : Int32) (y4 : Int32) (y5 : St), wbX10_akinLastYear_16 post n y0 y1 y2 y3 y4 y5 → wbX10_akinLastYear_16 post' n y0 y1 y2 y3 y4 y5 := by
  intro n
  induction n with
  | zero => intro _ _ _ _ _ _ ; exact id
  | succ n ih =>
    intro _ _ _ _ _ _ 
    unfold wbX10_akinLastYear_16
    with_reducible repeat' (first | exact id | exact ih _ _ _ _ _ _ | exact hpost _ _ | refine mn_wpX5_akin (fun _ _ => ?_) | refine mn_wpX0_between (fun _ _ => ?_) | refine And.imp ?_ ?_ | refine forall_imp fun _ => ?_ | refine Exists.imp fun _ => ?_)
theorem mn_wpX10_akinLastYear {a1 : Int32} {a2 : Int32} {σ : St} {post post' : Int32 → St → Prop} (hpost : ∀ x0 x1, post x0 x1 → post' x0 x1) : wpX10_akinLastYear a1 a2 σ post → wpX10_akinLastYear a1 a2 σ post' := by
  unfold wpX10_akinLastYear
  with_reducible repeat' (first | exact id | exact hpost _ _ | refine mn_wbX10_akinLastYear_16 (fun _ _ => ?_) _ _ _ _ _ _ _ | refine And.imp ?_ ?_ | refine forall_imp fun _ => ?_ | refine Exists.imp fun _ => ?_)
theorem mn_wpX10_firstLiving {σ : St} {post post' : Int32 → St → Prop} (hpost : ∀ x0 x1, post x0 x1 → post' x0 x1) : wpX10_firstLiving σ post → wpX10_firstLiving σ post' := by
  unfold wpX10_firstLiving
  with_reducible repeat' (first | exact id | exact hpost _ _ | refine And.imp ?_ ?_ | refine forall_imp fun _ => ?_ | refine Exists.imp fun _ => ?_)
theorem mn_wbX10_halfBorn_32 {post post' : Int32 → St → Prop} (hpost : ∀ x0 x1, post x0 x1 → post' x0 x1) : ∀ (n : Nat) (y0 : Int32) (y1 : Int32) (y2 : Int32) (y3 : Int32) (y4 : Int32) (y5 : St), wbX10_halfBorn_32 post n y0 y1 y2 y3 y4 y5 → wbX10_halfBorn_32 post' n y0 y1 y2 y3 y4 y5 := by
  intro n
  induction n with
  | zero => intro _ _ _ _ _ _ ; exact id
  | succ n ih =>
    intro _ _ _ _ _ _ 
    unfold wbX10_halfBorn_32
    with_reducible repeat' (first | exact id | exact ih _ _ _ _ _ _ | exact hpost _ _ | refine mn_wpX0_between (fun _ _ => ?_) | refine And.imp ?_ ?_ | refine forall_imp fun _ => ?_ | refine Exists.imp fun _ => ?_)
theorem mn_wpX10_halfBorn {a1 : Int32} {σ : St} {post post' : Int32 → St → Prop} (hpost : ∀ x0 x1, post x0 x1 → post' x0 x1) : wpX10_halfBorn a1 σ post → wpX10_halfBorn a1 σ post' := by
  unfold wpX10_halfBorn
  with_reducible repeat' (first | exact id | exact hpost _ _ | refine mn_wpX10_firstLiving (fun _ _ => ?_) | refine mn_wpX0_between (fun _ _ => ?_) | refine mn_wbX10_halfBorn_32 (fun _ _ => ?_) _ _ _ _ _ _ _ | refine And.imp ?_ ?_ | refine forall_imp fun _ => ?_ | refine Exists.imp fun _ => ?_)
theorem mn_wbX10_spanStart_34 {post post' : Int32 → St → Prop} (hpost : ∀ x0 x1, post x0 x1 → post' x0 x1) : ∀ (n : Nat) (y0 : Int32) (y1 : Int32) (y2 : Int32) (y3 : Int64) (y4 : Int32) (y5 : St), wbX10_spanStart_34 post n y0 y1 y2 y3 y4 y5 → wbX10_spanStart_34 post' n y0 y1 y2 y3 y4 y5 := by
  intro n
  induction n with
  | zero => intro _ _ _ _ _ _ ; exact id
  | succ n ih =>
    intro _ _ _ _ _ _ 
    unfold wbX10_spanStart_34
    with_reducible repeat' (first | exact id | exact ih _ _ _ _ _ _ | exact hpost _ _ | refine mn_wpX0_between (fun _ _ => ?_) | refine And.imp ?_ ?_ | refine forall_imp fun _ => ?_ | refine Exists.imp fun _ => ?_)
theorem mn_wpX10_spanStart {a1 : Int32} {a2 : Int32} {a3 : Int32} {σ : St} {post post' : Int32 → St → Prop} (hpost : ∀ x0 x1, post x0 x1 → post' x0 x1) : wpX10_spanStart a1 a2 a3 σ post → wpX10_spanStart a1 a2 a3 σ post' := by
  unfold wpX10_spanStart
  with_reducible repeat' (first | exact id | exact hpost _ _ | refine mn_wpX10_firstLiving (fun _ _ => ?_) | refine mn_wpX0_between (fun _ _ => ?_) | refine mn_wbX10_spanStart_34 (fun _ _ => ?_) _ _ _ _ _ _ _ | refine And.imp ?_ ?_ | refine forall_imp fun _ => ?_ | refine Exists.imp fun _ => ?_)
theorem mn_wbX10_shortestSpan_16 {post post' : Int32 → St → Prop} (hpost : ∀ x0 x1, post x0 x1 → post' x0 x1) : ∀ (n : Nat) (y0 : Int32) (y1 : Int32) (y2 : Int32) (y3 : Int32) (y4 : St), wbX10_shortestSpan_16 post n y0 y1 y2 y3 y4 → wbX10_shortestSpan_16 post' n y0 y1 y2 y3 y4 := by
  intro n
  induction n with
  | zero => intro _ _ _ _ _ ; exact id
  | succ n ih =>
    intro _ _ _ _ _ 
    unfold wbX10_shortestSpan_16
    with_reducible repeat' (first | exact id | exact ih _ _ _ _ _ | exact hpost _ _ | refine mn_wpX10_spanStart (fun _ _ => ?_) | refine And.imp ?_ ?_ | refine forall_imp fun _ => ?_ | refine Exists.imp fun _ => ?_)
theorem mn_wpX10_shortestSpan {a1 : Int32} {a2 : Int32} {σ : St} {post post' : Int32 → St → Prop} (hpost : ∀ x0 x1, post x0 x1 → post' x0 x1) : wpX10_shortestSpan a1 a2 σ post → wpX10_shortestSpan a1 a2 σ post' := by
  unfold wpX10_shortestSpan
  with_reducible repeat' (first | exact id | exact hpost _ _ | refine mn_wpX10_firstLiving (fun _ _ => ?_) | refine mn_wbX10_shortestSpan_16 (fun _ _ => ?_) _ _ _ _ _ _ | refine And.imp ?_ ?_ | refine forall_imp fun _ => ?_ | refine Exists.imp fun _ => ?_)
theorem mn_wbX10_likeliestPlace_27 {post post' : Int32 → St → Prop} (hpost : ∀ x0 x1, post x0 x1 → post' x0 x1) : ∀ (n : Nat) (y0 : Int32) (y1 : Int32) (y2 : Int32) (y3 : Int32) (y4 : Int64) (y5 : Int64) (y6 : Int32) (y7 : St), wbX10_likeliestPlace_27 post n y0 y1 y2 y3 y4 y5 y6 y7 → wbX10_likeliestPlace_27 post' n y0 y1 y2 y3 y4 y5 y6 y7 := by
  intro n
  induction n with
  | zero => intro _ _ _ _ _ _ _ _ ; exact id
  | succ n ih =>
    intro _ _ _ _ _ _ _ _ 
    unfold wbX10_likeliestPlace_27
    with_reducible repeat' (first | exact id | exact ih _ _ _ _ _ _ _ _ | exact hpost _ _ | refine mn_wpX0_between (fun _ _ => ?_) | refine mn_wpX0_groupTotal (fun _ _ => ?_) | refine And.imp ?_ ?_ | refine forall_imp fun _ => ?_ | refine Exists.imp fun _ => ?_)
theorem mn_wpX10_likeliestPlace {a1 : Int32} {σ : St} {post post' : Int32 → St → Prop} (hpost : ∀ x0 x1, post x0 x1 → post' x0 x1) : wpX10_likeliestPlace a1 σ post → wpX10_likeliestPlace a1 σ post' := by
  unfold wpX10_likeliestPlace
  with_reducible repeat' (first | exact id | exact hpost _ _ | refine mn_wpX10_firstLiving (fun _ _ => ?_) | refine mn_wbX10_likeliestPlace_27 (fun _ _ => ?_) _ _ _ _ _ _ _ _ _ | refine And.imp ?_ ?_ | refine forall_imp fun _ => ?_ | refine Exists.imp fun _ => ?_)
theorem mn_wbX10_foremost_20 {K5 K5' : Int32 → Int32 → Int32 → Int32 → St → Prop} (hK5 : ∀ x0 x1 x2 x3 x4, K5 x0 x1 x2 x3 x4 → K5' x0 x1 x2 x3 x4) {post post' : Int32 → St → Prop} (hpost : ∀ x0 x1, post x0 x1 → post' x0 x1) : ∀ (n : Nat) (y0 : Int32) (y1 : Int32) (y2 : Int32) (y3 : Int32) (y4 : Int32) (y5 : Int32) (y6 : Int32) (y7 : St), wbX10_foremost_20 K5 post n y0 y1 y2 y3 y4 y5 y6 y7 → wbX10_foremost_20 K5' post' n y0 y1 y2 y3 y4 y5 y6 y7 := by
  intro n
  induction n with
  | zero => intro _ _ _ _ _ _ _ _ ; exact id
  | succ n ih =>
    intro _ _ _ _ _ _ _ _ 
    unfold wbX10_foremost_20
    with_reducible repeat' (first | exact id | exact ih _ _ _ _ _ _ _ _ | exact hK5 _ _ _ _ _ | exact hpost _ _ | refine mn_wpX10_in (fun _ _ => ?_) | refine And.imp ?_ ?_ | refine forall_imp fun _ => ?_ | refine Exists.imp fun _ => ?_)
theorem mn_wbX10_foremost_5 {post post' : Int32 → St → Prop} (hpost : ∀ x0 x1, post x0 x1 → post' x0 x1) : ∀ (n : Nat) (y0 : Int32) (y1 : Int32) (y2 : Int32) (y3 : Int32) (y4 : St), wbX10_foremost_5 post n y0 y1 y2 y3 y4 → wbX10_foremost_5 post' n y0 y1 y2 y3 y4 := by
  intro n
  induction n with
  | zero => intro _ _ _ _ _ ; exact id
  | succ n ih =>
    intro _ _ _ _ _ 
    unfold wbX10_foremost_5
    with_reducible repeat' (first | exact id | exact ih _ _ _ _ _ | exact hpost _ _ | refine mn_wbX10_foremost_20 (fun _ _ _ _ _ => ?_) (fun _ _ => ?_) _ _ _ _ _ _ _ _ _ | refine And.imp ?_ ?_ | refine forall_imp fun _ => ?_ | refine Exists.imp fun _ => ?_)
theorem mn_wpX10_foremost {a1 : Int32} {a2 : Int32} {σ : St} {post post' : Int32 → St → Prop} (hpost : ∀ x0 x1, post x0 x1 → post' x0 x1) : wpX10_foremost a1 a2 σ post → wpX10_foremost a1 a2 σ post' := by
  unfold wpX10_foremost
  with_reducible repeat' (first | exact id | exact hpost _ _ | refine mn_wbX10_foremost_5 (fun _ _ => ?_) _ _ _ _ _ _ | refine And.imp ?_ ?_ | refine forall_imp fun _ => ?_ | refine Exists.imp fun _ => ?_)
theorem mn_wpX11_within {a1 : Int32} {a2 : Int32} {a3 : Int32} {σ : St} {post post' : Int32 → St → Prop} (hpost : ∀ x0 x1, post x0 x1 → post' x0 x1) : wpX11_within a1 a2 a3 σ post → wpX11_within a1 a2 a3 σ post' := by
  unfold wpX11_within
  with_reducible repeat' (first | exact id | exact hpost _ _ | refine And.imp ?_ ?_ | refine forall_imp fun _ => ?_ | refine Exists.imp fun _ => ?_)
theorem mn_wpX11_name {a1 : Int64} {a2 : Int32} {σ : St} {post post' : Int32 → St → Prop} (hpost : ∀ x0 x1, post x0 x1 → post' x0 x1) : wpX11_name a1 a2 σ post → wpX11_name a1 a2 σ post' := by
  unfold wpX11_name
  with_reducible repeat' (first | exact id | exact hpost _ _ | refine mn_wpX5_lengthOf (fun _ _ => ?_) | refine mn_wpX11_within (fun _ _ => ?_) | refine mn_wpX5_knows (fun _ _ => ?_) | refine mn_wpX7_forgetRuns (fun _ => ?_) | refine mn_wpX5_add (fun _ _ => ?_) | refine And.imp ?_ ?_ | refine forall_imp fun _ => ?_ | refine Exists.imp fun _ => ?_)
theorem mn_wpX11_of {a1 : Int32} {a2 : Int32} {σ : St} {post post' : Int32 → St → Prop} (hpost : ∀ x0 x1, post x0 x1 → post' x0 x1) : wpX11_of a1 a2 σ post → wpX11_of a1 a2 σ post' := by
  unfold wpX11_of
  with_reducible repeat' (first | exact id | exact hpost _ _ | refine mn_wpX5_has (fun _ _ => ?_) | refine mn_wpX5_lowestOfEnding (fun _ _ => ?_) | refine mn_wpX10_livingAt (fun _ _ => ?_) | refine And.imp ?_ ?_ | refine forall_imp fun _ => ?_ | refine Exists.imp fun _ => ?_)
theorem mn_wpX11_alike {a1 : Int32} {a2 : Int32} {σ : St} {post post' : Int32 → St → Prop} (hpost : ∀ x0 x1, post x0 x1 → post' x0 x1) : wpX11_alike a1 a2 σ post → wpX11_alike a1 a2 σ post' := by
  unfold wpX11_alike
  with_reducible repeat' (first | exact id | exact hpost _ _ | refine mn_wpX5_has (fun _ _ => ?_) | refine mn_wpX5_akin (fun _ _ => ?_) | refine And.imp ?_ ?_ | refine forall_imp fun _ => ?_ | refine Exists.imp fun _ => ?_)
theorem mn_wpX11_isRow {a1 : Int32} {a2 : Int32} {a3 : Int32} {σ : St} {post post' : Int32 → St → Prop} (hpost : ∀ x0 x1, post x0 x1 → post' x0 x1) : wpX11_isRow a1 a2 a3 σ post → wpX11_isRow a1 a2 a3 σ post' := by
  unfold wpX11_isRow
  with_reducible repeat' (first | exact id | exact hpost _ _ | refine mn_wpX11_within (fun _ _ => ?_) | refine And.imp ?_ ?_ | refine forall_imp fun _ => ?_ | refine Exists.imp fun _ => ?_)
theorem mn_wpX11_born {a1 : Int32} {a2 : Int32} {a3 : Int32} {a4 : Int32} {a5 : Int32} {a6 : Int32} {σ : St} {post post' : Int32 → St → Prop} (hpost : ∀ x0 x1, post x0 x1 → post' x0 x1) : wpX11_born a1 a2 a3 a4 a5 a6 σ post → wpX11_born a1 a2 a3 a4 a5 a6 σ post' := by
  unfold wpX11_born
  with_reducible repeat' (first | exact id | exact hpost _ _ | refine mn_wpX5_has (fun _ _ => ?_) | refine mn_wpX11_isRow (fun _ _ => ?_) | refine mn_wpX11_within (fun _ _ => ?_) | refine mn_wpX4_row (fun _ _ => ?_) | refine mn_wpX4_toldCell (fun _ _ => ?_) | refine mn_wpX0_addSums (fun _ => ?_) | refine mn_wpX7_forgetRuns (fun _ => ?_) | refine And.imp ?_ ?_ | refine forall_imp fun _ => ?_ | refine Exists.imp fun _ => ?_)
theorem mn_wpX11_life {a1 : Int32} {σ : St} {post post' : Int32 → St → Prop} (hpost : ∀ x0 x1, post x0 x1 → post' x0 x1) : wpX11_life a1 σ post → wpX11_life a1 σ post' := by
  unfold wpX11_life
  with_reducible repeat' (first | exact id | exact hpost _ _ | refine mn_wpX11_within (fun _ _ => ?_) | refine mn_wpX7_forgetRuns (fun _ => ?_) | refine And.imp ?_ ?_ | refine forall_imp fun _ => ?_ | refine Exists.imp fun _ => ?_)
theorem mn_wpX11_cradles {a1 : Int32} {a2 : Int32} {a3 : Int32} {a4 : Int32} {σ : St} {post post' : Int32 → St → Prop} (hpost : ∀ x0 x1, post x0 x1 → post' x0 x1) : wpX11_cradles a1 a2 a3 a4 σ post → wpX11_cradles a1 a2 a3 a4 σ post' := by
  unfold wpX11_cradles
  with_reducible repeat' (first | exact id | exact hpost _ _ | refine mn_wpX11_isRow (fun _ _ => ?_) | refine mn_wpX11_within (fun _ _ => ?_) | refine mn_wpX4_row (fun _ _ => ?_) | refine mn_wpX7_forgetRuns (fun _ => ?_) | refine And.imp ?_ ?_ | refine forall_imp fun _ => ?_ | refine Exists.imp fun _ => ?_)
theorem mn_wpX11_list {a1 : Int32} {a2 : Int32} {σ : St} {post post' : Int32 → St → Prop} (hpost : ∀ x0 x1, post x0 x1 → post' x0 x1) : wpX11_list a1 a2 σ post → wpX11_list a1 a2 σ post' := by
  unfold wpX11_list
  with_reducible repeat' (first | exact id | exact hpost _ _ | refine mn_wpX11_within (fun _ _ => ?_) | refine mn_wpX7_forgetRuns (fun _ => ?_) | refine mn_wpX4_addList (fun _ _ => ?_) | refine And.imp ?_ ?_ | refine forall_imp fun _ => ?_ | refine Exists.imp fun _ => ?_)
theorem mn_wpX11_film {a1 : Int32} {a2 : Int32} {a3 : Int32} {σ : St} {post post' : Int32 → St → Prop} (hpost : ∀ x0 x1, post x0 x1 → post' x0 x1) : wpX11_film a1 a2 a3 σ post → wpX11_film a1 a2 a3 σ post' := by
  unfold wpX11_film
  with_reducible repeat' (first | exact id | exact hpost _ _ | refine mn_wpX5_has (fun _ _ => ?_) | refine mn_wpX11_within (fun _ _ => ?_) | refine mn_wpX7_forgetRuns (fun _ => ?_) | refine mn_wpX4_addFilm (fun _ _ => ?_) | refine And.imp ?_ ?_ | refine forall_imp fun _ => ?_ | refine Exists.imp fun _ => ?_)
theorem mn_wpX11_feed {a1 : Int32} {a2 : Int32} {a3 : Int32} {a4 : Int32} {a5 : Int32} {σ : St} {post post' : Int32 → St → Prop} (hpost : ∀ x0 x1, post x0 x1 → post' x0 x1) : wpX11_feed a1 a2 a3 a4 a5 σ post → wpX11_feed a1 a2 a3 a4 a5 σ post' := by
  unfold wpX11_feed
  with_reducible repeat' (first | exact id | exact hpost _ _ | refine mn_wpX8_hasRoom (fun _ _ => ?_) | refine mn_wpX8_put (fun _ => ?_) | refine And.imp ?_ ?_ | refine forall_imp fun _ => ?_ | refine Exists.imp fun _ => ?_)
theorem mn_wpX11_end {a1 : Int32} {σ : St} {post post' : Int32 → St → Prop} (hpost : ∀ x0 x1, post x0 x1 → post' x0 x1) : wpX11_end a1 σ post → wpX11_end a1 σ post' := by
  unfold wpX11_end
  with_reducible repeat' (first | exact id | exact hpost _ _ | refine mn_wpX11_within (fun _ _ => ?_) | refine And.imp ?_ ?_ | refine forall_imp fun _ => ?_ | refine Exists.imp fun _ => ?_)
theorem mn_wpX11_taste {σ : St} {post post' : Int32 → St → Prop} (hpost : ∀ x0 x1, post x0 x1 → post' x0 x1) : wpX11_taste σ post → wpX11_taste σ post' := by
  unfold wpX11_taste
  with_reducible repeat' (first | exact id | exact hpost _ _ | refine mn_wpX8_read (fun _ _ => ?_) | refine And.imp ?_ ?_ | refine forall_imp fun _ => ?_ | refine Exists.imp fun _ => ?_)
theorem mn_wpX11_fault {a1 : Int32} {σ : St} {post post' : Int32 → St → Prop} (hpost : ∀ x0 x1, post x0 x1 → post' x0 x1) : wpX11_fault a1 σ post → wpX11_fault a1 σ post' := by
  unfold wpX11_fault
  with_reducible repeat' (first | exact id | exact hpost _ _ | refine And.imp ?_ ?_ | refine forall_imp fun _ => ?_ | refine Exists.imp fun _ => ?_)
theorem mn_wpX11_by {a1 : Int32} {a2 : Int32} {σ : St} {post post' : Int32 → St → Prop} (hpost : ∀ x0 x1, post x0 x1 → post' x0 x1) : wpX11_by a1 a2 σ post → wpX11_by a1 a2 σ post' := by
  unfold wpX11_by
  with_reducible repeat' (first | exact id | exact hpost _ _ | refine mn_wpX11_within (fun _ _ => ?_) | refine And.imp ?_ ?_ | refine forall_imp fun _ => ?_ | refine Exists.imp fun _ => ?_)
theorem mn_wbX11_years_28 {post post' : Int32 → St → Prop} (hpost : ∀ x0 x1, post x0 x1 → post' x0 x1) : ∀ (n : Nat) (y0 : Int32) (y1 : Int32) (y2 : St), wbX11_years_28 post n y0 y1 y2 → wbX11_years_28 post' n y0 y1 y2 := by
  intro n
  induction n with
  | zero => intro _ _ _ ; exact id
  | succ n ih =>
    intro _ _ _ 
    unfold wbX11_years_28
    with_reducible repeat' (first | exact id | exact ih _ _ _ | exact hpost _ _ | refine mn_wpX0_open (fun _ => ?_) | refine mn_wpX1_pass (fun _ _ => ?_) | refine mn_wpX4_closeYear (fun _ => ?_) | refine And.imp ?_ ?_ | refine forall_imp fun _ => ?_ | refine Exists.imp fun _ => ?_)
theorem mn_wpX11_years {a1 : Int32} {σ : St} {post post' : Int32 → St → Prop} (hpost : ∀ x0 x1, post x0 x1 → post' x0 x1) : wpX11_years a1 σ post → wpX11_years a1 σ post' := by
  unfold wpX11_years
  with_reducible repeat' (first | exact id | exact hpost _ _ | refine mn_wpX11_within (fun _ _ => ?_) | refine mn_wbX11_years_28 (fun _ _ => ?_) _ _ _ _ | refine And.imp ?_ ?_ | refine forall_imp fun _ => ?_ | refine Exists.imp fun _ => ?_)
theorem mn_wpX11_isOrAll {a1 : Int32} {a2 : Int32} {σ : St} {post post' : Int32 → St → Prop} (hpost : ∀ x0 x1, post x0 x1 → post' x0 x1) : wpX11_isOrAll a1 a2 σ post → wpX11_isOrAll a1 a2 σ post' := by
  unfold wpX11_isOrAll
  with_reducible repeat' (first | exact id | exact hpost _ _ | refine And.imp ?_ ?_ | refine forall_imp fun _ => ?_ | refine Exists.imp fun _ => ?_)
theorem mn_wbX11_given_128 {K74 K74' : Int32 → Int32 → Int32 → Int32 → Int32 → Int32 → Int32 → St → Prop} (hK74 : ∀ x0 x1 x2 x3 x4 x5 x6 x7, K74 x0 x1 x2 x3 x4 x5 x6 x7 → K74' x0 x1 x2 x3 x4 x5 x6 x7) {post post' : Int32 → St → Prop} (hpost : ∀ x0 x1, post x0 x1 → post' x0 x1) : ∀ (n : Nat) (y0 : Int32) (y1 : Int32) (y2 : Int32) (y3 : Int32) (y4 : Int32) (y5 : Int32) (y6 : Int32) (y7 : Int32) (y8 : Int32) (y9 : St), wbX11_given_128 K74 post n y0 y1 y2 y3 y4 y5 y6 y7 y8 y9 → wbX11_given_128 K74' post' n y0 y1 y2 y3 y4 y5 y6 y7 y8 y9 := by
  intro n
  induction n with
  | zero => intro _ _ _ _ _ _ _ _ _ _ ; exact id
  | succ n ih =>
    intro _ _ _ _ _ _ _ _ _ _ 
    unfold wbX11_given_128
    with_reducible repeat' (first | exact id | exact ih _ _ _ _ _ _ _ _ _ _ | exact hK74 _ _ _ _ _ _ _ _ | exact hpost _ _ | refine mn_wpX11_isOrAll (fun _ _ => ?_) | refine mn_wpX0_inRow (fun _ _ => ?_) | refine mn_wpX4_toldCell (fun _ _ => ?_) | refine And.imp ?_ ?_ | refine forall_imp fun _ => ?_ | refine Exists.imp fun _ => ?_)
theorem mn_wbX11_given_74 {post post' : Int32 → St → Prop} (hpost : ∀ x0 x1, post x0 x1 → post' x0 x1) : ∀ (n : Nat) (y0 : Int32) (y1 : Int32) (y2 : Int32) (y3 : Int32) (y4 : Int32) (y5 : Int32) (y6 : Int32) (y7 : St), wbX11_given_74 post n y0 y1 y2 y3 y4 y5 y6 y7 → wbX11_given_74 post' n y0 y1 y2 y3 y4 y5 y6 y7 := by
  intro n
  induction n with
  | zero => intro _ _ _ _ _ _ _ _ ; exact id
  | succ n ih =>
    intro _ _ _ _ _ _ _ _ 
    unfold wbX11_given_74
    with_reducible repeat' (first | exact id | exact ih _ _ _ _ _ _ _ _ | exact hpost _ _ | refine mn_wpX4_placeOf (fun _ _ => ?_) | refine mn_wpX11_isOrAll (fun _ _ => ?_) | refine mn_wbX11_given_128 (fun _ _ _ _ _ _ _ _ => ?_) (fun _ _ => ?_) _ _ _ _ _ _ _ _ _ _ _ | refine mn_wpX4_standingOf (fun _ _ => ?_) | refine mn_wpX4_sexOf (fun _ _ => ?_) | refine And.imp ?_ ?_ | refine forall_imp fun _ => ?_ | refine Exists.imp fun _ => ?_)
theorem mn_wpX11_given {a1 : Int32} {a2 : Int32} {a3 : Int32} {a4 : Int32} {a5 : Int32} {σ : St} {post post' : Int32 → St → Prop} (hpost : ∀ x0 x1, post x0 x1 → post' x0 x1) : wpX11_given a1 a2 a3 a4 a5 σ post → wpX11_given a1 a2 a3 a4 a5 σ post' := by
  unfold wpX11_given
  with_reducible repeat' (first | exact id | exact hpost _ _ | refine mn_wpX11_within (fun _ _ => ?_) | refine mn_wbX11_given_74 (fun _ _ => ?_) _ _ _ _ _ _ _ _ _ | refine And.imp ?_ ?_ | refine forall_imp fun _ => ?_ | refine Exists.imp fun _ => ?_)
theorem mn_wbX11_unnamed_9 {post post' : Int32 → St → Prop} (hpost : ∀ x0 x1, post x0 x1 → post' x0 x1) : ∀ (n : Nat) (y0 : Int32) (y1 : Int32) (y2 : St), wbX11_unnamed_9 post n y0 y1 y2 → wbX11_unnamed_9 post' n y0 y1 y2 := by
  intro n
  induction n with
  | zero => intro _ _ _ ; exact id
  | succ n ih =>
    intro _ _ _ 
    unfold wbX11_unnamed_9
    with_reducible repeat' (first | exact id | exact ih _ _ _ | exact hpost _ _ | refine And.imp ?_ ?_ | refine forall_imp fun _ => ?_ | refine Exists.imp fun _ => ?_)
theorem mn_wpX11_unnamed {a1 : Int32} {σ : St} {post post' : Int32 → St → Prop} (hpost : ∀ x0 x1, post x0 x1 → post' x0 x1) : wpX11_unnamed a1 σ post → wpX11_unnamed a1 σ post' := by
  unfold wpX11_unnamed
  with_reducible repeat' (first | exact id | exact hpost _ _ | refine mn_wpX4_wentBy (fun _ _ => ?_) | refine mn_wbX11_unnamed_9 (fun _ _ => ?_) _ _ _ _ | refine And.imp ?_ ?_ | refine forall_imp fun _ => ?_ | refine Exists.imp fun _ => ?_)
theorem mn_wbX11_weighAll_69 {post post' : Int32 → St → Prop} (hpost : ∀ x0 x1, post x0 x1 → post' x0 x1) : ∀ (n : Nat) (y0 : Int32) (y1 : St), wbX11_weighAll_69 post n y0 y1 → wbX11_weighAll_69 post' n y0 y1 := by
  intro n
  induction n with
  | zero => intro _ _ ; exact id
  | succ n ih =>
    intro _ _ 
    unfold wbX11_weighAll_69
    with_reducible repeat' (first | exact id | exact ih _ _ | exact hpost _ _ | refine mn_wpX3_weigh (fun _ => ?_) | refine And.imp ?_ ?_ | refine forall_imp fun _ => ?_ | refine Exists.imp fun _ => ?_)
theorem mn_wpX11_weighAll {a1 : Int32} {a2 : Int32} {a3 : Int32} {σ : St} {post post' : Int32 → St → Prop} (hpost : ∀ x0 x1, post x0 x1 → post' x0 x1) : wpX11_weighAll a1 a2 a3 σ post → wpX11_weighAll a1 a2 a3 σ post' := by
  unfold wpX11_weighAll
  with_reducible repeat' (first | exact id | exact hpost _ _ | refine mn_wpX3_stand (fun _ => ?_) | refine mn_wbX11_weighAll_69 (fun _ _ => ?_) _ _ _ | refine And.imp ?_ ?_ | refine forall_imp fun _ => ?_ | refine Exists.imp fun _ => ?_)
theorem mn_wpX11_now {a1 : Int32} {a2 : Int32} {a3 : Int32} {a4 : Int32} {σ : St} {post post' : Int32 → St → Prop} (hpost : ∀ x0 x1, post x0 x1 → post' x0 x1) : wpX11_now a1 a2 a3 a4 σ post → wpX11_now a1 a2 a3 a4 σ post' := by
  unfold wpX11_now
  with_reducible repeat' (first | exact id | exact hpost _ _ | refine mn_wpX11_isRow (fun _ _ => ?_) | refine mn_wpX11_weighAll (fun _ _ => ?_) | refine mn_wpX11_within (fun _ _ => ?_) | refine mn_wpX3_pick (fun _ _ => ?_) | refine And.imp ?_ ?_ | refine forall_imp fun _ => ?_ | refine Exists.imp fun _ => ?_)
theorem mn_wbX11_shape_73 {post post' : Int32 → St → Prop} (hpost : ∀ x0 x1, post x0 x1 → post' x0 x1) {s0 : Int32} {s1 : Int32} {s2 : Int32} {σ : St} : wbX11_shape_73 post s0 s1 s2 σ → wbX11_shape_73 post' s0 s1 s2 σ := by
  unfold wbX11_shape_73
  with_reducible repeat' (first | exact id | exact hpost _ _ | refine mn_wpX10_slope (fun _ _ => ?_) | refine And.imp ?_ ?_ | refine forall_imp fun _ => ?_ | refine Exists.imp fun _ => ?_)
theorem mn_wpX11_shape {a1 : Int32} {a2 : Int32} {σ : St} {post post' : Int32 → St → Prop} (hpost : ∀ x0 x1, post x0 x1 → post' x0 x1) : wpX11_shape a1 a2 σ post → wpX11_shape a1 a2 σ post' := by
  unfold wpX11_shape
  with_reducible repeat' (first | exact id | exact hpost _ _ | refine mn_wpX5_has (fun _ _ => ?_) | refine mn_wpX11_within (fun _ _ => ?_) | refine mn_wpX10_peak (fun _ _ => ?_) | refine mn_wbX11_shape_73 (fun _ _ => ?_) | refine mn_wpX10_in (fun _ _ => ?_) | refine And.imp ?_ ?_ | refine forall_imp fun _ => ?_ | refine Exists.imp fun _ => ?_)
theorem mn_wbX11_shapes_22 {post post' : Int32 → St → Prop} (hpost : ∀ x0 x1, post x0 x1 → post' x0 x1) {s0 : Int32} {σ : St} : wbX11_shapes_22 post s0 σ → wbX11_shapes_22 post' s0 σ := by
  unfold wbX11_shapes_22
  with_reducible repeat' (first | exact id | exact hpost _ _ | refine mn_wpX10_pairs (fun _ _ => ?_) | refine And.imp ?_ ?_ | refine forall_imp fun _ => ?_ | refine Exists.imp fun _ => ?_)
theorem mn_wpX11_shapes {a1 : Int32} {σ : St} {post post' : Int32 → St → Prop} (hpost : ∀ x0 x1, post x0 x1 → post' x0 x1) : wpX11_shapes a1 σ post → wpX11_shapes a1 σ post' := by
  unfold wpX11_shapes
  with_reducible repeat' (first | exact id | exact hpost _ _ | refine mn_wpX11_within (fun _ _ => ?_) | refine mn_wbX11_shapes_22 (fun _ _ => ?_) | refine And.imp ?_ ?_ | refine forall_imp fun _ => ?_ | refine Exists.imp fun _ => ?_)
theorem mn_wpX11_lag {a1 : Int32} {σ : St} {post post' : Int32 → St → Prop} (hpost : ∀ x0 x1, post x0 x1 → post' x0 x1) : wpX11_lag a1 σ post → wpX11_lag a1 σ post' := by
  unfold wpX11_lag
  with_reducible repeat' (first | exact id | exact hpost _ _ | refine mn_wpX10_findThousandths (fun _ => ?_) | refine mn_wpX11_within (fun _ _ => ?_) | refine mn_wpX10_leastLag (fun _ _ => ?_) | refine mn_wpX10_apartBy (fun _ _ => ?_) | refine And.imp ?_ ?_ | refine forall_imp fun _ => ?_ | refine Exists.imp fun _ => ?_)
theorem mn_wpX11_together {a1 : Int32} {a2 : Int32} {σ : St} {post post' : Int32 → St → Prop} (hpost : ∀ x0 x1, post x0 x1 → post' x0 x1) : wpX11_together a1 a2 σ post → wpX11_together a1 a2 σ post' := by
  unfold wpX11_together
  with_reducible repeat' (first | exact id | exact hpost _ _ | refine mn_wpX5_has (fun _ _ => ?_) | refine mn_wpX4_wentBy (fun _ _ => ?_) | refine mn_wpX10_risenOfEnding (fun _ _ => ?_) | refine And.imp ?_ ?_ | refine forall_imp fun _ => ?_ | refine Exists.imp fun _ => ?_)
theorem mn_wbX11_broughtBy_30 {post post' : Int32 → St → Prop} (hpost : ∀ x0 x1, post x0 x1 → post' x0 x1) : ∀ (n : Nat) (y0 : Int32) (y1 : Int32) (y2 : Int32) (y3 : St), wbX11_broughtBy_30 post n y0 y1 y2 y3 → wbX11_broughtBy_30 post' n y0 y1 y2 y3 := by
  intro n
  induction n with
  | zero => intro _ _ _ _ ; exact id
  | succ n ih =>
    intro _ _ _ _ 
    unfold wbX11_broughtBy_30
    with_reducible repeat' (first | exact id | exact ih _ _ _ _ | exact hpost _ _ | refine mn_wpX0_between (fun _ _ => ?_) | refine mn_wpX1_pass (fun _ _ => ?_) | refine And.imp ?_ ?_ | refine forall_imp fun _ => ?_ | refine Exists.imp fun _ => ?_)
theorem mn_wpX11_broughtBy {a1 : Int32} {a2 : Int32} {a3 : Int32} {a4 : Int32} {σ : St} {post post' : Int32 → St → Prop} (hpost : ∀ x0 x1, post x0 x1 → post' x0 x1) : wpX11_broughtBy a1 a2 a3 a4 σ post → wpX11_broughtBy a1 a2 a3 a4 σ post' := by
  unfold wpX11_broughtBy
  with_reducible repeat' (first | exact id | exact hpost _ _ | refine mn_wpX0_beginFrom (fun _ => ?_) | refine mn_wbX11_broughtBy_30 (fun _ _ => ?_) _ _ _ _ _ | refine And.imp ?_ ?_ | refine forall_imp fun _ => ?_ | refine Exists.imp fun _ => ?_)
theorem mn_wpX11_took {a1 : Int32} {a2 : Int32} {a3 : Int32} {σ : St} {post post' : Int32 → St → Prop} (hpost : ∀ x0 x1, post x0 x1 → post' x0 x1) : wpX11_took a1 a2 a3 σ post → wpX11_took a1 a2 a3 σ post' := by
  unfold wpX11_took
  with_reducible repeat' (first | exact id | exact hpost _ _ | refine mn_wpX11_within (fun _ _ => ?_) | refine mn_wpX5_has (fun _ _ => ?_) | refine mn_wpX4_wentBy (fun _ _ => ?_) | refine mn_wpX11_broughtBy (fun _ _ => ?_) | refine And.imp ?_ ?_ | refine forall_imp fun _ => ?_ | refine Exists.imp fun _ => ?_)
theorem mn_wpX11_sound {a1 : Int32} {a2 : Int32} {σ : St} {post post' : Int32 → St → Prop} (hpost : ∀ x0 x1, post x0 x1 → post' x0 x1) : wpX11_sound a1 a2 σ post → wpX11_sound a1 a2 σ post' := by
  unfold wpX11_sound
  with_reducible repeat' (first | exact id | exact hpost _ _ | refine mn_wpX5_has (fun _ _ => ?_) | refine mn_wpX4_wentBy (fun _ _ => ?_) | refine mn_wpX11_broughtBy (fun _ _ => ?_) | refine And.imp ?_ ?_ | refine forall_imp fun _ => ?_ | refine Exists.imp fun _ => ?_)
theorem mn_wpX11_crossed {a1 : Int32} {a2 : Int32} {σ : St} {post post' : Int32 → St → Prop} (hpost : ∀ x0 x1, post x0 x1 → post' x0 x1) : wpX11_crossed a1 a2 σ post → wpX11_crossed a1 a2 σ post' := by
  unfold wpX11_crossed
  with_reducible repeat' (first | exact id | exact hpost _ _ | refine mn_wpX5_has (fun _ _ => ?_) | refine mn_wpX11_within (fun _ _ => ?_) | refine mn_wpX10_crossing (fun _ _ => ?_) | refine mn_wpX10_boysAgain (fun _ _ => ?_) | refine And.imp ?_ ?_ | refine forall_imp fun _ => ?_ | refine Exists.imp fun _ => ?_)
theorem mn_wpX11_returned {a1 : Int32} {a2 : Int32} {a3 : Int32} {σ : St} {post post' : Int32 → St → Prop} (hpost : ∀ x0 x1, post x0 x1 → post' x0 x1) : wpX11_returned a1 a2 a3 σ post → wpX11_returned a1 a2 a3 σ post' := by
  unfold wpX11_returned
  with_reducible repeat' (first | exact id | exact hpost _ _ | refine mn_wpX5_has (fun _ _ => ?_) | refine mn_wpX11_within (fun _ _ => ?_) | refine mn_wpX10_comesBack (fun _ _ => ?_) | refine mn_wpX10_livingAt (fun _ _ => ?_) | refine mn_wpX10_emptyAhead (fun _ _ => ?_) | refine And.imp ?_ ?_ | refine forall_imp fun _ => ?_ | refine Exists.imp fun _ => ?_)
theorem mn_wpX11_room {a1 : Int32} {a2 : Int32} {a3 : Int32} {a4 : Int32} {σ : St} {post post' : Int32 → St → Prop} (hpost : ∀ x0 x1, post x0 x1 → post' x0 x1) : wpX11_room a1 a2 a3 a4 σ post → wpX11_room a1 a2 a3 a4 σ post' := by
  unfold wpX11_room
  with_reducible repeat' (first | exact id | exact hpost _ _ | refine mn_wpX11_within (fun _ _ => ?_) | refine mn_wpX4_wentBy (fun _ _ => ?_) | refine mn_wpX10_sharing (fun _ _ => ?_) | refine And.imp ?_ ?_ | refine forall_imp fun _ => ?_ | refine Exists.imp fun _ => ?_)
theorem mn_wbX11_best_137 {K52 K52' : Int32 → Int32 → Int32 → Int32 → Int32 → St → Prop} (hK52 : ∀ x0 x1 x2 x3 x4 x5, K52 x0 x1 x2 x3 x4 x5 → K52' x0 x1 x2 x3 x4 x5) {post post' : Int32 → St → Prop} (hpost : ∀ x0 x1, post x0 x1 → post' x0 x1) {v1 : Int32} {v4 : Int32} {v5 : Int32} {v6 : Int32} {v7 : Int32} {v8 : Int32} {s0 : Int32} {σ : St} : wbX11_best_137 K52 post v1 v4 v5 v6 v7 v8 s0 σ → wbX11_best_137 K52' post' v1 v4 v5 v6 v7 v8 s0 σ := by
  unfold wbX11_best_137
  with_reducible repeat' (first | exact id | exact hK52 _ _ _ _ _ _ | exact hpost _ _ | refine And.imp ?_ ?_ | refine forall_imp fun _ => ?_ | refine Exists.imp fun _ => ?_)
theorem mn_wbX11_best_52 {post post' : Int32 → St → Prop} (hpost : ∀ x0 x1, post x0 x1 → post' x0 x1) : ∀ (n : Nat) (y0 : Int32) (y1 : Int32) (y2 : Int32) (y3 : Int32) (y4 : Int32) (y5 : St), wbX11_best_52 post n y0 y1 y2 y3 y4 y5 → wbX11_best_52 post' n y0 y1 y2 y3 y4 y5 := by
  intro n
  induction n with
  | zero => intro _ _ _ _ _ _ ; exact id
  | succ n ih =>
    intro _ _ _ _ _ _ 
    unfold wbX11_best_52
    with_reducible repeat' (first | exact id | exact ih _ _ _ _ _ _ | exact hpost _ _ | refine mn_wpX10_akinLastYear (fun _ _ => ?_) | refine mn_wbX11_best_137 (fun _ _ _ _ _ _ => ?_) (fun _ _ => ?_) | refine And.imp ?_ ?_ | refine forall_imp fun _ => ?_ | refine Exists.imp fun _ => ?_)
theorem mn_wpX11_best {a1 : Int32} {a2 : Int32} {a3 : Int32} {a4 : Int32} {σ : St} {post post' : Int32 → St → Prop} (hpost : ∀ x0 x1, post x0 x1 → post' x0 x1) : wpX11_best a1 a2 a3 a4 σ post → wpX11_best a1 a2 a3 a4 σ post' := by
  unfold wpX11_best
  with_reducible repeat' (first | exact id | exact hpost _ _ | refine mn_wpX11_isRow (fun _ _ => ?_) | refine mn_wpX11_within (fun _ _ => ?_) | refine mn_wpX11_weighAll (fun _ _ => ?_) | refine mn_wbX11_best_52 (fun _ _ => ?_) _ _ _ _ _ _ _ | refine And.imp ?_ ?_ | refine forall_imp fun _ => ?_ | refine Exists.imp fun _ => ?_)
theorem mn_wpX11_age {a1 : Int32} {a2 : Int32} {a3 : Int32} {σ : St} {post post' : Int32 → St → Prop} (hpost : ∀ x0 x1, post x0 x1 → post' x0 x1) : wpX11_age a1 a2 a3 σ post → wpX11_age a1 a2 a3 σ post' := by
  unfold wpX11_age
  with_reducible repeat' (first | exact id | exact hpost _ _ | refine mn_wpX5_has (fun _ _ => ?_) | refine mn_wpX11_within (fun _ _ => ?_) | refine mn_wpX10_livingAt (fun _ _ => ?_) | refine mn_wpX10_shortestSpan (fun _ _ => ?_) | refine mn_wpX10_spanStart (fun _ _ => ?_) | refine mn_wpX10_halfBorn (fun _ _ => ?_) | refine And.imp ?_ ?_ | refine forall_imp fun _ => ?_ | refine Exists.imp fun _ => ?_)
theorem mn_wpX11_guess {a1 : Int32} {σ : St} {post post' : Int32 → St → Prop} (hpost : ∀ x0 x1, post x0 x1 → post' x0 x1) : wpX11_guess a1 σ post → wpX11_guess a1 σ post' := by
  unfold wpX11_guess
  with_reducible repeat' (first | exact id | exact hpost _ _ | refine mn_wpX5_has (fun _ _ => ?_) | refine mn_wpX10_likeliestPlace (fun _ _ => ?_) | refine And.imp ?_ ?_ | refine forall_imp fun _ => ?_ | refine Exists.imp fun _ => ?_)
theorem mn_wpX11_beyondChance {a1 : Int32} {a2 : Int32} {a3 : Int32} {σ : St} {post post' : Int32 → St → Prop} (hpost : ∀ x0 x1, post x0 x1 → post' x0 x1) : wpX11_beyondChance a1 a2 a3 σ post → wpX11_beyondChance a1 a2 a3 σ post' := by
  unfold wpX11_beyondChance
  with_reducible repeat' (first | exact id | exact hpost _ _ | refine mn_wpX0_groupTotal (fun _ _ => ?_) | refine mn_wpX10_in (fun _ _ => ?_) | refine mn_wpX6_setDraw (fun _ => ?_) | refine mn_wpX6_isRare (fun _ _ => ?_) | refine And.imp ?_ ?_ | refine forall_imp fun _ => ?_ | refine Exists.imp fun _ => ?_)
theorem mn_wbX11_chance_102 {post post' : Int32 → St → Prop} (hpost : ∀ x0 x1, post x0 x1 → post' x0 x1) : ∀ (n : Nat) (y0 : Int32) (y1 : Int32) (y2 : Int32) (y3 : Int32) (y4 : St), wbX11_chance_102 post n y0 y1 y2 y3 y4 → wbX11_chance_102 post' n y0 y1 y2 y3 y4 := by
  intro n
  induction n with
  | zero => intro _ _ _ _ _ ; exact id
  | succ n ih =>
    intro _ _ _ _ _ 
    unfold wbX11_chance_102
    with_reducible repeat' (first | exact id | exact ih _ _ _ _ _ | exact hpost _ _ | refine mn_wpX11_beyondChance (fun _ _ => ?_) | refine And.imp ?_ ?_ | refine forall_imp fun _ => ?_ | refine Exists.imp fun _ => ?_)
theorem mn_wpX11_chance {a1 : Int32} {a2 : Int32} {a3 : Int32} {σ : St} {post post' : Int32 → St → Prop} (hpost : ∀ x0 x1, post x0 x1 → post' x0 x1) : wpX11_chance a1 a2 a3 σ post → wpX11_chance a1 a2 a3 σ post' := by
  unfold wpX11_chance
  with_reducible repeat' (first | exact id | exact hpost _ _ | refine mn_wpX11_within (fun _ _ => ?_) | refine mn_wpX0_groupTotal (fun _ _ => ?_) | refine mn_wbX11_chance_102 (fun _ _ => ?_) _ _ _ _ _ _ | refine mn_wpX11_beyondChance (fun _ _ => ?_) | refine And.imp ?_ ?_ | refine forall_imp fun _ => ?_ | refine Exists.imp fun _ => ?_)
theorem mn_wpJ6_bitCount_0f7a4 {a1 : Int32} {σ : St} {post post' : Int32 → St → Prop} (hpost : ∀ x0 x1, post x0 x1 → post' x0 x1) : wpJ6_bitCount_0f7a4 a1 σ post → wpJ6_bitCount_0f7a4 a1 σ post' := by
  unfold wpJ6_bitCount_0f7a4
  with_reducible repeat' (first | exact id | exact hpost _ _ | refine And.imp ?_ ?_ | refine forall_imp fun _ => ?_ | refine Exists.imp fun _ => ?_)
theorem mn_wpX11_turnover {a1 : Int32} {a2 : Int32} {σ : St} {post post' : Int32 → St → Prop} (hpost : ∀ x0 x1, post x0 x1 → post' x0 x1) : wpX11_turnover a1 a2 σ post → wpX11_turnover a1 a2 σ post' := by
  unfold wpX11_turnover
  with_reducible repeat' (first | exact id | exact hpost _ _ | refine mn_wpX4_wentBy (fun _ _ => ?_) | refine mn_wpX11_within (fun _ _ => ?_) | refine mn_wpX10_foremost (fun _ _ => ?_) | refine mn_wpJ6_bitCount_0f7a4 (fun _ _ => ?_) | refine And.imp ?_ ?_ | refine forall_imp fun _ => ?_ | refine Exists.imp fun _ => ?_)
theorem mn_wpX11_isPrintable {a1 : Int32} {a2 : Int32} {a3 : Int32} {a4 : Int32} {σ : St} {post post' : Int32 → St → Prop} (hpost : ∀ x0 x1, post x0 x1 → post' x0 x1) : wpX11_isPrintable a1 a2 a3 a4 σ post → wpX11_isPrintable a1 a2 a3 a4 σ post' := by
  unfold wpX11_isPrintable
  with_reducible repeat' (first | exact id | exact hpost _ _ | refine mn_wpX11_within (fun _ _ => ?_) | refine mn_wpX11_isRow (fun _ _ => ?_) | refine mn_wpX5_has (fun _ _ => ?_) | refine And.imp ?_ ?_ | refine forall_imp fun _ => ?_ | refine Exists.imp fun _ => ?_)
theorem mn_wpX11_print {a1 : Int32} {a2 : Int32} {a3 : Int32} {a4 : Int32} {a5 : Int32} {σ : St} {post post' : Int32 → St → Prop} (hpost : ∀ x0 x1, post x0 x1 → post' x0 x1) : wpX11_print a1 a2 a3 a4 a5 σ post → wpX11_print a1 a2 a3 a4 a5 σ post' := by
  unfold wpX11_print
  with_reducible repeat' (first | exact id | exact hpost _ _ | refine mn_wpX11_isPrintable (fun _ _ => ?_) | refine mn_wpX11_within (fun _ _ => ?_) | refine mn_wpX7_spot (fun _ _ => ?_) | refine mn_wpX7_add (fun _ _ => ?_) | refine And.imp ?_ ?_ | refine forall_imp fun _ => ?_ | refine Exists.imp fun _ => ?_)
theorem mn_wbX11_runBy_32 {K2 K2' : Int32 → Int32 → St → Prop} (hK2 : ∀ x0 x1 x2, K2 x0 x1 x2 → K2' x0 x1 x2) {post post' : St → Prop} (hpost : ∀ x0, post x0 → post' x0) : ∀ (n : Nat) (y0 : Int32) (y1 : Int32) (y2 : Int32) (y3 : St), wbX11_runBy_32 K2 post n y0 y1 y2 y3 → wbX11_runBy_32 K2' post' n y0 y1 y2 y3 := by
  intro n
  induction n with
  | zero => intro _ _ _ _ ; exact id
  | succ n ih =>
    intro _ _ _ _ 
    unfold wbX11_runBy_32
    with_reducible repeat' (first | exact id | exact ih _ _ _ _ | exact hK2 _ _ _ | exact hpost _ | refine mn_wpX7_keepRun (fun _ => ?_) | refine mn_wpX1_pass (fun _ _ => ?_) | refine And.imp ?_ ?_ | refine forall_imp fun _ => ?_ | refine Exists.imp fun _ => ?_)
theorem mn_wbX11_runBy_2 {post post' : St → Prop} (hpost : ∀ x0, post x0 → post' x0) : ∀ (n : Nat) (y0 : Int32) (y1 : Int32) (y2 : St), wbX11_runBy_2 post n y0 y1 y2 → wbX11_runBy_2 post' n y0 y1 y2 := by
  intro n
  induction n with
  | zero => intro _ _ _ ; exact id
  | succ n ih =>
    intro _ _ _ 
    unfold wbX11_runBy_2
    with_reducible repeat' (first | exact id | exact ih _ _ _ | exact hpost _ | refine mn_wpX7_hasRun (fun _ _ => ?_) | refine mn_wpX0_beginFrom (fun _ => ?_) | refine mn_wbX11_runBy_32 (fun _ _ _ => ?_) (fun _ => ?_) _ _ _ _ _ | refine And.imp ?_ ?_ | refine forall_imp fun _ => ?_ | refine Exists.imp fun _ => ?_)
theorem mn_wpX11_runBy {a1 : Int32} {a2 : Int32} {σ : St} {post post' : St → Prop} (hpost : ∀ x0, post x0 → post' x0) : wpX11_runBy a1 a2 σ post → wpX11_runBy a1 a2 σ post' := by
  unfold wpX11_runBy
  with_reducible repeat' (first | exact id | exact hpost _ | refine mn_wbX11_runBy_2 (fun _ => ?_) _ _ _ _ | refine And.imp ?_ ?_ | refine forall_imp fun _ => ?_ | refine Exists.imp fun _ => ?_)
theorem mn_wbX11_let_52 {post post' : Int32 → St → Prop} (hpost : ∀ x0 x1, post x0 x1 → post' x0 x1) {v2 : Int32} {v3 : Int32} {s0 : Int32} {σ : St} : wbX11_let_52 post v2 v3 s0 σ → wbX11_let_52 post' v2 v3 s0 σ := by
  unfold wbX11_let_52
  with_reducible repeat' (first | exact id | exact hpost _ _ | refine mn_wpX11_runBy (fun _ => ?_) | refine mn_wpX7_agreeing (fun _ _ => ?_) | refine mn_wpJ6_bitCount_0f7a4 (fun _ _ => ?_) | refine And.imp ?_ ?_ | refine forall_imp fun _ => ?_ | refine Exists.imp fun _ => ?_)
theorem mn_wbX11_let_36 {post post' : Int32 → St → Prop} (hpost : ∀ x0 x1, post x0 x1 → post' x0 x1) {v1 : Int32} {v2 : Int32} {s0 : Int32} {σ : St} : wbX11_let_36 post v1 v2 s0 σ → wbX11_let_36 post' v1 v2 s0 σ := by
  unfold wbX11_let_36
  with_reducible repeat' (first | exact id | exact hpost _ _ | refine mn_wbX11_let_52 (fun _ _ => ?_) | refine And.imp ?_ ?_ | refine forall_imp fun _ => ?_ | refine Exists.imp fun _ => ?_)
theorem mn_wpX11_let {a1 : Int32} {a2 : Int32} {σ : St} {post post' : Int32 → St → Prop} (hpost : ∀ x0 x1, post x0 x1 → post' x0 x1) : wpX11_let a1 a2 σ post → wpX11_let a1 a2 σ post' := by
  unfold wpX11_let
  with_reducible repeat' (first | exact id | exact hpost _ _ | refine mn_wpX11_within (fun _ _ => ?_) | refine mn_wbX11_let_36 (fun _ _ => ?_) | refine And.imp ?_ ?_ | refine forall_imp fun _ => ?_ | refine Exists.imp fun _ => ?_)
theorem mn_wpX11_span {a1 : Int32} {a2 : Int32} {a3 : Int32} {a4 : Int32} {a5 : Int32} {σ : St} {post post' : Int32 → St → Prop} (hpost : ∀ x0 x1, post x0 x1 → post' x0 x1) : wpX11_span a1 a2 a3 a4 a5 σ post → wpX11_span a1 a2 a3 a4 a5 σ post' := by
  unfold wpX11_span
  with_reducible repeat' (first | exact id | exact hpost _ _ | refine mn_wpX11_isPrintable (fun _ _ => ?_) | refine mn_wpX11_runBy (fun _ => ?_) | refine mn_wpX7_agreeing (fun _ _ => ?_) | refine mn_wpX7_spot (fun _ _ => ?_) | refine mn_wpX7_bound (fun _ _ => ?_) | refine And.imp ?_ ?_ | refine forall_imp fun _ => ?_ | refine Exists.imp fun _ => ?_)
