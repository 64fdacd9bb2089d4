/-! posts may be weakened (3) -/
theorem mn_wpX11_parts {a1 : Int32} {a2 : Int32} {σ : St} {post post' : Int32 → St → Prop} (hpost : ∀ x0 x1, post x0 x1 → post' x0 x1) : wpX11_parts a1 a2 σ post → wpX11_parts a1 a2 σ post' := by
  unfold wpX11_parts
  with_reducible repeat' (first | exact id | exact hpost _ _ | refine mn_wpX11_within (fun _ _ => ?_) | refine mn_wpX11_runBy (fun _ => ?_) | refine mn_wpX7_agreeing (fun _ _ => ?_) | refine mn_wpX7_widestSpot (fun _ _ => ?_) | refine mn_wpX7_width (fun _ _ => ?_) | refine And.imp ?_ ?_ | refine forall_imp fun _ => ?_ | refine Exists.imp fun _ => ?_)
theorem mn_wpX11_image {σ : St} {post post' : Int32 → St → Prop} (hpost : ∀ x0 x1, post x0 x1 → post' x0 x1) : wpX11_image σ post → wpX11_image σ post' := by
  unfold wpX11_image
  with_reducible repeat' (first | exact id | exact hpost _ _ | refine mn_wpX2_keep (fun _ => ?_) | refine And.imp ?_ ?_ | refine forall_imp fun _ => ?_ | refine Exists.imp fun _ => ?_)
theorem mn_wpX11_back {σ : St} {post post' : Int32 → St → Prop} (hpost : ∀ x0 x1, post x0 x1 → post' x0 x1) : wpX11_back σ post → wpX11_back σ post' := by
  unfold wpX11_back
  with_reducible repeat' (first | exact id | exact hpost _ _ | refine mn_wpX2_restore (fun _ => ?_) | refine mn_wpX7_forgetRuns (fun _ => ?_) | refine And.imp ?_ ?_ | refine forall_imp fun _ => ?_ | refine Exists.imp fun _ => ?_)
theorem mn_wpX11_about {a1 : Int32} {σ : St} {post post' : Int32 → St → Prop} (hpost : ∀ x0 x1, post x0 x1 → post' x0 x1) : wpX11_about a1 σ post → wpX11_about a1 σ post' := by
  unfold wpX11_about
  with_reducible repeat' (first | exact id | exact hpost _ _ | refine mn_wpX11_within (fun _ _ => ?_) | refine And.imp ?_ ?_ | refine forall_imp fun _ => ?_ | refine Exists.imp fun _ => ?_)
theorem mn_wpX12_in {a1 : Int32} {a2 : Int32} {a3 : Int32} {σ : St} {post post' : Int32 → St → Prop} (hpost : ∀ x0 x1, post x0 x1 → post' x0 x1) : wpX12_in a1 a2 a3 σ post → wpX12_in a1 a2 a3 σ post' := by
  unfold wpX12_in
  with_reducible repeat' (first | exact id | exact hpost _ _ | refine And.imp ?_ ?_ | refine forall_imp fun _ => ?_ | refine Exists.imp fun _ => ?_)
theorem mn_wpX12_lesser {a1 : Int32} {a2 : Int32} {σ : St} {post post' : Int32 → St → Prop} (hpost : ∀ x0 x1, post x0 x1 → post' x0 x1) : wpX12_lesser a1 a2 σ post → wpX12_lesser a1 a2 σ post' := by
  unfold wpX12_lesser
  with_reducible repeat' (first | exact id | exact hpost _ _ | refine And.imp ?_ ?_ | refine forall_imp fun _ => ?_ | refine Exists.imp fun _ => ?_)
theorem mn_wpX12_greater {a1 : Int32} {a2 : Int32} {σ : St} {post post' : Int32 → St → Prop} (hpost : ∀ x0 x1, post x0 x1 → post' x0 x1) : wpX12_greater a1 a2 σ post → wpX12_greater a1 a2 σ post' := by
  unfold wpX12_greater
  with_reducible repeat' (first | exact id | exact hpost _ _ | refine And.imp ?_ ?_ | refine forall_imp fun _ => ?_ | refine Exists.imp fun _ => ?_)
theorem mn_wpX12_away {a1 : Int32} {σ : St} {post post' : Int32 → St → Prop} (hpost : ∀ x0 x1, post x0 x1 → post' x0 x1) : wpX12_away a1 σ post → wpX12_away a1 σ post' := by
  unfold wpX12_away
  with_reducible repeat' (first | exact id | exact hpost _ _ | refine And.imp ?_ ?_ | refine forall_imp fun _ => ?_ | refine Exists.imp fun _ => ?_)
theorem mn_wbX12_copies_2 {post post' : St → Prop} (hpost : ∀ x0, post x0 → post' x0) : ∀ (n : Nat) (y0 : Int32) (y1 : Int32) (y2 : St), wbX12_copies_2 post n y0 y1 y2 → wbX12_copies_2 post' n y0 y1 y2 := by
  intro n
  induction n with
  | zero => intro _ _ _ ; exact id
  | succ n ih =>
    intro _ _ _ 
    unfold wbX12_copies_2
    with_reducible repeat' (first | exact id | exact ih _ _ _ | exact hpost _ | refine And.imp ?_ ?_ | refine forall_imp fun _ => ?_ | refine Exists.imp fun _ => ?_)
theorem mn_wpX12_copies {a1 : Int32} {σ : St} {post post' : St → Prop} (hpost : ∀ x0, post x0 → post' x0) : wpX12_copies a1 σ post → wpX12_copies a1 σ post' := by
  unfold wpX12_copies
  with_reducible repeat' (first | exact id | exact hpost _ | refine mn_wbX12_copies_2 (fun _ => ?_) _ _ _ _ | refine And.imp ?_ ?_ | refine forall_imp fun _ => ?_ | refine Exists.imp fun _ => ?_)
theorem mn_wpX12_isName {a1 : Int32} {σ : St} {post post' : Int32 → St → Prop} (hpost : ∀ x0 x1, post x0 x1 → post' x0 x1) : wpX12_isName a1 σ post → wpX12_isName a1 σ post' := by
  unfold wpX12_isName
  with_reducible repeat' (first | exact id | exact hpost _ _ | refine mn_wpX12_in (fun _ _ => ?_) | refine And.imp ?_ ?_ | refine forall_imp fun _ => ?_ | refine Exists.imp fun _ => ?_)
theorem mn_wpX12_isTaste {a1 : Int32} {σ : St} {post post' : Int32 → St → Prop} (hpost : ∀ x0 x1, post x0 x1 → post' x0 x1) : wpX12_isTaste a1 σ post → wpX12_isTaste a1 σ post' := by
  unfold wpX12_isTaste
  with_reducible repeat' (first | exact id | exact hpost _ _ | refine mn_wpX12_in (fun _ _ => ?_) | refine And.imp ?_ ?_ | refine forall_imp fun _ => ?_ | refine Exists.imp fun _ => ?_)
theorem mn_wpX12_isCradle {a1 : Int32} {a2 : Int32} {a3 : Int32} {σ : St} {post post' : Int32 → St → Prop} (hpost : ∀ x0 x1, post x0 x1 → post' x0 x1) : wpX12_isCradle a1 a2 a3 σ post → wpX12_isCradle a1 a2 a3 σ post' := by
  unfold wpX12_isCradle
  with_reducible repeat' (first | exact id | exact hpost _ _ | refine mn_wpX12_in (fun _ _ => ?_) | refine And.imp ?_ ?_ | refine forall_imp fun _ => ?_ | refine Exists.imp fun _ => ?_)
theorem mn_wpX12_cell {a1 : Int32} {a2 : Int32} {a3 : Int32} {σ : St} {post post' : Int32 → St → Prop} (hpost : ∀ x0 x1, post x0 x1 → post' x0 x1) : wpX12_cell a1 a2 a3 σ post → wpX12_cell a1 a2 a3 σ post' := by
  unfold wpX12_cell
  with_reducible repeat' (first | exact id | exact hpost _ _ | refine And.imp ?_ ?_ | refine forall_imp fun _ => ?_ | refine Exists.imp fun _ => ?_)
theorem mn_wpX12_isGone {a1 : Int32} {σ : St} {post post' : Int32 → St → Prop} (hpost : ∀ x0 x1, post x0 x1 → post' x0 x1) : wpX12_isGone a1 σ post → wpX12_isGone a1 σ post' := by
  unfold wpX12_isGone
  with_reducible repeat' (first | exact id | exact hpost _ _ | refine mn_wpX12_in (fun _ _ => ?_) | refine And.imp ?_ ?_ | refine forall_imp fun _ => ?_ | refine Exists.imp fun _ => ?_)
theorem mn_wpX12_letterAt {a1 : Int64} {a2 : Int32} {σ : St} {post post' : Int32 → St → Prop} (hpost : ∀ x0 x1, post x0 x1 → post' x0 x1) : wpX12_letterAt a1 a2 σ post → wpX12_letterAt a1 a2 σ post' := by
  unfold wpX12_letterAt
  with_reducible repeat' (first | exact id | exact hpost _ _ | refine And.imp ?_ ?_ | refine forall_imp fun _ => ?_ | refine Exists.imp fun _ => ?_)
theorem mn_wbX12_size_2 {post post' : Int32 → St → Prop} (hpost : ∀ x0 x1, post x0 x1 → post' x0 x1) : ∀ (n : Nat) (y0 : Int64) (y1 : Int32) (y2 : St), wbX12_size_2 post n y0 y1 y2 → wbX12_size_2 post' n y0 y1 y2 := by
  intro n
  induction n with
  | zero => intro _ _ _ ; exact id
  | succ n ih =>
    intro _ _ _ 
    unfold wbX12_size_2
    with_reducible repeat' (first | exact id | exact ih _ _ _ | exact hpost _ _ | refine mn_wpX12_letterAt (fun _ _ => ?_) | refine And.imp ?_ ?_ | refine forall_imp fun _ => ?_ | refine Exists.imp fun _ => ?_)
theorem mn_wpX12_size {a1 : Int64} {σ : St} {post post' : Int32 → St → Prop} (hpost : ∀ x0 x1, post x0 x1 → post' x0 x1) : wpX12_size a1 σ post → wpX12_size a1 σ post' := by
  unfold wpX12_size
  with_reducible repeat' (first | exact id | exact hpost _ _ | refine mn_wbX12_size_2 (fun _ _ => ?_) _ _ _ _ | refine And.imp ?_ ?_ | refine forall_imp fun _ => ?_ | refine Exists.imp fun _ => ?_)
theorem mn_wbX12_name_148 {post post' : Int32 → St → Prop} (hpost : ∀ x0 x1, post x0 x1 → post' x0 x1) {v1 : Int64} {v3 : Int32} {v5 : Int32} {σ : St} : wbX12_name_148 post v1 v3 v5 σ → wbX12_name_148 post' v1 v3 v5 σ := by
  unfold wbX12_name_148
  with_reducible repeat' (first | exact id | exact hpost _ _ | refine And.imp ?_ ?_ | refine forall_imp fun _ => ?_ | refine Exists.imp fun _ => ?_)
theorem mn_wbX12_name_107 {post post' : Int32 → St → Prop} (hpost : ∀ x0 x1, post x0 x1 → post' x0 x1) : ∀ (n : Nat) (y0 : Int64) (y1 : Int32) (y2 : Int32) (y3 : Int32) (y4 : St), wbX12_name_107 post n y0 y1 y2 y3 y4 → wbX12_name_107 post' n y0 y1 y2 y3 y4 := by
  intro n
  induction n with
  | zero => intro _ _ _ _ _ ; exact id
  | succ n ih =>
    intro _ _ _ _ _ 
    unfold wbX12_name_107
    with_reducible repeat' (first | exact id | exact ih _ _ _ _ _ | exact hpost _ _ | refine mn_wbX12_name_148 (fun _ _ => ?_) | refine And.imp ?_ ?_ | refine forall_imp fun _ => ?_ | refine Exists.imp fun _ => ?_)
theorem mn_wbX12_name_68 {post post' : Int32 → St → Prop} (hpost : ∀ x0 x1, post x0 x1 → post' x0 x1) : ∀ (n : Nat) (y0 : Int64) (y1 : Int32) (y2 : Int32) (y3 : Int32) (y4 : Int32) (y5 : St), wbX12_name_68 post n y0 y1 y2 y3 y4 y5 → wbX12_name_68 post' n y0 y1 y2 y3 y4 y5 := by
  intro n
  induction n with
  | zero => intro _ _ _ _ _ _ ; exact id
  | succ n ih =>
    intro _ _ _ _ _ _ 
    unfold wbX12_name_68
    with_reducible repeat' (first | exact id | exact ih _ _ _ _ _ _ | exact hpost _ _ | refine mn_wbX12_name_107 (fun _ _ => ?_) _ _ _ _ _ _ | refine mn_wpX12_letterAt (fun _ _ => ?_) | refine And.imp ?_ ?_ | refine forall_imp fun _ => ?_ | refine Exists.imp fun _ => ?_)
theorem mn_wbX12_name_14 {post post' : Int32 → St → Prop} (hpost : ∀ x0 x1, post x0 x1 → post' x0 x1) {v1 : Int64} {v3 : Int32} {s0 : Int32} {σ : St} : wbX12_name_14 post v1 v3 s0 σ → wbX12_name_14 post' v1 v3 s0 σ := by
  unfold wbX12_name_14
  with_reducible repeat' (first | exact id | exact hpost _ _ | refine mn_wpX12_in (fun _ _ => ?_) | refine mn_wbX12_name_68 (fun _ _ => ?_) _ _ _ _ _ _ _ | refine And.imp ?_ ?_ | refine forall_imp fun _ => ?_ | refine Exists.imp fun _ => ?_)
theorem mn_wpX12_name {a1 : Int64} {a2 : Int32} {σ : St} {post post' : Int32 → St → Prop} (hpost : ∀ x0 x1, post x0 x1 → post' x0 x1) : wpX12_name a1 a2 σ post → wpX12_name a1 a2 σ post' := by
  unfold wpX12_name
  with_reducible repeat' (first | exact id | exact hpost _ _ | refine mn_wbX12_name_14 (fun _ _ => ?_) | refine mn_wpX12_size (fun _ _ => ?_) | refine And.imp ?_ ?_ | refine forall_imp fun _ => ?_ | refine Exists.imp fun _ => ?_)
theorem mn_wpX12_isVowel {a1 : Int32} {σ : St} {post post' : Int32 → St → Prop} (hpost : ∀ x0 x1, post x0 x1 → post' x0 x1) : wpX12_isVowel a1 σ post → wpX12_isVowel a1 σ post' := by
  unfold wpX12_isVowel
  with_reducible repeat' (first | exact id | exact hpost _ _ | refine And.imp ?_ ?_ | refine forall_imp fun _ => ?_ | refine Exists.imp fun _ => ?_)
theorem mn_wbX12_ending_4 {post post' : Int64 → St → Prop} (hpost : ∀ x0 x1, post x0 x1 → post' x0 x1) : ∀ (n : Nat) (y0 : Int64) (y1 : Int32) (y2 : Int32) (y3 : St), wbX12_ending_4 post n y0 y1 y2 y3 → wbX12_ending_4 post' n y0 y1 y2 y3 := by
  intro n
  induction n with
  | zero => intro _ _ _ _ ; exact id
  | succ n ih =>
    intro _ _ _ _ 
    unfold wbX12_ending_4
    with_reducible repeat' (first | exact id | exact ih _ _ _ _ | exact hpost _ _ | refine mn_wpX12_size (fun _ _ => ?_) | refine mn_wpX12_letterAt (fun _ _ => ?_) | refine mn_wpX12_isVowel (fun _ _ => ?_) | refine And.imp ?_ ?_ | refine forall_imp fun _ => ?_ | refine Exists.imp fun _ => ?_)
theorem mn_wpX12_ending {a1 : Int64} {σ : St} {post post' : Int64 → St → Prop} (hpost : ∀ x0 x1, post x0 x1 → post' x0 x1) : wpX12_ending a1 σ post → wpX12_ending a1 σ post' := by
  unfold wpX12_ending
  with_reducible repeat' (first | exact id | exact hpost _ _ | refine mn_wbX12_ending_4 (fun _ _ => ?_) _ _ _ _ _ | refine And.imp ?_ ?_ | refine forall_imp fun _ => ?_ | refine Exists.imp fun _ => ?_)
theorem mn_wpX12_sounds {a1 : Int32} {σ : St} {post post' : Int32 → St → Prop} (hpost : ∀ x0 x1, post x0 x1 → post' x0 x1) : wpX12_sounds a1 σ post → wpX12_sounds a1 σ post' := by
  unfold wpX12_sounds
  with_reducible repeat' (first | exact id | exact hpost _ _ | refine And.imp ?_ ?_ | refine forall_imp fun _ => ?_ | refine Exists.imp fun _ => ?_)
theorem mn_wbX12_soundsOf_11 {post post' : Int64 → St → Prop} (hpost : ∀ x0 x1, post x0 x1 → post' x0 x1) : ∀ (n : Nat) (y0 : Int64) (y1 : Int64) (y2 : Int32) (y3 : Int32) (y4 : Int32) (y5 : St), wbX12_soundsOf_11 post n y0 y1 y2 y3 y4 y5 → wbX12_soundsOf_11 post' n y0 y1 y2 y3 y4 y5 := by
  intro n
  induction n with
  | zero => intro _ _ _ _ _ _ ; exact id
  | succ n ih =>
    intro _ _ _ _ _ _ 
    unfold wbX12_soundsOf_11
    with_reducible repeat' (first | exact id | exact ih _ _ _ _ _ _ | exact hpost _ _ | refine mn_wpX12_size (fun _ _ => ?_) | refine mn_wpX12_letterAt (fun _ _ => ?_) | refine mn_wpX12_sounds (fun _ _ => ?_) | refine And.imp ?_ ?_ | refine forall_imp fun _ => ?_ | refine Exists.imp fun _ => ?_)
theorem mn_wpX12_soundsOf {a1 : Int64} {σ : St} {post post' : Int64 → St → Prop} (hpost : ∀ x0 x1, post x0 x1 → post' x0 x1) : wpX12_soundsOf a1 σ post → wpX12_soundsOf a1 σ post' := by
  unfold wpX12_soundsOf
  with_reducible repeat' (first | exact id | exact hpost _ _ | refine mn_wbX12_soundsOf_11 (fun _ _ => ?_) _ _ _ _ _ _ _ | refine And.imp ?_ ?_ | refine forall_imp fun _ => ?_ | refine Exists.imp fun _ => ?_)
theorem mn_wpX12_without {a1 : Int64} {a2 : Int32} {σ : St} {post post' : Int64 → St → Prop} (hpost : ∀ x0 x1, post x0 x1 → post' x0 x1) : wpX12_without a1 a2 σ post → wpX12_without a1 a2 σ post' := by
  unfold wpX12_without
  with_reducible repeat' (first | exact id | exact hpost _ _ | refine And.imp ?_ ?_ | refine forall_imp fun _ => ?_ | refine Exists.imp fun _ => ?_)
theorem mn_wbX12_areAlike_134 {K44 K44' : Int64 → Int64 → Int32 → Int32 → Int32 → Int32 → St → Prop} (hK44 : ∀ x0 x1 x2 x3 x4 x5 x6, K44 x0 x1 x2 x3 x4 x5 x6 → K44' x0 x1 x2 x3 x4 x5 x6) {post post' : Int32 → St → Prop} (hpost : ∀ x0 x1, post x0 x1 → post' x0 x1) {v4 : Int64} {v6 : Int64} {v8 : Int32} {v9 : Int32} {v11 : Int32} {s0 : Int32} {σ : St} : wbX12_areAlike_134 K44 post v4 v6 v8 v9 v11 s0 σ → wbX12_areAlike_134 K44' post' v4 v6 v8 v9 v11 s0 σ := by
  unfold wbX12_areAlike_134
  with_reducible repeat' (first | exact id | exact hK44 _ _ _ _ _ _ _ | exact hpost _ _ | refine mn_wpX12_without (fun _ _ => ?_) | refine And.imp ?_ ?_ | refine forall_imp fun _ => ?_ | refine Exists.imp fun _ => ?_)
theorem mn_wbX12_areAlike_93 {K44 K44' : Int64 → Int64 → Int32 → Int32 → Int32 → Int32 → St → Prop} (hK44 : ∀ x0 x1 x2 x3 x4 x5 x6, K44 x0 x1 x2 x3 x4 x5 x6 → K44' x0 x1 x2 x3 x4 x5 x6) {post post' : Int32 → St → Prop} (hpost : ∀ x0 x1, post x0 x1 → post' x0 x1) {v4 : Int64} {v6 : Int64} {v8 : Int32} {v9 : Int32} {v11 : Int32} {s0 : Int32} {σ : St} : wbX12_areAlike_93 K44 post v4 v6 v8 v9 v11 s0 σ → wbX12_areAlike_93 K44' post' v4 v6 v8 v9 v11 s0 σ := by
  unfold wbX12_areAlike_93
  with_reducible repeat' (first | exact id | exact hK44 _ _ _ _ _ _ _ | exact hpost _ _ | refine mn_wbX12_areAlike_134 (fun _ _ _ _ _ _ _ => ?_) (fun _ _ => ?_) | refine mn_wpX12_without (fun _ _ => ?_) | refine And.imp ?_ ?_ | refine forall_imp fun _ => ?_ | refine Exists.imp fun _ => ?_)
theorem mn_wbX12_areAlike_44 {post post' : Int32 → St → Prop} (hpost : ∀ x0 x1, post x0 x1 → post' x0 x1) : ∀ (n : Nat) (y0 : Int64) (y1 : Int64) (y2 : Int32) (y3 : Int32) (y4 : Int32) (y5 : Int32) (y6 : St), wbX12_areAlike_44 post n y0 y1 y2 y3 y4 y5 y6 → wbX12_areAlike_44 post' n y0 y1 y2 y3 y4 y5 y6 := by
  intro n
  induction n with
  | zero => intro _ _ _ _ _ _ _ ; exact id
  | succ n ih =>
    intro _ _ _ _ _ _ _ 
    unfold wbX12_areAlike_44
    with_reducible repeat' (first | exact id | exact ih _ _ _ _ _ _ _ | exact hpost _ _ | refine mn_wbX12_areAlike_93 (fun _ _ _ _ _ _ _ => ?_) (fun _ _ => ?_) | refine mn_wpX12_without (fun _ _ => ?_) | refine And.imp ?_ ?_ | refine forall_imp fun _ => ?_ | refine Exists.imp fun _ => ?_)
theorem mn_wpX12_areAlike {a1 : Int64} {a2 : Int64} {σ : St} {post post' : Int32 → St → Prop} (hpost : ∀ x0 x1, post x0 x1 → post' x0 x1) : wpX12_areAlike a1 a2 σ post → wpX12_areAlike a1 a2 σ post' := by
  unfold wpX12_areAlike
  with_reducible repeat' (first | exact id | exact hpost _ _ | refine mn_wpX12_soundsOf (fun _ _ => ?_) | refine mn_wpX12_size (fun _ _ => ?_) | refine mn_wbX12_areAlike_44 (fun _ _ => ?_) _ _ _ _ _ _ _ _ | refine And.imp ?_ ?_ | refine forall_imp fun _ => ?_ | refine Exists.imp fun _ => ?_)
theorem mn_wbX12_lowestOf_2 {post post' : Int32 → St → Prop} (hpost : ∀ x0 x1, post x0 x1 → post' x0 x1) : ∀ (n : Nat) (y0 : Int32) (y1 : Int32) (y2 : St), wbX12_lowestOf_2 post n y0 y1 y2 → wbX12_lowestOf_2 post' n y0 y1 y2 := by
  intro n
  induction n with
  | zero => intro _ _ _ ; exact id
  | succ n ih =>
    intro _ _ _ 
    unfold wbX12_lowestOf_2
    with_reducible repeat' (first | exact id | exact ih _ _ _ | exact hpost _ _ | refine mn_wpX12_ending (fun _ _ => ?_) | refine And.imp ?_ ?_ | refine forall_imp fun _ => ?_ | refine Exists.imp fun _ => ?_)
theorem mn_wpX12_lowestOf {a1 : Int32} {σ : St} {post post' : Int32 → St → Prop} (hpost : ∀ x0 x1, post x0 x1 → post' x0 x1) : wpX12_lowestOf a1 σ post → wpX12_lowestOf a1 σ post' := by
  unfold wpX12_lowestOf
  with_reducible repeat' (first | exact id | exact hpost _ _ | refine mn_wbX12_lowestOf_2 (fun _ _ => ?_) _ _ _ _ | refine And.imp ?_ ?_ | refine forall_imp fun _ => ?_ | refine Exists.imp fun _ => ?_)
theorem mn_wpX12_all {a1 : Int32} {a2 : Int32} {σ : St} {post post' : Int32 → St → Prop} (hpost : ∀ x0 x1, post x0 x1 → post' x0 x1) : wpX12_all a1 a2 σ post → wpX12_all a1 a2 σ post' := by
  unfold wpX12_all
  with_reducible repeat' (first | exact id | exact hpost _ _ | refine And.imp ?_ ?_ | refine forall_imp fun _ => ?_ | refine Exists.imp fun _ => ?_)
theorem mn_wbX12_words_315 {post post' : St → Prop} (hpost : ∀ x0, post x0 → post' x0) {v1 : Int32} {v4 : Int32} {s0 : Int64} {s1 : Int32} {σ : St} : wbX12_words_315 post v1 v4 s0 s1 σ → wbX12_words_315 post' v1 v4 s0 s1 σ := by
  unfold wbX12_words_315
  with_reducible repeat' (first | exact id | exact hpost _ | refine mn_wpX12_size (fun _ _ => ?_) | refine And.imp ?_ ?_ | refine forall_imp fun _ => ?_ | refine Exists.imp fun _ => ?_)
theorem mn_wbX12_words_135 {post post' : St → Prop} (hpost : ∀ x0, post x0 → post' x0) {v1 : Int32} {v3 : Int32} {v4 : Int32} {s0 : Int64} {s1 : Int32} {σ : St} : wbX12_words_135 post v1 v3 v4 s0 s1 σ → wbX12_words_135 post' v1 v3 v4 s0 s1 σ := by
  unfold wbX12_words_135
  with_reducible repeat' (first | exact id | exact hpost _ | refine mn_wpX12_all (fun _ _ => ?_) | refine mn_wbX12_words_315 (fun _ => ?_) | refine And.imp ?_ ?_ | refine forall_imp fun _ => ?_ | refine Exists.imp fun _ => ?_)
theorem mn_wbX12_words_6 {post post' : St → Prop} (hpost : ∀ x0, post x0 → post' x0) : ∀ (n : Nat) (y0 : Int32) (y1 : Int32) (y2 : Int32) (y3 : Int32) (y4 : Int32) (y5 : Int32) (y6 : St), wbX12_words_6 post n y0 y1 y2 y3 y4 y5 y6 → wbX12_words_6 post' n y0 y1 y2 y3 y4 y5 y6 := by
  intro n
  induction n with
  | zero => intro _ _ _ _ _ _ _ ; exact id
  | succ n ih =>
    intro _ _ _ _ _ _ _ 
    unfold wbX12_words_6
    with_reducible repeat' (first | exact id | exact ih _ _ _ _ _ _ _ | exact hpost _ | refine mn_wbX12_words_135 (fun _ => ?_) | refine And.imp ?_ ?_ | refine forall_imp fun _ => ?_ | refine Exists.imp fun _ => ?_)
theorem mn_wpX12_words {a1 : Int32} {a2 : Int32} {a3 : Int32} {a4 : Int32} {σ : St} {post post' : St → Prop} (hpost : ∀ x0, post x0 → post' x0) : wpX12_words a1 a2 a3 a4 σ post → wpX12_words a1 a2 a3 a4 σ post' := by
  unfold wpX12_words
  with_reducible repeat' (first | exact id | exact hpost _ | refine mn_wbX12_words_6 (fun _ => ?_) _ _ _ _ _ _ _ _ | refine And.imp ?_ ?_ | refine forall_imp fun _ => ?_ | refine Exists.imp fun _ => ?_)
theorem mn_wpX12_bound {a1 : Int64} {σ : St} {post post' : Int64 → St → Prop} (hpost : ∀ x0 x1, post x0 x1 → post' x0 x1) : wpX12_bound a1 σ post → wpX12_bound a1 σ post' := by
  unfold wpX12_bound
  with_reducible repeat' (first | exact id | exact hpost _ _ | refine And.imp ?_ ?_ | refine forall_imp fun _ => ?_ | refine Exists.imp fun _ => ?_)
theorem mn_wpX12_worked {a1 : Int32} {a2 : Int64} {a3 : Int64} {σ : St} {post post' : Int64 → St → Prop} (hpost : ∀ x0 x1, post x0 x1 → post' x0 x1) : wpX12_worked a1 a2 a3 σ post → wpX12_worked a1 a2 a3 σ post' := by
  unfold wpX12_worked
  with_reducible repeat' (first | exact id | exact hpost _ _ | refine mn_wpX12_bound (fun _ _ => ?_) | refine And.imp ?_ ?_ | refine forall_imp fun _ => ?_ | refine Exists.imp fun _ => ?_)
theorem mn_wbX12_tells_40 {K4 K4' : Int32 → Int32 → St → Prop} (hK4 : ∀ x0 x1 x2, K4 x0 x1 x2 → K4' x0 x1 x2) {post post' : Int64 → St → Prop} (hpost : ∀ x0 x1, post x0 x1 → post' x0 x1) {v2 : Int32} {v3 : Int32} {v4 : Int32} {σ : St} : wbX12_tells_40 K4 post v2 v3 v4 σ → wbX12_tells_40 K4' post' v2 v3 v4 σ := by
  unfold wbX12_tells_40
  with_reducible repeat' (first | exact id | exact hK4 _ _ _ | exact hpost _ _ | refine And.imp ?_ ?_ | refine forall_imp fun _ => ?_ | refine Exists.imp fun _ => ?_)
theorem mn_wbX12_tells_4 {post post' : Int64 → St → Prop} (hpost : ∀ x0 x1, post x0 x1 → post' x0 x1) : ∀ (n : Nat) (y0 : Int32) (y1 : Int32) (y2 : St), wbX12_tells_4 post n y0 y1 y2 → wbX12_tells_4 post' n y0 y1 y2 := by
  intro n
  induction n with
  | zero => intro _ _ _ ; exact id
  | succ n ih =>
    intro _ _ _ 
    unfold wbX12_tells_4
    with_reducible repeat' (first | exact id | exact ih _ _ _ | exact hpost _ _ | refine mn_wbX12_tells_40 (fun _ _ _ => ?_) (fun _ _ => ?_) | refine mn_wpX12_worked (fun _ _ => ?_) | refine And.imp ?_ ?_ | refine forall_imp fun _ => ?_ | refine Exists.imp fun _ => ?_)
theorem mn_wpX12_tells {a1 : Int32} {σ : St} {post post' : Int64 → St → Prop} (hpost : ∀ x0 x1, post x0 x1 → post' x0 x1) : wpX12_tells a1 σ post → wpX12_tells a1 σ post' := by
  unfold wpX12_tells
  with_reducible repeat' (first | exact id | exact hpost _ _ | refine mn_wbX12_tells_4 (fun _ _ => ?_) _ _ _ _ | refine And.imp ?_ ?_ | refine forall_imp fun _ => ?_ | refine Exists.imp fun _ => ?_)
theorem mn_wbX12_isBarred_4 {post post' : Int32 → St → Prop} (hpost : ∀ x0 x1, post x0 x1 → post' x0 x1) : ∀ (n : Nat) (y0 : Int32) (y1 : Int32) (y2 : Int32) (y3 : St), wbX12_isBarred_4 post n y0 y1 y2 y3 → wbX12_isBarred_4 post' n y0 y1 y2 y3 := by
  intro n
  induction n with
  | zero => intro _ _ _ _ ; exact id
  | succ n ih =>
    intro _ _ _ _ 
    unfold wbX12_isBarred_4
    with_reducible repeat' (first | exact id | exact ih _ _ _ _ | exact hpost _ _ | refine mn_wpX12_tells (fun _ _ => ?_) | refine And.imp ?_ ?_ | refine forall_imp fun _ => ?_ | refine Exists.imp fun _ => ?_)
theorem mn_wpX12_isBarred {a1 : Int32} {σ : St} {post post' : Int32 → St → Prop} (hpost : ∀ x0 x1, post x0 x1 → post' x0 x1) : wpX12_isBarred a1 σ post → wpX12_isBarred a1 σ post' := by
  unfold wpX12_isBarred
  with_reducible repeat' (first | exact id | exact hpost _ _ | refine mn_wbX12_isBarred_4 (fun _ _ => ?_) _ _ _ _ _ | refine And.imp ?_ ?_ | refine forall_imp fun _ => ?_ | refine Exists.imp fun _ => ?_)
theorem mn_wbX12_may_53 {post post' : Int32 → St → Prop} (hpost : ∀ x0 x1, post x0 x1 → post' x0 x1) {v2 : Int32} {σ : St} : wbX12_may_53 post v2 σ → wbX12_may_53 post' v2 σ := by
  unfold wbX12_may_53
  with_reducible repeat' (first | exact id | exact hpost _ _ | refine mn_wpX12_isBarred (fun _ _ => ?_) | refine And.imp ?_ ?_ | refine forall_imp fun _ => ?_ | refine Exists.imp fun _ => ?_)
theorem mn_wpX12_may {a1 : Int32} {a2 : Int32} {a3 : Int32} {a4 : Int32} {σ : St} {post post' : Int32 → St → Prop} (hpost : ∀ x0 x1, post x0 x1 → post' x0 x1) : wpX12_may a1 a2 a3 a4 σ post → wpX12_may a1 a2 a3 a4 σ post' := by
  unfold wpX12_may
  with_reducible repeat' (first | exact id | exact hpost _ _ | refine mn_wbX12_may_53 (fun _ _ => ?_) | refine And.imp ?_ ?_ | refine forall_imp fun _ => ?_ | refine Exists.imp fun _ => ?_)
theorem mn_wbX12_worthOf_5 {post post' : Int64 → St → Prop} (hpost : ∀ x0 x1, post x0 x1 → post' x0 x1) : ∀ (n : Nat) (y0 : Int32) (y1 : Int64) (y2 : Int32) (y3 : St), wbX12_worthOf_5 post n y0 y1 y2 y3 → wbX12_worthOf_5 post' n y0 y1 y2 y3 := by
  intro n
  induction n with
  | zero => intro _ _ _ _ ; exact id
  | succ n ih =>
    intro _ _ _ _ 
    unfold wbX12_worthOf_5
    with_reducible repeat' (first | exact id | exact ih _ _ _ _ | exact hpost _ _ | refine mn_wpX12_tells (fun _ _ => ?_) | refine And.imp ?_ ?_ | refine forall_imp fun _ => ?_ | refine Exists.imp fun _ => ?_)
theorem mn_wpX12_worthOf {a1 : Int32} {σ : St} {post post' : Int64 → St → Prop} (hpost : ∀ x0 x1, post x0 x1 → post' x0 x1) : wpX12_worthOf a1 σ post → wpX12_worthOf a1 σ post' := by
  unfold wpX12_worthOf
  with_reducible repeat' (first | exact id | exact hpost _ _ | refine mn_wbX12_worthOf_5 (fun _ _ => ?_) _ _ _ _ _ | refine And.imp ?_ ?_ | refine forall_imp fun _ => ?_ | refine Exists.imp fun _ => ?_)
theorem mn_wbX12_chooses_86 {K13 K13' : Int32 → Int32 → Int32 → Int32 → Int32 → St → Prop} (hK13 : ∀ x0 x1 x2 x3 x4 x5, K13 x0 x1 x2 x3 x4 x5 → K13' x0 x1 x2 x3 x4 x5) {post post' : St → Prop} (hpost : ∀ x0, post x0 → post' x0) {v1 : Int32} {v2 : Int32} {v3 : Int32} {v4 : Int32} {v5 : Int32} {v6 : Int64} {σ : St} : wbX12_chooses_86 K13 post v1 v2 v3 v4 v5 v6 σ → wbX12_chooses_86 K13' post' v1 v2 v3 v4 v5 v6 σ := by
  unfold wbX12_chooses_86
  with_reducible repeat' (first | exact id | exact hK13 _ _ _ _ _ _ | exact hpost _ | refine And.imp ?_ ?_ | refine forall_imp fun _ => ?_ | refine Exists.imp fun _ => ?_)
theorem mn_wbX12_chooses_13 {post post' : St → Prop} (hpost : ∀ x0, post x0 → post' x0) : ∀ (n : Nat) (y0 : Int32) (y1 : Int32) (y2 : Int32) (y3 : Int32) (y4 : Int32) (y5 : St), wbX12_chooses_13 post n y0 y1 y2 y3 y4 y5 → wbX12_chooses_13 post' n y0 y1 y2 y3 y4 y5 := by
  intro n
  induction n with
  | zero => intro _ _ _ _ _ _ ; exact id
  | succ n ih =>
    intro _ _ _ _ _ _ 
    unfold wbX12_chooses_13
    with_reducible repeat' (first | exact id | exact ih _ _ _ _ _ _ | exact hpost _ | refine mn_wpX12_words (fun _ => ?_) | refine mn_wpX12_may (fun _ _ => ?_) | refine mn_wpX12_worthOf (fun _ _ => ?_) | refine mn_wbX12_chooses_86 (fun _ _ _ _ _ _ => ?_) (fun _ => ?_) | refine And.imp ?_ ?_ | refine forall_imp fun _ => ?_ | refine Exists.imp fun _ => ?_)
theorem mn_wpX12_chooses {a1 : Int32} {a2 : Int32} {a3 : Int32} {a4 : Int32} {σ : St} {post post' : St → Prop} (hpost : ∀ x0, post x0 → post' x0) : wpX12_chooses a1 a2 a3 a4 σ post → wpX12_chooses a1 a2 a3 a4 σ post' := by
  unfold wpX12_chooses
  with_reducible repeat' (first | exact id | exact hpost _ | refine mn_wbX12_chooses_13 (fun _ => ?_) _ _ _ _ _ _ _ | refine And.imp ?_ ?_ | refine forall_imp fun _ => ?_ | refine Exists.imp fun _ => ?_)
theorem mn_wpX12_gives {a1 : Int32} {a2 : Int32} {a3 : Int32} {a4 : Int32} {a5 : Int32} {a6 : Int32} {σ : St} {post post' : St → Prop} (hpost : ∀ x0, post x0 → post' x0) : wpX12_gives a1 a2 a3 a4 a5 a6 σ post → wpX12_gives a1 a2 a3 a4 a5 a6 σ post' := by
  unfold wpX12_gives
  with_reducible repeat' (first | exact id | exact hpost _ | refine mn_wpX12_cell (fun _ _ => ?_) | refine And.imp ?_ ?_ | refine forall_imp fun _ => ?_ | refine Exists.imp fun _ => ?_)
theorem mn_wpX12_rocks {a1 : Int32} {a2 : Int32} {a3 : Int32} {a4 : Int32} {σ : St} {post post' : St → Prop} (hpost : ∀ x0, post x0 → post' x0) : wpX12_rocks a1 a2 a3 a4 σ post → wpX12_rocks a1 a2 a3 a4 σ post' := by
  unfold wpX12_rocks
  with_reducible repeat' (first | exact id | exact hpost _ | refine mn_wpX12_chooses (fun _ => ?_) | refine mn_wpX12_gives (fun _ => ?_) | refine And.imp ?_ ?_ | refine forall_imp fun _ => ?_ | refine Exists.imp fun _ => ?_)
theorem mn_wbX12_laysOf_95 {K86 K86' : Int32 → Int32 → Int32 → Int32 → Int32 → St → Prop} (hK86 : ∀ x0 x1 x2 x3 x4 x5, K86 x0 x1 x2 x3 x4 x5 → K86' x0 x1 x2 x3 x4 x5) {post post' : St → Prop} (hpost : ∀ x0, post x0 → post' x0) : ∀ (n : Nat) (y0 : Int32) (y1 : Int32) (y2 : Int32) (y3 : Int32) (y4 : Int32) (y5 : Int32) (y6 : St), wbX12_laysOf_95 K86 post n y0 y1 y2 y3 y4 y5 y6 → wbX12_laysOf_95 K86' post' n y0 y1 y2 y3 y4 y5 y6 := by
  intro n
  induction n with
  | zero => intro _ _ _ _ _ _ _ ; exact id
  | succ n ih =>
    intro _ _ _ _ _ _ _ 
    unfold wbX12_laysOf_95
    with_reducible repeat' (first | exact id | exact ih _ _ _ _ _ _ _ | exact hK86 _ _ _ _ _ _ | exact hpost _ | refine And.imp ?_ ?_ | refine forall_imp fun _ => ?_ | refine Exists.imp fun _ => ?_)
theorem mn_wbX12_laysOf_239 {post post' : St → Prop} (hpost : ∀ x0, post x0 → post' x0) : ∀ (n : Nat) (y0 : Int32) (y1 : Int32) (y2 : Int32) (y3 : Int32) (y4 : Int32) (y5 : Int32) (y6 : St), wbX12_laysOf_239 post n y0 y1 y2 y3 y4 y5 y6 → wbX12_laysOf_239 post' n y0 y1 y2 y3 y4 y5 y6 := by
  intro n
  induction n with
  | zero => intro _ _ _ _ _ _ _ ; exact id
  | succ n ih =>
    intro _ _ _ _ _ _ _ 
    unfold wbX12_laysOf_239
    with_reducible repeat' (first | exact id | exact ih _ _ _ _ _ _ _ | exact hpost _ | refine mn_wpX12_all (fun _ _ => ?_) | refine And.imp ?_ ?_ | refine forall_imp fun _ => ?_ | refine Exists.imp fun _ => ?_)
theorem mn_wbX12_laysOf_86 {post post' : St → Prop} (hpost : ∀ x0, post x0 → post' x0) : ∀ (n : Nat) (y0 : Int32) (y1 : Int32) (y2 : Int32) (y3 : Int32) (y4 : Int32) (y5 : St), wbX12_laysOf_86 post n y0 y1 y2 y3 y4 y5 → wbX12_laysOf_86 post' n y0 y1 y2 y3 y4 y5 := by
  intro n
  induction n with
  | zero => intro _ _ _ _ _ _ ; exact id
  | succ n ih =>
    intro _ _ _ _ _ _ 
    unfold wbX12_laysOf_86
    with_reducible repeat' (first | exact id | exact ih _ _ _ _ _ _ | exact hpost _ | refine mn_wpX12_greater (fun _ _ => ?_) | refine mn_wbX12_laysOf_239 (fun _ => ?_) _ _ _ _ _ _ _ _ | refine mn_wbX12_laysOf_95 (fun _ _ _ _ _ _ => ?_) (fun _ => ?_) _ _ _ _ _ _ _ _ | refine And.imp ?_ ?_ | refine forall_imp fun _ => ?_ | refine Exists.imp fun _ => ?_)
theorem mn_wbX12_laysOf_11 {post post' : St → Prop} (hpost : ∀ x0, post x0 → post' x0) : ∀ (n : Nat) (y0 : Int32) (y1 : Int32) (y2 : Int32) (y3 : Int32) (y4 : Int32) (y5 : St), wbX12_laysOf_11 post n y0 y1 y2 y3 y4 y5 → wbX12_laysOf_11 post' n y0 y1 y2 y3 y4 y5 := by
  intro n
  induction n with
  | zero => intro _ _ _ _ _ _ ; exact id
  | succ n ih =>
    intro _ _ _ _ _ _ 
    unfold wbX12_laysOf_11
    with_reducible repeat' (first | exact id | exact ih _ _ _ _ _ _ | exact hpost _ | refine mn_wpX12_greater (fun _ _ => ?_) | refine mn_wbX12_laysOf_86 (fun _ => ?_) _ _ _ _ _ _ _ | refine And.imp ?_ ?_ | refine forall_imp fun _ => ?_ | refine Exists.imp fun _ => ?_)
theorem mn_wpX12_laysOf {a1 : Int32} {a2 : Int32} {a3 : Int32} {σ : St} {post post' : St → Prop} (hpost : ∀ x0, post x0 → post' x0) : wpX12_laysOf a1 a2 a3 σ post → wpX12_laysOf a1 a2 a3 σ post' := by
  unfold wpX12_laysOf
  with_reducible repeat' (first | exact id | exact hpost _ | refine mn_wbX12_laysOf_11 (fun _ => ?_) _ _ _ _ _ _ _ | refine And.imp ?_ ?_ | refine forall_imp fun _ => ?_ | refine Exists.imp fun _ => ?_)
theorem mn_wbX12_filmOf_6 {post post' : Int32 → St → Prop} (hpost : ∀ x0 x1, post x0 x1 → post' x0 x1) : ∀ (n : Nat) (y0 : Int32) (y1 : Int32) (y2 : Int32) (y3 : Int32) (y4 : Int32) (y5 : St), wbX12_filmOf_6 post n y0 y1 y2 y3 y4 y5 → wbX12_filmOf_6 post' n y0 y1 y2 y3 y4 y5 := by
  intro n
  induction n with
  | zero => intro _ _ _ _ _ _ ; exact id
  | succ n ih =>
    intro _ _ _ _ _ _ 
    unfold wbX12_filmOf_6
    with_reducible repeat' (first | exact id | exact ih _ _ _ _ _ _ | exact hpost _ _ | refine And.imp ?_ ?_ | refine forall_imp fun _ => ?_ | refine Exists.imp fun _ => ?_)
theorem mn_wpX12_filmOf {a1 : Int32} {a2 : Int32} {a3 : Int32} {σ : St} {post post' : Int32 → St → Prop} (hpost : ∀ x0 x1, post x0 x1 → post' x0 x1) : wpX12_filmOf a1 a2 a3 σ post → wpX12_filmOf a1 a2 a3 σ post' := by
  unfold wpX12_filmOf
  with_reducible repeat' (first | exact id | exact hpost _ _ | refine mn_wbX12_filmOf_6 (fun _ _ => ?_) _ _ _ _ _ _ _ | refine And.imp ?_ ?_ | refine forall_imp fun _ => ?_ | refine Exists.imp fun _ => ?_)
theorem mn_wbX12_lays_303 {K3 K3' : Int32 → Int32 → Int32 → Int32 → St → Prop} (hK3 : ∀ x0 x1 x2 x3 x4, K3 x0 x1 x2 x3 x4 → K3' x0 x1 x2 x3 x4) {post post' : St → Prop} (hpost : ∀ x0, post x0 → post' x0) : ∀ (n : Nat) (y0 : Int32) (y1 : Int32) (y2 : Int32) (y3 : Int32) (y4 : Int32) (y5 : St), wbX12_lays_303 K3 post n y0 y1 y2 y3 y4 y5 → wbX12_lays_303 K3' post' n y0 y1 y2 y3 y4 y5 := by
  intro n
  induction n with
  | zero => intro _ _ _ _ _ _ ; exact id
  | succ n ih =>
    intro _ _ _ _ _ _ 
    unfold wbX12_lays_303
    with_reducible repeat' (first | exact id | exact ih _ _ _ _ _ _ | exact hK3 _ _ _ _ _ | exact hpost _ | refine mn_wpX12_laysOf (fun _ => ?_) | refine And.imp ?_ ?_ | refine forall_imp fun _ => ?_ | refine Exists.imp fun _ => ?_)
theorem mn_wbX12_lays_285 {K3 K3' : Int32 → Int32 → Int32 → Int32 → St → Prop} (hK3 : ∀ x0 x1 x2 x3 x4, K3 x0 x1 x2 x3 x4 → K3' x0 x1 x2 x3 x4) {post post' : St → Prop} (hpost : ∀ x0, post x0 → post' x0) {v1 : Int32} {v2 : Int32} {v3 : Int32} {v4 : Int32} {σ : St} : wbX12_lays_285 K3 post v1 v2 v3 v4 σ → wbX12_lays_285 K3' post' v1 v2 v3 v4 σ := by
  unfold wbX12_lays_285
  with_reducible repeat' (first | exact id | exact hK3 _ _ _ _ _ | exact hpost _ | refine mn_wpX12_filmOf (fun _ _ => ?_) | refine mn_wbX12_lays_303 (fun _ _ _ _ _ => ?_) (fun _ => ?_) _ _ _ _ _ _ _ | refine And.imp ?_ ?_ | refine forall_imp fun _ => ?_ | refine Exists.imp fun _ => ?_)
theorem mn_wbX12_lays_210 {K3 K3' : Int32 → Int32 → Int32 → Int32 → St → Prop} (hK3 : ∀ x0 x1 x2 x3 x4, K3 x0 x1 x2 x3 x4 → K3' x0 x1 x2 x3 x4) {post post' : St → Prop} (hpost : ∀ x0, post x0 → post' x0) : ∀ (n : Nat) (y0 : Int32) (y1 : Int32) (y2 : Int32) (y3 : Int32) (y4 : Int32) (y5 : St), wbX12_lays_210 K3 post n y0 y1 y2 y3 y4 y5 → wbX12_lays_210 K3' post' n y0 y1 y2 y3 y4 y5 := by
  intro n
  induction n with
  | zero => intro _ _ _ _ _ _ ; exact id
  | succ n ih =>
    intro _ _ _ _ _ _ 
    unfold wbX12_lays_210
    with_reducible repeat' (first | exact id | exact ih _ _ _ _ _ _ | exact hK3 _ _ _ _ _ | exact hpost _ | refine mn_wbX12_lays_285 (fun _ _ _ _ _ => ?_) (fun _ => ?_) | refine mn_wpX12_ending (fun _ _ => ?_) | refine mn_wpX12_all (fun _ _ => ?_) | refine And.imp ?_ ?_ | refine forall_imp fun _ => ?_ | refine Exists.imp fun _ => ?_)
theorem mn_wbX12_lays_172 {K3 K3' : Int32 → Int32 → Int32 → Int32 → St → Prop} (hK3 : ∀ x0 x1 x2 x3 x4, K3 x0 x1 x2 x3 x4 → K3' x0 x1 x2 x3 x4) {post post' : St → Prop} (hpost : ∀ x0, post x0 → post' x0) {v1 : Int32} {v2 : Int32} {v3 : Int32} {v4 : Int32} {s0 : Int32} {s1 : Int32} {σ : St} : wbX12_lays_172 K3 post v1 v2 v3 v4 s0 s1 σ → wbX12_lays_172 K3' post' v1 v2 v3 v4 s0 s1 σ := by
  unfold wbX12_lays_172
  with_reducible repeat' (first | exact id | exact hK3 _ _ _ _ _ | exact hpost _ | refine mn_wpX12_all (fun _ _ => ?_) | refine mn_wbX12_lays_210 (fun _ _ _ _ _ => ?_) (fun _ => ?_) _ _ _ _ _ _ _ | refine And.imp ?_ ?_ | refine forall_imp fun _ => ?_ | refine Exists.imp fun _ => ?_)
theorem mn_wbX12_lays_145 {K3 K3' : Int32 → Int32 → Int32 → Int32 → St → Prop} (hK3 : ∀ x0 x1 x2 x3 x4, K3 x0 x1 x2 x3 x4 → K3' x0 x1 x2 x3 x4) {post post' : St → Prop} (hpost : ∀ x0, post x0 → post' x0) {v1 : Int32} {v2 : Int32} {v3 : Int32} {v4 : Int32} {v7 : Int32} {σ : St} : wbX12_lays_145 K3 post v1 v2 v3 v4 v7 σ → wbX12_lays_145 K3' post' v1 v2 v3 v4 v7 σ := by
  unfold wbX12_lays_145
  with_reducible repeat' (first | exact id | exact hK3 _ _ _ _ _ | exact hpost _ | refine mn_wpX12_lesser (fun _ _ => ?_) | refine mn_wbX12_lays_172 (fun _ _ _ _ _ => ?_) (fun _ => ?_) | refine And.imp ?_ ?_ | refine forall_imp fun _ => ?_ | refine Exists.imp fun _ => ?_)
theorem mn_wbX12_lays_121 {K3 K3' : Int32 → Int32 → Int32 → Int32 → St → Prop} (hK3 : ∀ x0 x1 x2 x3 x4, K3 x0 x1 x2 x3 x4 → K3' x0 x1 x2 x3 x4) {post post' : St → Prop} (hpost : ∀ x0, post x0 → post' x0) : ∀ (n : Nat) (y0 : Int32) (y1 : Int32) (y2 : Int32) (y3 : Int32) (y4 : Int32) (y5 : St), wbX12_lays_121 K3 post n y0 y1 y2 y3 y4 y5 → wbX12_lays_121 K3' post' n y0 y1 y2 y3 y4 y5 := by
  intro n
  induction n with
  | zero => intro _ _ _ _ _ _ ; exact id
  | succ n ih =>
    intro _ _ _ _ _ _ 
    unfold wbX12_lays_121
    with_reducible repeat' (first | exact id | exact ih _ _ _ _ _ _ | exact hK3 _ _ _ _ _ | exact hpost _ | refine mn_wbX12_lays_145 (fun _ _ _ _ _ => ?_) (fun _ => ?_) | refine mn_wpX12_all (fun _ _ => ?_) | refine And.imp ?_ ?_ | refine forall_imp fun _ => ?_ | refine Exists.imp fun _ => ?_)
theorem mn_wbX12_lays_38 {K3 K3' : Int32 → Int32 → Int32 → Int32 → St → Prop} (hK3 : ∀ x0 x1 x2 x3 x4, K3 x0 x1 x2 x3 x4 → K3' x0 x1 x2 x3 x4) {post post' : St → Prop} (hpost : ∀ x0, post x0 → post' x0) : ∀ (n : Nat) (y0 : Int32) (y1 : Int32) (y2 : Int32) (y3 : Int32) (y4 : Int32) (y5 : Int32) (y6 : Int32) (y7 : St), wbX12_lays_38 K3 post n y0 y1 y2 y3 y4 y5 y6 y7 → wbX12_lays_38 K3' post' n y0 y1 y2 y3 y4 y5 y6 y7 := by
  intro n
  induction n with
  | zero => intro _ _ _ _ _ _ _ _ ; exact id
  | succ n ih =>
    intro _ _ _ _ _ _ _ _ 
    unfold wbX12_lays_38
    with_reducible repeat' (first | exact id | exact ih _ _ _ _ _ _ _ _ | exact hK3 _ _ _ _ _ | exact hpost _ | refine mn_wbX12_lays_121 (fun _ _ _ _ _ => ?_) (fun _ => ?_) _ _ _ _ _ _ _ | refine And.imp ?_ ?_ | refine forall_imp fun _ => ?_ | refine Exists.imp fun _ => ?_)
theorem mn_wbX12_lays_349 {post post' : St → Prop} (hpost : ∀ x0, post x0 → post' x0) : ∀ (n : Nat) (y0 : Int32) (y1 : Int32) (y2 : St), wbX12_lays_349 post n y0 y1 y2 → wbX12_lays_349 post' n y0 y1 y2 := by
  intro n
  induction n with
  | zero => intro _ _ _ ; exact id
  | succ n ih =>
    intro _ _ _ 
    unfold wbX12_lays_349
    with_reducible repeat' (first | exact id | exact ih _ _ _ | exact hpost _ | refine And.imp ?_ ?_ | refine forall_imp fun _ => ?_ | refine Exists.imp fun _ => ?_)
theorem mn_wbX12_lays_3 {post post' : St → Prop} (hpost : ∀ x0, post x0 → post' x0) : ∀ (n : Nat) (y0 : Int32) (y1 : Int32) (y2 : Int32) (y3 : Int32) (y4 : St), wbX12_lays_3 post n y0 y1 y2 y3 y4 → wbX12_lays_3 post' n y0 y1 y2 y3 y4 := by
  intro n
  induction n with
  | zero => intro _ _ _ _ _ ; exact id
  | succ n ih =>
    intro _ _ _ _ _ 
    unfold wbX12_lays_3
    with_reducible repeat' (first | exact id | exact ih _ _ _ _ _ | exact hpost _ | refine mn_wbX12_lays_349 (fun _ => ?_) _ _ _ _ | refine mn_wpX12_greater (fun _ _ => ?_) | refine mn_wbX12_lays_38 (fun _ _ _ _ _ => ?_) (fun _ => ?_) _ _ _ _ _ _ _ _ _ | refine And.imp ?_ ?_ | refine forall_imp fun _ => ?_ | refine Exists.imp fun _ => ?_)
theorem mn_wpX12_lays {a1 : Int32} {a2 : Int32} {a3 : Int32} {σ : St} {post post' : St → Prop} (hpost : ∀ x0, post x0 → post' x0) : wpX12_lays a1 a2 a3 σ post → wpX12_lays a1 a2 a3 σ post' := by
  unfold wpX12_lays
  with_reducible repeat' (first | exact id | exact hpost _ | refine mn_wbX12_lays_3 (fun _ => ?_) _ _ _ _ _ _ | refine And.imp ?_ ?_ | refine forall_imp fun _ => ?_ | refine Exists.imp fun _ => ?_)
theorem mn_wbX12_clears_97 {post post' : St → Prop} (hpost : ∀ x0, post x0 → post' x0) : ∀ (n : Nat) (y0 : Int32) (y1 : St), wbX12_clears_97 post n y0 y1 → wbX12_clears_97 post' n y0 y1 := by
  intro n
  induction n with
  | zero => intro _ _ ; exact id
  | succ n ih =>
    intro _ _ 
    unfold wbX12_clears_97
    with_reducible repeat' (first | exact id | exact ih _ _ | exact hpost _ | refine And.imp ?_ ?_ | refine forall_imp fun _ => ?_ | refine Exists.imp fun _ => ?_)
theorem mn_wbX12_clears_68 {post post' : St → Prop} (hpost : ∀ x0, post x0 → post' x0) : ∀ (n : Nat) (y0 : Int32) (y1 : St), wbX12_clears_68 post n y0 y1 → wbX12_clears_68 post' n y0 y1 := by
  intro n
  induction n with
  | zero => intro _ _ ; exact id
  | succ n ih =>
    intro _ _ 
    unfold wbX12_clears_68
    with_reducible repeat' (first | exact id | exact ih _ _ | exact hpost _ | refine mn_wbX12_clears_97 (fun _ => ?_) _ _ _ | refine And.imp ?_ ?_ | refine forall_imp fun _ => ?_ | refine Exists.imp fun _ => ?_)
theorem mn_wbX12_clears_46 {post post' : St → Prop} (hpost : ∀ x0, post x0 → post' x0) : ∀ (n : Nat) (y0 : Int32) (y1 : St), wbX12_clears_46 post n y0 y1 → wbX12_clears_46 post' n y0 y1 := by
  intro n
  induction n with
  | zero => intro _ _ ; exact id
  | succ n ih =>
    intro _ _ 
    unfold wbX12_clears_46
    with_reducible repeat' (first | exact id | exact ih _ _ | exact hpost _ | refine mn_wbX12_clears_68 (fun _ => ?_) _ _ _ | refine And.imp ?_ ?_ | refine forall_imp fun _ => ?_ | refine Exists.imp fun _ => ?_)
theorem mn_wbX12_clears_24 {post post' : St → Prop} (hpost : ∀ x0, post x0 → post' x0) : ∀ (n : Nat) (y0 : Int32) (y1 : St), wbX12_clears_24 post n y0 y1 → wbX12_clears_24 post' n y0 y1 := by
  intro n
  induction n with
  | zero => intro _ _ ; exact id
  | succ n ih =>
    intro _ _ 
    unfold wbX12_clears_24
    with_reducible repeat' (first | exact id | exact ih _ _ | exact hpost _ | refine mn_wbX12_clears_46 (fun _ => ?_) _ _ _ | refine And.imp ?_ ?_ | refine forall_imp fun _ => ?_ | refine Exists.imp fun _ => ?_)
theorem mn_wbX12_clears_2 {post post' : St → Prop} (hpost : ∀ x0, post x0 → post' x0) : ∀ (n : Nat) (y0 : Int32) (y1 : St), wbX12_clears_2 post n y0 y1 → wbX12_clears_2 post' n y0 y1 := by
  intro n
  induction n with
  | zero => intro _ _ ; exact id
  | succ n ih =>
    intro _ _ 
    unfold wbX12_clears_2
    with_reducible repeat' (first | exact id | exact ih _ _ | exact hpost _ | refine mn_wbX12_clears_24 (fun _ => ?_) _ _ _ | refine And.imp ?_ ?_ | refine forall_imp fun _ => ?_ | refine Exists.imp fun _ => ?_)
theorem mn_wpX12_clears {σ : St} {post post' : St → Prop} (hpost : ∀ x0, post x0 → post' x0) : wpX12_clears σ post → wpX12_clears σ post' := by
  unfold wpX12_clears
  with_reducible repeat' (first | exact id | exact hpost _ | refine mn_wbX12_clears_2 (fun _ => ?_) _ _ _ | refine And.imp ?_ ?_ | refine forall_imp fun _ => ?_ | refine Exists.imp fun _ => ?_)
theorem mn_wbX12_runs_261 {K214 K214' : Int32 → Int32 → Int32 → Int32 → Int32 → Int32 → Int32 → St → Prop} (hK214 : ∀ x0 x1 x2 x3 x4 x5 x6 x7, K214 x0 x1 x2 x3 x4 x5 x6 x7 → K214' x0 x1 x2 x3 x4 x5 x6 x7) {post post' : St → Prop} (hpost : ∀ x0, post x0 → post' x0) : ∀ (n : Nat) (y0 : Int32) (y1 : Int32) (y2 : Int32) (y3 : Int32) (y4 : Int32) (y5 : Int32) (y6 : Int32) (y7 : Int32) (y8 : Int32) (y9 : St), wbX12_runs_261 K214 post n y0 y1 y2 y3 y4 y5 y6 y7 y8 y9 → wbX12_runs_261 K214' post' n y0 y1 y2 y3 y4 y5 y6 y7 y8 y9 := by
  intro n
  induction n with
  | zero => intro _ _ _ _ _ _ _ _ _ _ ; exact id
  | succ n ih =>
    intro _ _ _ _ _ _ _ _ _ _ 
    unfold wbX12_runs_261
    with_reducible repeat' (first | exact id | exact ih _ _ _ _ _ _ _ _ _ _ | exact hK214 _ _ _ _ _ _ _ _ | exact hpost _ | refine mn_wpX12_rocks (fun _ => ?_) | refine And.imp ?_ ?_ | refine forall_imp fun _ => ?_ | refine Exists.imp fun _ => ?_)
theorem mn_wbX12_runs_214 {K108 K108' : Int32 → Int32 → Int32 → Int32 → Int32 → St → Prop} (hK108 : ∀ x0 x1 x2 x3 x4 x5, K108 x0 x1 x2 x3 x4 x5 → K108' x0 x1 x2 x3 x4 x5) {post post' : St → Prop} (hpost : ∀ x0, post x0 → post' x0) : ∀ (n : Nat) (y0 : Int32) (y1 : Int32) (y2 : Int32) (y3 : Int32) (y4 : Int32) (y5 : Int32) (y6 : Int32) (y7 : St), wbX12_runs_214 K108 post n y0 y1 y2 y3 y4 y5 y6 y7 → wbX12_runs_214 K108' post' n y0 y1 y2 y3 y4 y5 y6 y7 := by
  intro n
  induction n with
  | zero => intro _ _ _ _ _ _ _ _ ; exact id
  | succ n ih =>
    intro _ _ _ _ _ _ _ _ 
    unfold wbX12_runs_214
    with_reducible repeat' (first | exact id | exact ih _ _ _ _ _ _ _ _ | exact hK108 _ _ _ _ _ _ | exact hpost _ | refine mn_wbX12_runs_261 (fun _ _ _ _ _ _ _ _ => ?_) (fun _ => ?_) _ _ _ _ _ _ _ _ _ _ _ | refine And.imp ?_ ?_ | refine forall_imp fun _ => ?_ | refine Exists.imp fun _ => ?_)
theorem mn_wbX12_runs_27 {K17 K17' : Int32 → Int32 → Int32 → Int32 → Int32 → Int32 → St → Prop} (hK17 : ∀ x0 x1 x2 x3 x4 x5 x6, K17 x0 x1 x2 x3 x4 x5 x6 → K17' x0 x1 x2 x3 x4 x5 x6) {post post' : St → Prop} (hpost : ∀ x0, post x0 → post' x0) : ∀ (n : Nat) (y0 : Int32) (y1 : Int32) (y2 : Int32) (y3 : Int32) (y4 : Int32) (y5 : Int32) (y6 : Int32) (y7 : St), wbX12_runs_27 K17 post n y0 y1 y2 y3 y4 y5 y6 y7 → wbX12_runs_27 K17' post' n y0 y1 y2 y3 y4 y5 y6 y7 := by
  intro n
  induction n with
  | zero => intro _ _ _ _ _ _ _ _ ; exact id
  | succ n ih =>
    intro _ _ _ _ _ _ _ _ 
    unfold wbX12_runs_27
    with_reducible repeat' (first | exact id | exact ih _ _ _ _ _ _ _ _ | exact hK17 _ _ _ _ _ _ _ | exact hpost _ | refine mn_wpX12_gives (fun _ => ?_) | refine And.imp ?_ ?_ | refine forall_imp fun _ => ?_ | refine Exists.imp fun _ => ?_)
theorem mn_wbX12_runs_135 {K108 K108' : Int32 → Int32 → Int32 → Int32 → Int32 → St → Prop} (hK108 : ∀ x0 x1 x2 x3 x4 x5, K108 x0 x1 x2 x3 x4 x5 → K108' x0 x1 x2 x3 x4 x5) {post post' : St → Prop} (hpost : ∀ x0, post x0 → post' x0) : ∀ (n : Nat) (y0 : Int32) (y1 : Int32) (y2 : Int32) (y3 : Int32) (y4 : Int32) (y5 : Int32) (y6 : Int32) (y7 : St), wbX12_runs_135 K108 post n y0 y1 y2 y3 y4 y5 y6 y7 → wbX12_runs_135 K108' post' n y0 y1 y2 y3 y4 y5 y6 y7 := by
  intro n
  induction n with
  | zero => intro _ _ _ _ _ _ _ _ ; exact id
  | succ n ih =>
    intro _ _ _ _ _ _ _ _ 
    unfold wbX12_runs_135
    with_reducible repeat' (first | exact id | exact ih _ _ _ _ _ _ _ _ | exact hK108 _ _ _ _ _ _ | exact hpost _ | refine mn_wpX12_lays (fun _ => ?_) | refine mn_wbX12_runs_214 (fun _ _ _ _ _ _ => ?_) (fun _ => ?_) _ _ _ _ _ _ _ _ _ | refine And.imp ?_ ?_ | refine forall_imp fun _ => ?_ | refine Exists.imp fun _ => ?_)
theorem mn_wbX12_runs_17 {K7 K7' : Int32 → Int32 → Int32 → Int32 → Int32 → St → Prop} (hK7 : ∀ x0 x1 x2 x3 x4 x5, K7 x0 x1 x2 x3 x4 x5 → K7' x0 x1 x2 x3 x4 x5) {post post' : St → Prop} (hpost : ∀ x0, post x0 → post' x0) : ∀ (n : Nat) (y0 : Int32) (y1 : Int32) (y2 : Int32) (y3 : Int32) (y4 : Int32) (y5 : Int32) (y6 : St), wbX12_runs_17 K7 post n y0 y1 y2 y3 y4 y5 y6 → wbX12_runs_17 K7' post' n y0 y1 y2 y3 y4 y5 y6 := by
  intro n
  induction n with
  | zero => intro _ _ _ _ _ _ _ ; exact id
  | succ n ih =>
    intro _ _ _ _ _ _ _ 
    unfold wbX12_runs_17
    with_reducible repeat' (first | exact id | exact ih _ _ _ _ _ _ _ | exact hK7 _ _ _ _ _ _ | exact hpost _ | refine mn_wbX12_runs_27 (fun _ _ _ _ _ _ _ => ?_) (fun _ => ?_) _ _ _ _ _ _ _ _ _ | refine And.imp ?_ ?_ | refine forall_imp fun _ => ?_ | refine Exists.imp fun _ => ?_)
theorem mn_wbX12_runs_108 {post post' : St → Prop} (hpost : ∀ x0, post x0 → post' x0) : ∀ (n : Nat) (y0 : Int32) (y1 : Int32) (y2 : Int32) (y3 : Int32) (y4 : Int32) (y5 : St), wbX12_runs_108 post n y0 y1 y2 y3 y4 y5 → wbX12_runs_108 post' n y0 y1 y2 y3 y4 y5 := by
  intro n
  induction n with
  | zero => intro _ _ _ _ _ _ ; exact id
  | succ n ih =>
    intro _ _ _ _ _ _ 
    unfold wbX12_runs_108
    with_reducible repeat' (first | exact id | exact ih _ _ _ _ _ _ | exact hpost _ | refine mn_wbX12_runs_135 (fun _ _ _ _ _ _ => ?_) (fun _ => ?_) _ _ _ _ _ _ _ _ _ | refine And.imp ?_ ?_ | refine forall_imp fun _ => ?_ | refine Exists.imp fun _ => ?_)
theorem mn_wbX12_runs_7 {post post' : St → Prop} (hpost : ∀ x0, post x0 → post' x0) : ∀ (n : Nat) (y0 : Int32) (y1 : Int32) (y2 : Int32) (y3 : Int32) (y4 : Int32) (y5 : St), wbX12_runs_7 post n y0 y1 y2 y3 y4 y5 → wbX12_runs_7 post' n y0 y1 y2 y3 y4 y5 := by
  intro n
  induction n with
  | zero => intro _ _ _ _ _ _ ; exact id
  | succ n ih =>
    intro _ _ _ _ _ _ 
    unfold wbX12_runs_7
    with_reducible repeat' (first | exact id | exact ih _ _ _ _ _ _ | exact hpost _ | refine mn_wbX12_runs_108 (fun _ => ?_) _ _ _ _ _ _ _ | refine mn_wbX12_runs_17 (fun _ _ _ _ _ _ => ?_) (fun _ => ?_) _ _ _ _ _ _ _ _ | refine And.imp ?_ ?_ | refine forall_imp fun _ => ?_ | refine Exists.imp fun _ => ?_)
theorem mn_wpX12_runs {a1 : Int32} {a2 : Int32} {a3 : Int32} {a4 : Int32} {σ : St} {post post' : St → Prop} (hpost : ∀ x0, post x0 → post' x0) : wpX12_runs a1 a2 a3 a4 σ post → wpX12_runs a1 a2 a3 a4 σ post' := by
  unfold wpX12_runs
  with_reducible repeat' (first | exact id | exact hpost _ | refine mn_wpX12_clears (fun _ => ?_) | refine mn_wbX12_runs_7 (fun _ => ?_) _ _ _ _ _ _ _ | refine And.imp ?_ ?_ | refine forall_imp fun _ => ?_ | refine Exists.imp fun _ => ?_)
theorem mn_wbX12_living_20 {post post' : Int32 → St → Prop} (hpost : ∀ x0 x1, post x0 x1 → post' x0 x1) : ∀ (n : Nat) (y0 : Int32) (y1 : Int32) (y2 : Int32) (y3 : Int32) (y4 : St), wbX12_living_20 post n y0 y1 y2 y3 y4 → wbX12_living_20 post' n y0 y1 y2 y3 y4 := by
  intro n
  induction n with
  | zero => intro _ _ _ _ _ ; exact id
  | succ n ih =>
    intro _ _ _ _ _ 
    unfold wbX12_living_20
    with_reducible repeat' (first | exact id | exact ih _ _ _ _ _ | exact hpost _ _ | refine mn_wpX12_all (fun _ _ => ?_) | refine And.imp ?_ ?_ | refine forall_imp fun _ => ?_ | refine Exists.imp fun _ => ?_)
theorem mn_wpX12_living {a1 : Int32} {a2 : Int32} {σ : St} {post post' : Int32 → St → Prop} (hpost : ∀ x0 x1, post x0 x1 → post' x0 x1) : wpX12_living a1 a2 σ post → wpX12_living a1 a2 σ post' := by
  unfold wpX12_living
  with_reducible repeat' (first | exact id | exact hpost _ _ | refine mn_wpX12_greater (fun _ _ => ?_) | refine mn_wbX12_living_20 (fun _ _ => ?_) _ _ _ _ _ _ | refine And.imp ?_ ?_ | refine forall_imp fun _ => ?_ | refine Exists.imp fun _ => ?_)
theorem mn_wpX12_of {a1 : Int32} {a2 : Int32} {σ : St} {post post' : Int32 → St → Prop} (hpost : ∀ x0 x1, post x0 x1 → post' x0 x1) : wpX12_of a1 a2 σ post → wpX12_of a1 a2 σ post' := by
  unfold wpX12_of
  with_reducible repeat' (first | exact id | exact hpost _ _ | refine mn_wpX12_isName (fun _ _ => ?_) | refine mn_wpX12_size (fun _ _ => ?_) | refine mn_wpX12_lowestOf (fun _ _ => ?_) | refine mn_wpX12_soundsOf (fun _ _ => ?_) | refine mn_wpX12_runs (fun _ => ?_) | refine mn_wpX12_living (fun _ _ => ?_) | refine And.imp ?_ ?_ | refine forall_imp fun _ => ?_ | refine Exists.imp fun _ => ?_)
theorem mn_wpX12_alike {a1 : Int32} {a2 : Int32} {σ : St} {post post' : Int32 → St → Prop} (hpost : ∀ x0 x1, post x0 x1 → post' x0 x1) : wpX12_alike a1 a2 σ post → wpX12_alike a1 a2 σ post' := by
  unfold wpX12_alike
  with_reducible repeat' (first | exact id | exact hpost _ _ | refine mn_wpX12_isName (fun _ _ => ?_) | refine mn_wpX12_areAlike (fun _ _ => ?_) | refine And.imp ?_ ?_ | refine forall_imp fun _ => ?_ | refine Exists.imp fun _ => ?_)
theorem mn_wpX12_born {a1 : Int32} {a2 : Int32} {a3 : Int32} {a4 : Int32} {a5 : Int32} {a6 : Int32} {σ : St} {post post' : Int32 → St → Prop} (hpost : ∀ x0 x1, post x0 x1 → post' x0 x1) : wpX12_born a1 a2 a3 a4 a5 a6 σ post → wpX12_born a1 a2 a3 a4 a5 a6 σ post' := by
  unfold wpX12_born
  with_reducible repeat' (first | exact id | exact hpost _ _ | refine mn_wpX12_isName (fun _ _ => ?_) | refine mn_wpX12_isCradle (fun _ _ => ?_) | refine mn_wpX12_in (fun _ _ => ?_) | refine mn_wpX12_cell (fun _ _ => ?_) | refine And.imp ?_ ?_ | refine forall_imp fun _ => ?_ | refine Exists.imp fun _ => ?_)
theorem mn_wpX12_life {a1 : Int32} {σ : St} {post post' : Int32 → St → Prop} (hpost : ∀ x0 x1, post x0 x1 → post' x0 x1) : wpX12_life a1 σ post → wpX12_life a1 σ post' := by
  unfold wpX12_life
  with_reducible repeat' (first | exact id | exact hpost _ _ | refine mn_wpX12_in (fun _ _ => ?_) | refine And.imp ?_ ?_ | refine forall_imp fun _ => ?_ | refine Exists.imp fun _ => ?_)
theorem mn_wpX12_cradles {a1 : Int32} {a2 : Int32} {a3 : Int32} {a4 : Int32} {σ : St} {post post' : Int32 → St → Prop} (hpost : ∀ x0 x1, post x0 x1 → post' x0 x1) : wpX12_cradles a1 a2 a3 a4 σ post → wpX12_cradles a1 a2 a3 a4 σ post' := by
  unfold wpX12_cradles
  with_reducible repeat' (first | exact id | exact hpost _ _ | refine mn_wpX12_isCradle (fun _ _ => ?_) | refine mn_wpX12_in (fun _ _ => ?_) | refine mn_wpX12_cell (fun _ _ => ?_) | refine And.imp ?_ ?_ | refine forall_imp fun _ => ?_ | refine Exists.imp fun _ => ?_)
theorem mn_wpX12_list {a1 : Int32} {a2 : Int32} {σ : St} {post post' : Int32 → St → Prop} (hpost : ∀ x0 x1, post x0 x1 → post' x0 x1) : wpX12_list a1 a2 σ post → wpX12_list a1 a2 σ post' := by
  unfold wpX12_list
  with_reducible repeat' (first | exact id | exact hpost _ _ | refine mn_wpX12_in (fun _ _ => ?_) | refine And.imp ?_ ?_ | refine forall_imp fun _ => ?_ | refine Exists.imp fun _ => ?_)
theorem mn_wpX12_film {a1 : Int32} {a2 : Int32} {a3 : Int32} {σ : St} {post post' : Int32 → St → Prop} (hpost : ∀ x0 x1, post x0 x1 → post' x0 x1) : wpX12_film a1 a2 a3 σ post → wpX12_film a1 a2 a3 σ post' := by
  unfold wpX12_film
  with_reducible repeat' (first | exact id | exact hpost _ _ | refine mn_wpX12_isName (fun _ _ => ?_) | refine mn_wpX12_in (fun _ _ => ?_) | refine And.imp ?_ ?_ | refine forall_imp fun _ => ?_ | refine Exists.imp fun _ => ?_)
theorem mn_wbX12_put_3 {post post' : St → Prop} (hpost : ∀ x0, post x0 → post' x0) : ∀ (n : Nat) (y0 : Int32) (y1 : Int32) (y2 : St), wbX12_put_3 post n y0 y1 y2 → wbX12_put_3 post' n y0 y1 y2 := by
  intro n
  induction n with
  | zero => intro _ _ _ ; exact id
  | succ n ih =>
    intro _ _ _ 
    unfold wbX12_put_3
    with_reducible repeat' (first | exact id | exact ih _ _ _ | exact hpost _ | refine And.imp ?_ ?_ | refine forall_imp fun _ => ?_ | refine Exists.imp fun _ => ?_)
theorem mn_wpX12_put {a1 : Int32} {σ : St} {post post' : St → Prop} (hpost : ∀ x0, post x0 → post' x0) : wpX12_put a1 σ post → wpX12_put a1 σ post' := by
  unfold wpX12_put
  with_reducible repeat' (first | exact id | exact hpost _ | refine mn_wbX12_put_3 (fun _ => ?_) _ _ _ _ | refine And.imp ?_ ?_ | refine forall_imp fun _ => ?_ | refine Exists.imp fun _ => ?_)
theorem mn_wpX12_feed {a1 : Int32} {a2 : Int32} {a3 : Int32} {a4 : Int32} {a5 : Int32} {σ : St} {post post' : Int32 → St → Prop} (hpost : ∀ x0 x1, post x0 x1 → post' x0 x1) : wpX12_feed a1 a2 a3 a4 a5 σ post → wpX12_feed a1 a2 a3 a4 a5 σ post' := by
  unfold wpX12_feed
  with_reducible repeat' (first | exact id | exact hpost _ _ | refine mn_wpX12_put (fun _ => ?_) | refine And.imp ?_ ?_ | refine forall_imp fun _ => ?_ | refine Exists.imp fun _ => ?_)
theorem mn_wpX12_end {a1 : Int32} {σ : St} {post post' : Int32 → St → Prop} (hpost : ∀ x0 x1, post x0 x1 → post' x0 x1) : wpX12_end a1 σ post → wpX12_end a1 σ post' := by
  unfold wpX12_end
  with_reducible repeat' (first | exact id | exact hpost _ _ | refine mn_wpX12_in (fun _ _ => ?_) | refine And.imp ?_ ?_ | refine forall_imp fun _ => ?_ | refine Exists.imp fun _ => ?_)
theorem mn_wpX12_isLetter {a1 : Int32} {σ : St} {post post' : Int32 → St → Prop} (hpost : ∀ x0 x1, post x0 x1 → post' x0 x1) : wpX12_isLetter a1 σ post → wpX12_isLetter a1 σ post' := by
  unfold wpX12_isLetter
  with_reducible repeat' (first | exact id | exact hpost _ _ | refine mn_wpX12_in (fun _ _ => ?_) | refine And.imp ?_ ?_ | refine forall_imp fun _ => ?_ | refine Exists.imp fun _ => ?_)
theorem mn_wpX12_wordOf {a1 : Int64} {σ : St} {post post' : Int32 → St → Prop} (hpost : ∀ x0 x1, post x0 x1 → post' x0 x1) : wpX12_wordOf a1 σ post → wpX12_wordOf a1 σ post' := by
  unfold wpX12_wordOf
  with_reducible repeat' (first | exact id | exact hpost _ _ | refine And.imp ?_ ?_ | refine forall_imp fun _ => ?_ | refine Exists.imp fun _ => ?_)
theorem mn_wbX12_next_189 {post post' : St → Prop} (hpost : ∀ x0, post x0 → post' x0) {s0 : Int32} {σ : St} : wbX12_next_189 post s0 σ → wbX12_next_189 post' s0 σ := by
  unfold wbX12_next_189
  with_reducible repeat' (first | exact id | exact hpost _ | refine And.imp ?_ ?_ | refine forall_imp fun _ => ?_ | refine Exists.imp fun _ => ?_)
theorem mn_wbX12_next_427 {post post' : St → Prop} (hpost : ∀ x0, post x0 → post' x0) {s0 : Int32} {σ : St} : wbX12_next_427 post s0 σ → wbX12_next_427 post' s0 σ := by
  unfold wbX12_next_427
  with_reducible repeat' (first | exact id | exact hpost _ | refine And.imp ?_ ?_ | refine forall_imp fun _ => ?_ | refine Exists.imp fun _ => ?_)
theorem mn_wbX12_next_156 {K99 K99' : Int64 → Int32 → St → Prop} (hK99 : ∀ x0 x1 x2, K99 x0 x1 x2 → K99' x0 x1 x2) {post post' : St → Prop} (hpost : ∀ x0, post x0 → post' x0) {v4 : Int32} {s0 : Int64} {σ : St} : wbX12_next_156 K99 post v4 s0 σ → wbX12_next_156 K99' post' v4 s0 σ := by
  unfold wbX12_next_156
  with_reducible repeat' (first | exact id | exact hK99 _ _ _ | exact hpost _ | refine And.imp ?_ ?_ | refine forall_imp fun _ => ?_ | refine Exists.imp fun _ => ?_)
theorem mn_wbX12_next_173 {post post' : St → Prop} (hpost : ∀ x0, post x0 → post' x0) {v2 : Int64} {v4 : Int32} {σ : St} : wbX12_next_173 post v2 v4 σ → wbX12_next_173 post' v2 v4 σ := by
  unfold wbX12_next_173
  with_reducible repeat' (first | exact id | exact hpost _ | refine mn_wpX12_wordOf (fun _ _ => ?_) | refine mn_wbX12_next_189 (fun _ => ?_) | refine And.imp ?_ ?_ | refine forall_imp fun _ => ?_ | refine Exists.imp fun _ => ?_)
theorem mn_wbX12_next_300 {K232 K232' : St → Prop} (hK232 : ∀ x0, K232 x0 → K232' x0) {post post' : St → Prop} (hpost : ∀ x0, post x0 → post' x0) {s0 : Int32} {σ : St} : wbX12_next_300 K232 post s0 σ → wbX12_next_300 K232' post' s0 σ := by
  unfold wbX12_next_300
  with_reducible repeat' (first | exact id | exact hK232 _ | exact hpost _ | refine And.imp ?_ ?_ | refine forall_imp fun _ => ?_ | refine Exists.imp fun _ => ?_)
theorem mn_wbX12_next_386 {post post' : St → Prop} (hpost : ∀ x0, post x0 → post' x0) {v1 : Int32} {σ : St} : wbX12_next_386 post v1 σ → wbX12_next_386 post' v1 σ := by
  unfold wbX12_next_386
  with_reducible repeat' (first | exact id | exact hpost _ | refine mn_wbX12_next_427 (fun _ => ?_) | refine And.imp ?_ ?_ | refine forall_imp fun _ => ?_ | refine Exists.imp fun _ => ?_)
theorem mn_wbX12_next_99 {post post' : St → Prop} (hpost : ∀ x0, post x0 → post' x0) : ∀ (n : Nat) (y0 : Int64) (y1 : Int32) (y2 : St), wbX12_next_99 post n y0 y1 y2 → wbX12_next_99 post' n y0 y1 y2 := by
  intro n
  induction n with
  | zero => intro _ _ _ ; exact id
  | succ n ih =>
    intro _ _ _ 
    unfold wbX12_next_99
    with_reducible repeat' (first | exact id | exact ih _ _ _ | exact hpost _ | refine mn_wbX12_next_173 (fun _ => ?_) | refine mn_wpX12_isLetter (fun _ _ => ?_) | refine mn_wbX12_next_156 (fun _ _ _ => ?_) (fun _ => ?_) | refine And.imp ?_ ?_ | refine forall_imp fun _ => ?_ | refine Exists.imp fun _ => ?_)
theorem mn_wbX12_next_232 {post post' : St → Prop} (hpost : ∀ x0, post x0 → post' x0) : ∀ (n : Nat) (y0 : St), wbX12_next_232 post n y0 → wbX12_next_232 post' n y0 := by
  intro n
  induction n with
  | zero => intro _ ; exact id
  | succ n ih =>
    intro _ 
    unfold wbX12_next_232
    with_reducible repeat' (first | exact id | exact ih _ | exact hpost _ | refine mn_wpX12_in (fun _ _ => ?_) | refine mn_wbX12_next_300 (fun _ => ?_) (fun _ => ?_) | refine And.imp ?_ ?_ | refine forall_imp fun _ => ?_ | refine Exists.imp fun _ => ?_)
theorem mn_wbX12_next_371 {post post' : St → Prop} (hpost : ∀ x0, post x0 → post' x0) {v1 : Int32} {s0 : Int32} {σ : St} : wbX12_next_371 post v1 s0 σ → wbX12_next_371 post' v1 s0 σ := by
  unfold wbX12_next_371
  with_reducible repeat' (first | exact id | exact hpost _ | refine mn_wbX12_next_386 (fun _ => ?_) | refine And.imp ?_ ?_ | refine forall_imp fun _ => ?_ | refine Exists.imp fun _ => ?_)
theorem mn_wbX12_next_39 {K0 K0' : St → Prop} (hK0 : ∀ x0, K0 x0 → K0' x0) {post post' : St → Prop} (hpost : ∀ x0, post x0 → post' x0) {σ : St} : wbX12_next_39 K0 post σ → wbX12_next_39 K0' post' σ := by
  unfold wbX12_next_39
  with_reducible repeat' (first | exact id | exact hK0 _ | exact hpost _ | refine And.imp ?_ ?_ | refine forall_imp fun _ => ?_ | refine Exists.imp fun _ => ?_)
theorem mn_wbX12_next_52 {post post' : St → Prop} (hpost : ∀ x0, post x0 → post' x0) {σ : St} : wbX12_next_52 post σ → wbX12_next_52 post' σ := by
  unfold wbX12_next_52
  with_reducible repeat' (first | exact id | exact hpost _ | refine mn_wpX12_isLetter (fun _ _ => ?_) | refine mn_wpX12_in (fun _ _ => ?_) | refine mn_wbX12_next_371 (fun _ => ?_) | refine mn_wbX12_next_232 (fun _ => ?_) _ _ | refine mn_wbX12_next_99 (fun _ => ?_) _ _ _ _ | refine And.imp ?_ ?_ | refine forall_imp fun _ => ?_ | refine Exists.imp fun _ => ?_)
theorem mn_wbX12_next_0 {post post' : St → Prop} (hpost : ∀ x0, post x0 → post' x0) : ∀ (n : Nat) (y0 : St), wbX12_next_0 post n y0 → wbX12_next_0 post' n y0 := by
  intro n
  induction n with
  | zero => intro _ ; exact id
  | succ n ih =>
    intro _ 
    unfold wbX12_next_0
    with_reducible repeat' (first | exact id | exact ih _ | exact hpost _ | refine mn_wbX12_next_52 (fun _ => ?_) | refine mn_wbX12_next_39 (fun _ => ?_) (fun _ => ?_) | refine And.imp ?_ ?_ | refine forall_imp fun _ => ?_ | refine Exists.imp fun _ => ?_)
theorem mn_wpX12_next {σ : St} {post post' : St → Prop} (hpost : ∀ x0, post x0 → post' x0) : wpX12_next σ post → wpX12_next σ post' := by
  unfold wpX12_next
  with_reducible repeat' (first | exact id | exact hpost _ | refine mn_wbX12_next_0 (fun _ => ?_) _ _ | refine And.imp ?_ ?_ | refine forall_imp fun _ => ?_ | refine Exists.imp fun _ => ?_)
theorem mn_wpX12_isSign {a1 : Int32} {σ : St} {post post' : Int32 → St → Prop} (hpost : ∀ x0 x1, post x0 x1 → post' x0 x1) : wpX12_isSign a1 σ post → wpX12_isSign a1 σ post' := by
  unfold wpX12_isSign
  with_reducible repeat' (first | exact id | exact hpost _ _ | refine And.imp ?_ ?_ | refine forall_imp fun _ => ?_ | refine Exists.imp fun _ => ?_)
theorem mn_wpX12_isWord {a1 : Int32} {σ : St} {post post' : Int32 → St → Prop} (hpost : ∀ x0 x1, post x0 x1 → post' x0 x1) : wpX12_isWord a1 σ post → wpX12_isWord a1 σ post' := by
  unfold wpX12_isWord
  with_reducible repeat' (first | exact id | exact hpost _ _ | refine And.imp ?_ ?_ | refine forall_imp fun _ => ?_ | refine Exists.imp fun _ => ?_)
theorem mn_wpX12_errs {a1 : Int32} {σ : St} {post post' : St → Prop} (hpost : ∀ x0, post x0 → post' x0) : wpX12_errs a1 σ post → wpX12_errs a1 σ post' := by
  unfold wpX12_errs
  with_reducible repeat' (first | exact id | exact hpost _ | refine And.imp ?_ ?_ | refine forall_imp fun _ => ?_ | refine Exists.imp fun _ => ?_)
theorem mn_wpX12_emits {a1 : Int32} {a2 : Int32} {σ : St} {post post' : St → Prop} (hpost : ∀ x0, post x0 → post' x0) : wpX12_emits a1 a2 σ post → wpX12_emits a1 a2 σ post' := by
  unfold wpX12_emits
  with_reducible repeat' (first | exact id | exact hpost _ | refine And.imp ?_ ?_ | refine forall_imp fun _ => ?_ | refine Exists.imp fun _ => ?_)
theorem mn_wpX12_opensFrame {a1 : Int32} {σ : St} {post post' : St → Prop} (hpost : ∀ x0, post x0 → post' x0) : wpX12_opensFrame a1 σ post → wpX12_opensFrame a1 σ post' := by
  unfold wpX12_opensFrame
  with_reducible repeat' (first | exact id | exact hpost _ | refine And.imp ?_ ?_ | refine forall_imp fun _ => ?_ | refine Exists.imp fun _ => ?_)
theorem mn_wpX12_top {σ : St} {post post' : Int32 → St → Prop} (hpost : ∀ x0 x1, post x0 x1 → post' x0 x1) : wpX12_top σ post → wpX12_top σ post' := by
  unfold wpX12_top
  with_reducible repeat' (first | exact id | exact hpost _ _ | refine And.imp ?_ ?_ | refine forall_imp fun _ => ?_ | refine Exists.imp fun _ => ?_)
theorem mn_wpX12_opensSign {a1 : Int32} {σ : St} {post post' : Int32 → St → Prop} (hpost : ∀ x0 x1, post x0 x1 → post' x0 x1) : wpX12_opensSign a1 σ post → wpX12_opensSign a1 σ post' := by
  unfold wpX12_opensSign
  with_reducible repeat' (first | exact id | exact hpost _ _ | refine mn_wpX12_opensFrame (fun _ => ?_) | refine mn_wpX12_next (fun _ => ?_) | refine mn_wpX12_errs (fun _ => ?_) | refine And.imp ?_ ?_ | refine forall_imp fun _ => ?_ | refine Exists.imp fun _ => ?_)
theorem mn_wpX12_rank {a1 : Int32} {σ : St} {post post' : Int32 → St → Prop} (hpost : ∀ x0 x1, post x0 x1 → post' x0 x1) : wpX12_rank a1 σ post → wpX12_rank a1 σ post' := by
  unfold wpX12_rank
  with_reducible repeat' (first | exact id | exact hpost _ _ | refine And.imp ?_ ?_ | refine forall_imp fun _ => ?_ | refine Exists.imp fun _ => ?_)
theorem mn_wbX12_works_0 {post post' : St → Prop} (hpost : ∀ x0, post x0 → post' x0) : ∀ (n : Nat) (y0 : Int32) (y1 : St), wbX12_works_0 post n y0 y1 → wbX12_works_0 post' n y0 y1 := by
  intro n
  induction n with
  | zero => intro _ _ ; exact id
  | succ n ih =>
    intro _ _ 
    unfold wbX12_works_0
    with_reducible repeat' (first | exact id | exact ih _ _ | exact hpost _ | refine mn_wpX12_rank (fun _ _ => ?_) | refine mn_wpX12_emits (fun _ => ?_) | refine And.imp ?_ ?_ | refine forall_imp fun _ => ?_ | refine Exists.imp fun _ => ?_)
theorem mn_wpX12_works {a1 : Int32} {σ : St} {post post' : St → Prop} (hpost : ∀ x0, post x0 → post' x0) : wpX12_works a1 σ post → wpX12_works a1 σ post' := by
  unfold wpX12_works
  with_reducible repeat' (first | exact id | exact hpost _ | refine mn_wbX12_works_0 (fun _ => ?_) _ _ _ | refine And.imp ?_ ?_ | refine forall_imp fun _ => ?_ | refine Exists.imp fun _ => ?_)
theorem mn_wpX12_waitsFor {a1 : Int32} {σ : St} {post post' : St → Prop} (hpost : ∀ x0, post x0 → post' x0) : wpX12_waitsFor a1 σ post → wpX12_waitsFor a1 σ post' := by
  unfold wpX12_waitsFor
  with_reducible repeat' (first | exact id | exact hpost _ | refine mn_wpX12_rank (fun _ _ => ?_) | refine mn_wpX12_works (fun _ => ?_) | refine mn_wpX12_next (fun _ => ?_) | refine And.imp ?_ ?_ | refine forall_imp fun _ => ?_ | refine Exists.imp fun _ => ?_)
theorem mn_wpX12_nameOf {a1 : Int32} {σ : St} {post post' : Int32 → St → Prop} (hpost : ∀ x0 x1, post x0 x1 → post' x0 x1) : wpX12_nameOf a1 σ post → wpX12_nameOf a1 σ post' := by
  unfold wpX12_nameOf
  with_reducible repeat' (first | exact id | exact hpost _ _ | refine And.imp ?_ ?_ | refine forall_imp fun _ => ?_ | refine Exists.imp fun _ => ?_)
theorem mn_wpX12_asks {σ : St} {post post' : St → Prop} (hpost : ∀ x0, post x0 → post' x0) : wpX12_asks σ post → wpX12_asks σ post' := by
  unfold wpX12_asks
  with_reducible repeat' (first | exact id | exact hpost _ | refine mn_wpX12_isWord (fun _ _ => ?_) | refine mn_wpX12_opensFrame (fun _ => ?_) | refine mn_wpX12_opensSign (fun _ _ => ?_) | refine And.imp ?_ ?_ | refine forall_imp fun _ => ?_ | refine Exists.imp fun _ => ?_)
theorem mn_wbX12_oneIsOver_0 {post post' : St → Prop} (hpost : ∀ x0, post x0 → post' x0) : ∀ (n : Nat) (y0 : St), wbX12_oneIsOver_0 post n y0 → wbX12_oneIsOver_0 post' n y0 := by
  intro n
  induction n with
  | zero => intro _ ; exact id
  | succ n ih =>
    intro _ 
    unfold wbX12_oneIsOver_0
    with_reducible repeat' (first | exact id | exact ih _ | exact hpost _ | refine mn_wpX12_top (fun _ _ => ?_) | refine mn_wpX12_emits (fun _ => ?_) | refine And.imp ?_ ?_ | refine forall_imp fun _ => ?_ | refine Exists.imp fun _ => ?_)
theorem mn_wpX12_oneIsOver {σ : St} {post post' : St → Prop} (hpost : ∀ x0, post x0 → post' x0) : wpX12_oneIsOver σ post → wpX12_oneIsOver σ post' := by
  unfold wpX12_oneIsOver
  with_reducible repeat' (first | exact id | exact hpost _ | refine mn_wbX12_oneIsOver_0 (fun _ => ?_) _ _ | refine And.imp ?_ ?_ | refine forall_imp fun _ => ?_ | refine Exists.imp fun _ => ?_)
theorem mn_wbX12_begins_145 {post post' : St → Prop} (hpost : ∀ x0, post x0 → post' x0) {σ : St} : wbX12_begins_145 post σ → wbX12_begins_145 post' σ := by
  unfold wbX12_begins_145
  with_reducible repeat' (first | exact id | exact hpost _ | refine mn_wpX12_next (fun _ => ?_) | refine mn_wpX12_isSign (fun _ _ => ?_) | refine mn_wpX12_opensSign (fun _ _ => ?_) | refine mn_wpX12_errs (fun _ => ?_) | refine And.imp ?_ ?_ | refine forall_imp fun _ => ?_ | refine Exists.imp fun _ => ?_)
theorem mn_wbX12_begins_89 {post post' : St → Prop} (hpost : ∀ x0, post x0 → post' x0) {σ : St} : wbX12_begins_89 post σ → wbX12_begins_89 post' σ := by
  unfold wbX12_begins_89
  with_reducible repeat' (first | exact id | exact hpost _ | refine mn_wpX12_isSign (fun _ _ => ?_) | refine mn_wpX12_isWord (fun _ _ => ?_) | refine mn_wbX12_begins_145 (fun _ => ?_) | refine mn_wpX12_errs (fun _ => ?_) | refine mn_wpX12_opensSign (fun _ _ => ?_) | refine And.imp ?_ ?_ | refine forall_imp fun _ => ?_ | refine Exists.imp fun _ => ?_)
theorem mn_wpX12_begins {σ : St} {post post' : St → Prop} (hpost : ∀ x0, post x0 → post' x0) : wpX12_begins σ post → wpX12_begins σ post' := by
  unfold wpX12_begins
  with_reducible repeat' (first | exact id | exact hpost _ | refine mn_wbX12_begins_89 (fun _ => ?_) | refine mn_wpX12_nameOf (fun _ _ => ?_) | refine mn_wpX12_emits (fun _ => ?_) | refine mn_wpX12_next (fun _ => ?_) | refine mn_wpX12_oneIsOver (fun _ => ?_) | refine mn_wpX12_errs (fun _ => ?_) | refine And.imp ?_ ?_ | refine forall_imp fun _ => ?_ | refine Exists.imp fun _ => ?_)
theorem mn_wbX12_askIsOver_0 {post post' : St → Prop} (hpost : ∀ x0, post x0 → post' x0) : ∀ (n : Nat) (y0 : St), wbX12_askIsOver_0 post n y0 → wbX12_askIsOver_0 post' n y0 := by
  intro n
  induction n with
  | zero => intro _ ; exact id
  | succ n ih =>
    intro _ 
    unfold wbX12_askIsOver_0
    with_reducible repeat' (first | exact id | exact ih _ | exact hpost _ | refine mn_wpX12_top (fun _ _ => ?_) | refine mn_wpX12_emits (fun _ => ?_) | refine And.imp ?_ ?_ | refine forall_imp fun _ => ?_ | refine Exists.imp fun _ => ?_)
theorem mn_wpX12_askIsOver {σ : St} {post post' : St → Prop} (hpost : ∀ x0, post x0 → post' x0) : wpX12_askIsOver σ post → wpX12_askIsOver σ post' := by
  unfold wpX12_askIsOver
  with_reducible repeat' (first | exact id | exact hpost _ | refine mn_wbX12_askIsOver_0 (fun _ => ?_) _ _ | refine And.imp ?_ ?_ | refine forall_imp fun _ => ?_ | refine Exists.imp fun _ => ?_)
theorem mn_wpX12_isAsking {a1 : Int32} {σ : St} {post post' : Int32 → St → Prop} (hpost : ∀ x0 x1, post x0 x1 → post' x0 x1) : wpX12_isAsking a1 σ post → wpX12_isAsking a1 σ post' := by
  unfold wpX12_isAsking
  with_reducible repeat' (first | exact id | exact hpost _ _ | refine And.imp ?_ ?_ | refine forall_imp fun _ => ?_ | refine Exists.imp fun _ => ?_)
theorem mn_wpX12_clauseIsOver {σ : St} {post post' : St → Prop} (hpost : ∀ x0, post x0 → post' x0) : wpX12_clauseIsOver σ post → wpX12_clauseIsOver σ post' := by
  unfold wpX12_clauseIsOver
  with_reducible repeat' (first | exact id | exact hpost _ | refine mn_wpX12_works (fun _ => ?_) | refine mn_wpX12_emits (fun _ => ?_) | refine mn_wpX12_next (fun _ => ?_) | refine And.imp ?_ ?_ | refine forall_imp fun _ => ?_ | refine Exists.imp fun _ => ?_)
theorem mn_wbX12_goesOn_332 {post post' : St → Prop} (hpost : ∀ x0, post x0 → post' x0) {σ : St} : wbX12_goesOn_332 post σ → wbX12_goesOn_332 post' σ := by
  unfold wbX12_goesOn_332
  with_reducible repeat' (first | exact id | exact hpost _ | refine mn_wpX12_errs (fun _ => ?_) | refine And.imp ?_ ?_ | refine forall_imp fun _ => ?_ | refine Exists.imp fun _ => ?_)
theorem mn_wbX12_goesOn_268 {post post' : St → Prop} (hpost : ∀ x0, post x0 → post' x0) {v1 : Int32} {σ : St} : wbX12_goesOn_268 post v1 σ → wbX12_goesOn_268 post' v1 σ := by
  unfold wbX12_goesOn_268
  with_reducible repeat' (first | exact id | exact hpost _ | refine mn_wbX12_goesOn_332 (fun _ => ?_) | refine mn_wpX12_isSign (fun _ _ => ?_) | refine mn_wpX12_clauseIsOver (fun _ => ?_) | refine mn_wpX12_works (fun _ => ?_) | refine mn_wpX12_emits (fun _ => ?_) | refine mn_wpX12_askIsOver (fun _ => ?_) | refine And.imp ?_ ?_ | refine forall_imp fun _ => ?_ | refine Exists.imp fun _ => ?_)
theorem mn_wbX12_goesOn_143 {K147 K147' : St → Prop} (hK147 : ∀ x0, K147 x0 → K147' x0) {post post' : St → Prop} (hpost : ∀ x0, post x0 → post' x0) {s0 : Int32} {σ : St} : wbX12_goesOn_143 K147 post s0 σ → wbX12_goesOn_143 K147' post' s0 σ := by
  unfold wbX12_goesOn_143
  with_reducible repeat' (first | exact id | exact hK147 _ | exact hpost _ | refine mn_wpX12_emits (fun _ => ?_) | refine And.imp ?_ ?_ | refine forall_imp fun _ => ?_ | refine Exists.imp fun _ => ?_)
theorem mn_wbX12_goesOn_147 {post post' : St → Prop} (hpost : ∀ x0, post x0 → post' x0) {σ : St} : wbX12_goesOn_147 post σ → wbX12_goesOn_147 post' σ := by
  unfold wbX12_goesOn_147
  with_reducible repeat' (first | exact id | exact hpost _ | refine mn_wpX12_next (fun _ => ?_) | refine mn_wpX12_oneIsOver (fun _ => ?_) | refine And.imp ?_ ?_ | refine forall_imp fun _ => ?_ | refine Exists.imp fun _ => ?_)
theorem mn_wbX12_goesOn_203 {post post' : St → Prop} (hpost : ∀ x0, post x0 → post' x0) {v1 : Int32} {σ : St} : wbX12_goesOn_203 post v1 σ → wbX12_goesOn_203 post' v1 σ := by
  unfold wbX12_goesOn_203
  with_reducible repeat' (first | exact id | exact hpost _ | refine mn_wbX12_goesOn_268 (fun _ => ?_) | refine mn_wpX12_isAsking (fun _ _ => ?_) | refine mn_wpX12_works (fun _ => ?_) | refine mn_wpX12_next (fun _ => ?_) | refine And.imp ?_ ?_ | refine forall_imp fun _ => ?_ | refine Exists.imp fun _ => ?_)
theorem mn_wbX12_goesOn_77 {K158 K158' : Int32 → St → Prop} (hK158 : ∀ x0 x1, K158 x0 x1 → K158' x0 x1) {post post' : St → Prop} (hpost : ∀ x0, post x0 → post' x0) {v1 : Int32} {σ : St} : wbX12_goesOn_77 K158 post v1 σ → wbX12_goesOn_77 K158' post' v1 σ := by
  unfold wbX12_goesOn_77
  with_reducible repeat' (first | exact id | exact hK158 _ _ | exact hpost _ | refine mn_wpX12_isSign (fun _ _ => ?_) | refine mn_wpX12_works (fun _ => ?_) | refine mn_wbX12_goesOn_147 (fun _ => ?_) | refine mn_wbX12_goesOn_143 (fun _ => ?_) (fun _ => ?_) | refine And.imp ?_ ?_ | refine forall_imp fun _ => ?_ | refine Exists.imp fun _ => ?_)
theorem mn_wbX12_goesOn_158 {post post' : St → Prop} (hpost : ∀ x0, post x0 → post' x0) {v1 : Int32} {σ : St} : wbX12_goesOn_158 post v1 σ → wbX12_goesOn_158 post' v1 σ := by
  unfold wbX12_goesOn_158
  with_reducible repeat' (first | exact id | exact hpost _ | refine mn_wbX12_goesOn_203 (fun _ => ?_) | refine mn_wpX12_isSign (fun _ _ => ?_) | refine mn_wpX12_works (fun _ => ?_) | refine mn_wpX12_next (fun _ => ?_) | refine And.imp ?_ ?_ | refine forall_imp fun _ => ?_ | refine Exists.imp fun _ => ?_)
theorem mn_wbX12_goesOn_49 {post post' : St → Prop} (hpost : ∀ x0, post x0 → post' x0) {σ : St} : wbX12_goesOn_49 post σ → wbX12_goesOn_49 post' σ := by
  unfold wbX12_goesOn_49
  with_reducible repeat' (first | exact id | exact hpost _ | refine mn_wpX12_waitsFor (fun _ => ?_) | refine And.imp ?_ ?_ | refine forall_imp fun _ => ?_ | refine Exists.imp fun _ => ?_)
theorem mn_wbX12_goesOn_65 {post post' : St → Prop} (hpost : ∀ x0, post x0 → post' x0) {v1 : Int32} {σ : St} : wbX12_goesOn_65 post v1 σ → wbX12_goesOn_65 post' v1 σ := by
  unfold wbX12_goesOn_65
  with_reducible repeat' (first | exact id | exact hpost _ | refine mn_wbX12_goesOn_77 (fun _ _ => ?_) (fun _ => ?_) | refine mn_wbX12_goesOn_158 (fun _ => ?_) | refine And.imp ?_ ?_ | refine forall_imp fun _ => ?_ | refine Exists.imp fun _ => ?_)
theorem mn_wpX12_goesOn {σ : St} {post post' : St → Prop} (hpost : ∀ x0, post x0 → post' x0) : wpX12_goesOn σ post → wpX12_goesOn σ post' := by
  unfold wpX12_goesOn
  with_reducible repeat' (first | exact id | exact hpost _ | refine mn_wpX12_top (fun _ _ => ?_) | refine mn_wbX12_goesOn_65 (fun _ => ?_) | refine mn_wbX12_goesOn_49 (fun _ => ?_) | refine And.imp ?_ ?_ | refine forall_imp fun _ => ?_ | refine Exists.imp fun _ => ?_)
theorem mn_wbX12_asksOn_34 {post post' : St → Prop} (hpost : ∀ x0, post x0 → post' x0) {s0 : Int32} {σ : St} : wbX12_asksOn_34 post s0 σ → wbX12_asksOn_34 post' s0 σ := by
  unfold wbX12_asksOn_34
  with_reducible repeat' (first | exact id | exact hpost _ | refine mn_wpX12_waitsFor (fun _ => ?_) | refine And.imp ?_ ?_ | refine forall_imp fun _ => ?_ | refine Exists.imp fun _ => ?_)
theorem mn_wbX12_asksOn_16 {post post' : St → Prop} (hpost : ∀ x0, post x0 → post' x0) {σ : St} : wbX12_asksOn_16 post σ → wbX12_asksOn_16 post' σ := by
  unfold wbX12_asksOn_16
  with_reducible repeat' (first | exact id | exact hpost _ | refine mn_wpX12_isWord (fun _ _ => ?_) | refine mn_wbX12_asksOn_34 (fun _ => ?_) | refine And.imp ?_ ?_ | refine forall_imp fun _ => ?_ | refine Exists.imp fun _ => ?_)
theorem mn_wbX12_asksOn_69 {post post' : St → Prop} (hpost : ∀ x0, post x0 → post' x0) {σ : St} : wbX12_asksOn_69 post σ → wbX12_asksOn_69 post' σ := by
  unfold wbX12_asksOn_69
  with_reducible repeat' (first | exact id | exact hpost _ | refine mn_wpX12_errs (fun _ => ?_) | refine And.imp ?_ ?_ | refine forall_imp fun _ => ?_ | refine Exists.imp fun _ => ?_)
theorem mn_wpX12_asksOn {σ : St} {post post' : St → Prop} (hpost : ∀ x0, post x0 → post' x0) : wpX12_asksOn σ post → wpX12_asksOn σ post' := by
  unfold wpX12_asksOn
  with_reducible repeat' (first | exact id | exact hpost _ | refine mn_wpX12_isWord (fun _ _ => ?_) | refine mn_wbX12_asksOn_16 (fun _ => ?_) | refine mn_wpX12_top (fun _ _ => ?_) | refine mn_wbX12_asksOn_69 (fun _ => ?_) | refine mn_wpX12_isSign (fun _ _ => ?_) | refine mn_wpX12_clauseIsOver (fun _ => ?_) | refine And.imp ?_ ?_ | refine forall_imp fun _ => ?_ | refine Exists.imp fun _ => ?_)
