-- CradleNamesModel.isSign(I)Z
set_option maxRecDepth 20000 in
set_option maxHeartbeats 4000000 in
theorem spX12_isSign {l : Launch} {G : GT} {d : Nat}  (hd : 1 ≤ d)  (hN : 119 ≤ G.2.2.2.2.2)  {a1 : Int32} {σ : St} {post : Int32 → St → Prop} (hw : wpX12_isSign  a1 σ post) : Sp l G d yX12_isSign cX12_isSign 2 (some .boolean) [.ref (G.2.2.1 75), .int a1] σ (fun v τ => ∃ r : Int32, v = some (.int r) ∧ post r τ) := by
  refine Sp.of (by decide) (Nat.le_of_ble_eq_true rfl) fun X C hr hR hnl => ?_
  show Go X G 0 [(0, .ref (G.2.2.1 75)), (1, .int a1)] [] σ
  have hw : ((¬ (gI σ 75 17) = 3 →
    post 0 σ) ∧
  ((gI σ 75 17) = 3 →
    ((¬ (gI σ 75 18) = a1 →
      post 0 σ) ∧
    ((gI σ 75 18) = a1 →
      post 1 σ)))) := hw
  refine go_aload_n C 0 rfl rfl dX12_isSign_0 ?_
  refine go_get (v := .int (gI σ 75 17)) C (shX12 G) (ltX12 hN) lkX12_270 rfl dX12_isSign_1 ?_
  refine go_iconst (v := 3) C rfl dX12_isSign_4 ?_
  refine go_icmp_ne C 20 rfl dX12_isSign_5 (fun hc => ?_) (fun hc => ?_)
  · replace hw := hw.1 hc
    refine go_iconst (v := 0) C rfl dX12_isSign_20 ?_
    exact go_zret C hr rfl ⟨_, rfl, hw⟩ dX12_isSign_21
  · replace hw := hw.2 hc
    refine go_aload_n C 0 rfl rfl dX12_isSign_8 ?_
    refine go_get (v := .int (gI σ 75 18)) C (shX12 G) (ltX12 hN) lkX12_281 rfl dX12_isSign_9 ?_
    refine go_iload_n C 1 rfl rfl dX12_isSign_12 ?_
    refine go_icmp_ne C 20 rfl dX12_isSign_13 (fun hc => ?_) (fun hc => ?_)
    · replace hw := hw.1 hc
      refine go_iconst (v := 0) C rfl dX12_isSign_20 ?_
      exact go_zret C hr rfl ⟨_, rfl, hw⟩ dX12_isSign_21
    · replace hw := hw.2 hc
      refine go_iconst (v := 1) C rfl dX12_isSign_16 ?_
      refine go_goto C 21 rfl dX12_isSign_17 ?_
      exact go_zret C hr rfl ⟨_, rfl, hw⟩ dX12_isSign_21
-- CradleNamesModel.isWord(I)Z
set_option maxRecDepth 20000 in
set_option maxHeartbeats 4000000 in
theorem spX12_isWord {l : Launch} {G : GT} {d : Nat}  (hd : 1 ≤ d)  (hN : 119 ≤ G.2.2.2.2.2)  {a1 : Int32} {σ : St} {post : Int32 → St → Prop} (hw : wpX12_isWord  a1 σ post) : Sp l G d yX12_isWord cX12_isWord 2 (some .boolean) [.ref (G.2.2.1 75), .int a1] σ (fun v τ => ∃ r : Int32, v = some (.int r) ∧ post r τ) := by
  refine Sp.of (by decide) (Nat.le_of_ble_eq_true rfl) fun X C hr hR hnl => ?_
  show Go X G 0 [(0, .ref (G.2.2.1 75)), (1, .int a1)] [] σ
  have hw : ((¬ (gI σ 75 17) = 1 →
    post 0 σ) ∧
  ((gI σ 75 17) = 1 →
    ((¬ (gI σ 75 18) = a1 →
      post 0 σ) ∧
    ((gI σ 75 18) = a1 →
      post 1 σ)))) := hw
  refine go_aload_n C 0 rfl rfl dX12_isWord_0 ?_
  refine go_get (v := .int (gI σ 75 17)) C (shX12 G) (ltX12 hN) lkX12_270 rfl dX12_isWord_1 ?_
  refine go_iconst (v := 1) C rfl dX12_isWord_4 ?_
  refine go_icmp_ne C 20 rfl dX12_isWord_5 (fun hc => ?_) (fun hc => ?_)
  · replace hw := hw.1 hc
    refine go_iconst (v := 0) C rfl dX12_isWord_20 ?_
    exact go_zret C hr rfl ⟨_, rfl, hw⟩ dX12_isWord_21
  · replace hw := hw.2 hc
    refine go_aload_n C 0 rfl rfl dX12_isWord_8 ?_
    refine go_get (v := .int (gI σ 75 18)) C (shX12 G) (ltX12 hN) lkX12_281 rfl dX12_isWord_9 ?_
    refine go_iload_n C 1 rfl rfl dX12_isWord_12 ?_
    refine go_icmp_ne C 20 rfl dX12_isWord_13 (fun hc => ?_) (fun hc => ?_)
    · replace hw := hw.1 hc
      refine go_iconst (v := 0) C rfl dX12_isWord_20 ?_
      exact go_zret C hr rfl ⟨_, rfl, hw⟩ dX12_isWord_21
    · replace hw := hw.2 hc
      refine go_iconst (v := 1) C rfl dX12_isWord_16 ?_
      refine go_goto C 21 rfl dX12_isWord_17 ?_
      exact go_zret C hr rfl ⟨_, rfl, hw⟩ dX12_isWord_21
-- CradleNamesModel.errs(I)V
set_option maxRecDepth 20000 in
set_option maxHeartbeats 4000000 in
theorem spX12_errs {l : Launch} {G : GT} {d : Nat}  (hd : 1 ≤ d)  (hN : 119 ≤ G.2.2.2.2.2)  {a1 : Int32} {σ : St} {post : St → Prop} (hw : wpX12_errs  a1 σ post) : Sp l G d yX12_errs cX12_errs 2 none [.ref (G.2.2.1 75), .int a1] σ (fun v τ => v = none ∧ post τ) := by
  refine Sp.of (by decide) (Nat.le_of_ble_eq_true rfl) fun X C hr hR hnl => ?_
  show Go X G 0 [(0, .ref (G.2.2.1 75)), (1, .int a1)] [] σ
  have hw : ((¬ (gI σ 75 19) = 0 →
    post σ) ∧
  ((gI σ 75 19) = 0 →
    ∀ σ_1 : St, σ_1 = sI σ 75 19 a1 →
    ∀ σ_2 : St, σ_2 = sI σ_1 75 20 (gI σ_1 75 16) →
    post σ_2)) := hw
  refine go_aload_n C 0 rfl rfl dX12_errs_0 ?_
  refine go_get (v := .int (gI σ 75 19)) C (shX12 G) (ltX12 hN) lkX12_285 rfl dX12_errs_1 ?_
  refine go_if_ne C 20 rfl dX12_errs_4 (fun hc => ?_) (fun hc => ?_)
  · replace hw := hw.1 hc
    exact go_vret C hr ⟨rfl, hw⟩ dX12_errs_20
  · replace hw := hw.2 hc
    refine go_aload_n C 0 rfl rfl dX12_errs_7 ?_
    refine go_iload_n C 1 rfl rfl dX12_errs_8 ?_
    refine go_puti C (shX12 G) (ltX12 hN) lpX12_285 (show 19 < 64 by decide) (pxX12_19 G _ _) dX12_errs_9 (go_nm fun σ_1 eσ_1 => ?_)
    replace hw := hw σ_1 eσ_1
    refine go_aload_n C 0 rfl rfl dX12_errs_12 ?_
    refine go_aload_n C 0 rfl rfl dX12_errs_13 ?_
    refine go_get (v := .int (gI σ_1 75 16)) C (shX12 G) (ltX12 hN) lkX12_267 rfl dX12_errs_14 ?_
    refine go_puti C (shX12 G) (ltX12 hN) lpX12_288 (show 20 < 64 by decide) (pxX12_20 G _ _) dX12_errs_17 (go_nm fun σ_2 eσ_2 => ?_)
    replace hw := hw σ_2 eσ_2
    exact go_vret C hr ⟨rfl, hw⟩ dX12_errs_20
-- CradleNamesModel.emits(II)V
set_option maxRecDepth 20000 in
set_option maxHeartbeats 4000000 in
theorem spX12_emits {l : Launch} {G : GT} {d : Nat}  (hd : 1 ≤ d)  (hN : 119 ≤ G.2.2.2.2.2)  {a1 : Int32} {a2 : Int32} {σ : St} {post : St → Prop} (hw : wpX12_emits  a1 a2 σ post) : Sp l G d yX12_emits cX12_emits 3 none [.ref (G.2.2.1 75), .int a1, .int a2] σ (fun v τ => v = none ∧ post τ) := by
  refine Sp.of (by decide) (Nat.le_of_ble_eq_true rfl) fun X C hr hR hnl => ?_
  show Go X G 0 [(0, .ref (G.2.2.1 75)), (1, .int a1), (2, .int a2)] [] σ
  have hw : vp_in (gI σ 75 35) 400 ∧ (
  ∀ σ_1 : St, σ_1 = sI σ 94 (gI σ 75 35).toNatClampNeg a1 →
  vp_in (gI σ_1 75 35) 400 ∧ (
  ∀ σ_2 : St, σ_2 = sI σ_1 95 (gI σ_1 75 35).toNatClampNeg a2 →
  ∀ σ_3 : St, σ_3 = sI σ_2 75 35 ((gI σ_2 75 35) + 1) →
  post σ_3)) := hw
  refine go_aload_n C 0 rfl rfl dX12_emits_0 ?_
  refine go_get (v := .ref (G.2.2.1 94)) C (shX12 G) (ltX12 hN) lkX12_73 rfl dX12_emits_1 ?_
  refine go_aload_n C 0 rfl rfl dX12_emits_4 ?_
  refine go_get (v := .int (gI σ 75 35)) C (shX12 G) (ltX12 hN) lkX12_291 rfl dX12_emits_5 ?_
  refine go_iload_n C 1 rfl rfl dX12_emits_8 ?_
  refine go_iast C (saX12_newOrder G) (laX12_newOrder hN) hw.1 dX12_emits_9 (go_nm fun σ_1 eσ_1 => ?_)
  replace hw := hw.2 σ_1 eσ_1
  refine go_aload_n C 0 rfl rfl dX12_emits_10 ?_
  refine go_get (v := .ref (G.2.2.1 95)) C (shX12 G) (ltX12 hN) lkX12_76 rfl dX12_emits_11 ?_
  refine go_aload_n C 0 rfl rfl dX12_emits_14 ?_
  refine go_get (v := .int (gI σ_1 75 35)) C (shX12 G) (ltX12 hN) lkX12_291 rfl dX12_emits_15 ?_
  refine go_iload_n C 2 rfl rfl dX12_emits_18 ?_
  refine go_iast C (saX12_newValue G) (laX12_newValue hN) hw.1 dX12_emits_19 (go_nm fun σ_2 eσ_2 => ?_)
  replace hw := hw.2 σ_2 eσ_2
  refine go_aload_n C 0 rfl rfl dX12_emits_20 ?_
  refine go_dup C rfl dX12_emits_21 ?_
  refine go_get (v := .int (gI σ_2 75 35)) C (shX12 G) (ltX12 hN) lkX12_291 rfl dX12_emits_22 ?_
  refine go_iconst (v := 1) C rfl dX12_emits_25 ?_
  refine go_iadd C dX12_emits_26 ?_
  refine go_puti C (shX12 G) (ltX12 hN) lpX12_291 (show 35 < 64 by decide) (pxX12_35 G _ _) dX12_emits_27 (go_nm fun σ_3 eσ_3 => ?_)
  replace hw := hw σ_3 eσ_3
  exact go_vret C hr ⟨rfl, hw⟩ dX12_emits_30
-- CradleNamesModel.opensFrame(I)V
set_option maxRecDepth 20000 in
set_option maxHeartbeats 4000000 in
theorem spX12_opensFrame {l : Launch} {G : GT} {d : Nat}  (hd : 1 ≤ d)  (hN : 119 ≤ G.2.2.2.2.2)  {a1 : Int32} {σ : St} {post : St → Prop} (hw : wpX12_opensFrame  a1 σ post) : Sp l G d yX12_opensFrame cX12_opensFrame 2 none [.ref (G.2.2.1 75), .int a1] σ (fun v τ => v = none ∧ post τ) := by
  refine Sp.of (by decide) (Nat.le_of_ble_eq_true rfl) fun X C hr hR hnl => ?_
  show Go X G 0 [(0, .ref (G.2.2.1 75)), (1, .int a1)] [] σ
  have hw : vp_in (gI σ 75 22) 40 ∧ (
  ∀ σ_1 : St, σ_1 = sI σ 87 (gI σ 75 22).toNatClampNeg a1 →
  ∀ σ_2 : St, σ_2 = sI σ_1 75 22 ((gI σ_1 75 22) + 1) →
  post σ_2) := hw
  refine go_aload_n C 0 rfl rfl dX12_opensFrame_0 ?_
  refine go_get (v := .ref (G.2.2.1 87)) C (shX12 G) (ltX12 hN) lkX12_52 rfl dX12_opensFrame_1 ?_
  refine go_aload_n C 0 rfl rfl dX12_opensFrame_4 ?_
  refine go_get (v := .int (gI σ 75 22)) C (shX12 G) (ltX12 hN) lkX12_294 rfl dX12_opensFrame_5 ?_
  refine go_iload_n C 1 rfl rfl dX12_opensFrame_8 ?_
  refine go_iast C (saX12_frame G) (laX12_frame hN) hw.1 dX12_opensFrame_9 (go_nm fun σ_1 eσ_1 => ?_)
  replace hw := hw.2 σ_1 eσ_1
  refine go_aload_n C 0 rfl rfl dX12_opensFrame_10 ?_
  refine go_dup C rfl dX12_opensFrame_11 ?_
  refine go_get (v := .int (gI σ_1 75 22)) C (shX12 G) (ltX12 hN) lkX12_294 rfl dX12_opensFrame_12 ?_
  refine go_iconst (v := 1) C rfl dX12_opensFrame_15 ?_
  refine go_iadd C dX12_opensFrame_16 ?_
  refine go_puti C (shX12 G) (ltX12 hN) lpX12_294 (show 22 < 64 by decide) (pxX12_22 G _ _) dX12_opensFrame_17 (go_nm fun σ_2 eσ_2 => ?_)
  replace hw := hw σ_2 eσ_2
  exact go_vret C hr ⟨rfl, hw⟩ dX12_opensFrame_20
-- CradleNamesModel.top()I
set_option maxRecDepth 20000 in
set_option maxHeartbeats 4000000 in
theorem spX12_top {l : Launch} {G : GT} {d : Nat}  (hd : 1 ≤ d)  (hN : 119 ≤ G.2.2.2.2.2)   {σ : St} {post : Int32 → St → Prop} (hw : wpX12_top   σ post) : Sp l G d yX12_top cX12_top 1 (some .int) [.ref (G.2.2.1 75)] σ (fun v τ => ∃ r : Int32, v = some (.int r) ∧ post r τ) := by
  refine Sp.of (by decide) (Nat.le_of_ble_eq_true rfl) fun X C hr hR hnl => ?_
  show Go X G 0 [(0, .ref (G.2.2.1 75))] [] σ
  have hw : vp_in ((gI σ 75 22) - 1) 40 ∧ (
  post (gI σ 87 ((gI σ 75 22) - 1).toNatClampNeg) σ) := hw
  refine go_aload_n C 0 rfl rfl dX12_top_0 ?_
  refine go_get (v := .ref (G.2.2.1 87)) C (shX12 G) (ltX12 hN) lkX12_52 rfl dX12_top_1 ?_
  refine go_aload_n C 0 rfl rfl dX12_top_4 ?_
  refine go_get (v := .int (gI σ 75 22)) C (shX12 G) (ltX12 hN) lkX12_294 rfl dX12_top_5 ?_
  refine go_iconst (v := 1) C rfl dX12_top_8 ?_
  refine go_isub C dX12_top_9 ?_
  refine go_iald C (saX12_frame G) (laX12_frame hN) hw.1 dX12_top_10 ?_
  replace hw := hw.2
  exact go_iret C hr ⟨_, rfl, hw⟩ dX12_top_11
-- CradleNamesModel.opensSign(I)Z
set_option maxRecDepth 20000 in
set_option maxHeartbeats 4000000 in
theorem spX12_opensSign {l : Launch} {G : GT} {d : Nat}  (hd : 4 ≤ d)  (hN : 119 ≤ G.2.2.2.2.2)  {a1 : Int32} {σ : St} {post : Int32 → St → Prop} (hw : wpX12_opensSign  a1 σ post) : Sp l G d yX12_opensSign cX12_opensSign 2 (some .boolean) [.ref (G.2.2.1 75), .int a1] σ (fun v τ => ∃ r : Int32, v = some (.int r) ∧ post r τ) := by
  refine Sp.of (by decide) (Nat.le_of_ble_eq_true rfl) fun X C hr hR hnl => ?_
  show Go X G 0 [(0, .ref (G.2.2.1 75)), (1, .int a1)] [] σ
  have hw : ((¬ (gI σ 75 21) = 8 →
    ∀ σ_1 : St, σ_1 = sI σ 75 21 ((gI σ 75 21) + 1) →
    wpX12_opensFrame a1 σ_1 (fun σ_3 =>
    wpX12_next  σ_3 (fun σ_5 =>
    post 1 σ_5))) ∧
  ((gI σ 75 21) = 8 →
    wpX12_errs 3 σ (fun σ_7 =>
    post 0 σ_7))) := hw
  refine go_aload_n C 0 rfl rfl dX12_opensSign_0 ?_
  refine go_get (v := .int (gI σ 75 21)) C (shX12 G) (ltX12 hN) lkX12_297 rfl dX12_opensSign_1 ?_
  refine go_bipush (v := 8) C rfl dX12_opensSign_4 ?_
  refine go_icmp_ne C 16 rfl dX12_opensSign_6 (fun hc => ?_) (fun hc => ?_)
  · replace hw := hw.1 hc
    refine go_aload_n C 0 rfl rfl dX12_opensSign_16 ?_
    refine go_dup C rfl dX12_opensSign_17 ?_
    refine go_get (v := .int (gI σ 75 21)) C (shX12 G) (ltX12 hN) lkX12_297 rfl dX12_opensSign_18 ?_
    refine go_iconst (v := 1) C rfl dX12_opensSign_21 ?_
    refine go_iadd C dX12_opensSign_22 ?_
    refine go_puti C (shX12 G) (ltX12 hN) lpX12_297 (show 21 < 64 by decide) (pxX12_21 G _ _) dX12_opensSign_23 (go_nm fun σ_1 eσ_1 => ?_)
    replace hw := hw σ_1 eσ_1
    refine go_aload_n C 0 rfl rfl dX12_opensSign_26 ?_
    refine go_iload_n C 1 rfl rfl dX12_opensSign_27 ?_
    refine go_callV (as := [.int a1]) C hR (shX12 G) (ltX12 hN) cwX12_303 (Nat.le_trans (by decide) hd) (by decide) rfl rfl (Nat.le_of_ble_eq_true rfl) dX12_opensSign_28 (spX12_opensFrame (Nat.le_refl _) hN hw) (fun v_ τ_ hw => ?_)
    obtain ⟨rfl, hw⟩ := hw
    obtain ⟨σ_3, rfl⟩ : ∃ z, z = τ_ := ⟨_, rfl⟩
    refine go_aload_n C 0 rfl rfl dX12_opensSign_31 ?_
    refine go_callV (as := []) C hR (shX12 G) (ltX12 hN) cwX12_306 (Nat.le_trans (by decide) hd) (by decide) rfl rfl (Nat.le_of_ble_eq_true rfl) dX12_opensSign_32 (spX12_next (Nat.le_refl _) hN hw) (fun v_ τ_ hw => ?_)
    obtain ⟨rfl, hw⟩ := hw
    obtain ⟨σ_5, rfl⟩ : ∃ z, z = τ_ := ⟨_, rfl⟩
    refine go_iconst (v := 1) C rfl dX12_opensSign_35 ?_
    exact go_zret C hr rfl ⟨_, rfl, hw⟩ dX12_opensSign_36
  · replace hw := hw.2 hc
    refine go_aload_n C 0 rfl rfl dX12_opensSign_9 ?_
    refine go_iconst (v := 3) C rfl dX12_opensSign_10 ?_
    refine go_callV (as := [.int 3]) C hR (shX12 G) (ltX12 hN) cwX12_300 (Nat.le_trans (by decide) hd) (by decide) rfl rfl (Nat.le_of_ble_eq_true rfl) dX12_opensSign_11 (spX12_errs (Nat.le_refl _) hN hw) (fun v_ τ_ hw => ?_)
    obtain ⟨rfl, hw⟩ := hw
    obtain ⟨σ_7, rfl⟩ : ∃ z, z = τ_ := ⟨_, rfl⟩
    refine go_iconst (v := 0) C rfl dX12_opensSign_14 ?_
    exact go_zret C hr rfl ⟨_, rfl, hw⟩ dX12_opensSign_15
-- CradleNamesModel.rank(I)I
set_option maxRecDepth 20000 in
set_option maxHeartbeats 4000000 in
theorem spX12_rank {l : Launch} {G : GT} {d : Nat}  (hd : 1 ≤ d)  (hN : 119 ≤ G.2.2.2.2.2)  {a1 : Int32} {σ : St} {post : Int32 → St → Prop} (hw : wpX12_rank  a1 σ post) : Sp l G d yX12_rank cX12_rank 1 (some .int) [.int a1] σ (fun v τ => ∃ r : Int32, v = some (.int r) ∧ post r τ) := by
  refine Sp.of (by decide) (Nat.le_of_ble_eq_true rfl) fun X C hr hR hnl => ?_
  show Go X G 0 [(0, .int a1)] [] σ
  have hw : ((¬ a1 = 407 →
    ((¬ a1 = 406 →
      ((a1 = 43 →
        post 3 σ) ∧
      (¬ a1 = 43 →
        ((¬ a1 = 45 →
          post 4 σ) ∧
        (a1 = 45 →
          post 3 σ))))) ∧
    (a1 = 406 →
      post 2 σ))) ∧
  (a1 = 407 →
    post 1 σ)) := hw
  refine go_iload_n C 0 rfl rfl dX12_rank_0 ?_
  refine go_sipush (v := 407) C rfl dX12_rank_1 ?_
  refine go_icmp_ne C 11 rfl dX12_rank_4 (fun hc => ?_) (fun hc => ?_)
  · replace hw := hw.1 hc
    refine go_iload_n C 0 rfl rfl dX12_rank_11 ?_
    refine go_sipush (v := 406) C rfl dX12_rank_12 ?_
    refine go_icmp_ne C 22 rfl dX12_rank_15 (fun hc => ?_) (fun hc => ?_)
    · replace hw := hw.1 hc
      refine go_iload_n C 0 rfl rfl dX12_rank_22 ?_
      refine go_bipush (v := 43) C rfl dX12_rank_23 ?_
      refine go_icmp_eq C 34 rfl dX12_rank_25 (fun hc => ?_) (fun hc => ?_)
      · replace hw := hw.1 hc
        refine go_iconst (v := 3) C rfl dX12_rank_34 ?_
        refine go_goto C 39 rfl dX12_rank_35 ?_
        exact go_iret C hr ⟨_, rfl, hw⟩ dX12_rank_39
      · replace hw := hw.2 hc
        refine go_iload_n C 0 rfl rfl dX12_rank_28 ?_
        refine go_bipush (v := 45) C rfl dX12_rank_29 ?_
        refine go_icmp_ne C 38 rfl dX12_rank_31 (fun hc => ?_) (fun hc => ?_)
        · replace hw := hw.1 hc
          refine go_iconst (v := 4) C rfl dX12_rank_38 ?_
          exact go_iret C hr ⟨_, rfl, hw⟩ dX12_rank_39
        · replace hw := hw.2 hc
          refine go_iconst (v := 3) C rfl dX12_rank_34 ?_
          refine go_goto C 39 rfl dX12_rank_35 ?_
          exact go_iret C hr ⟨_, rfl, hw⟩ dX12_rank_39
    · replace hw := hw.2 hc
      refine go_iconst (v := 2) C rfl dX12_rank_18 ?_
      refine go_goto C 39 rfl dX12_rank_19 ?_
      exact go_iret C hr ⟨_, rfl, hw⟩ dX12_rank_39
  · replace hw := hw.2 hc
    refine go_iconst (v := 1) C rfl dX12_rank_7 ?_
    refine go_goto C 39 rfl dX12_rank_8 ?_
    exact go_iret C hr ⟨_, rfl, hw⟩ dX12_rank_39
-- CradleNamesModel.works(I)V
set_option maxRecDepth 20000 in
set_option maxHeartbeats 4000000 in
theorem gbX12_works_0 {X : XT} {G : GT} {l : Launch} {d : Nat}  {post : St → Prop} (C : Cx X G cX12_works RX12) (hr : Rt X G none (fun v τ => v = none ∧ post τ)) (hR : Rm X l d) (hnl : X.2.2.2.2.2.2.2.2.2.2.1 = 2)  (hd : 2 ≤ d) (hN : 119 ≤ G.2.2.2.2.2)   
    : ∀ (n : Nat) (v1 : Int32) (σ : St), wbX12_works_0   post n v1 σ → Go X G 0 [(0, .ref (G.2.2.1 75)), (1, .int v1)] [] σ := by
  intro n
  induction n with
  | zero => intro v1 σ hw; exact hw.elim
  | succ n ih =>
    intro v1 σ hw
    have hw : (((gI σ 75 26) ≤ 0 →
      post σ) ∧
    (¬ (gI σ 75 26) ≤ 0 →
      vp_in ((gI σ 75 26) - 1) 80 ∧ (
      ((¬ (gI σ 91 ((gI σ 75 26) - 1).toNatClampNeg) = (gI σ 75 22) →
        post σ) ∧
      ((gI σ 91 ((gI σ 75 26) - 1).toNatClampNeg) = (gI σ 75 22) →
        vp_in ((gI σ 75 26) - 1) 80 ∧ (
        wpX12_rank (gI σ 90 ((gI σ 75 26) - 1).toNatClampNeg) σ (fun r_1 σ_2 =>
        ((r_1 < v1 →
          post σ_2) ∧
        (¬ r_1 < v1 →
          ∀ σ_3 : St, σ_3 = sI σ_2 75 26 ((gI σ_2 75 26) - 1) →
          vp_in (gI σ_3 75 26) 80 ∧ (
          wpX12_emits (gI σ_3 90 (gI σ_3 75 26).toNatClampNeg) 0 σ_3 (fun σ_5 =>
          wbX12_works_0 post n v1 σ_5))))))))))) := hw
    refine go_aload_n C 0 rfl rfl dX12_works_0 ?_
    refine go_get (v := .int (gI σ 75 26)) C (shX12 G) (ltX12 hN) lkX12_309 rfl dX12_works_1 ?_
    refine go_if_le C 70 rfl dX12_works_4 (fun hc => ?_) (fun hc => ?_)
    · replace hw := hw.1 hc
      exact go_vret C hr ⟨rfl, hw⟩ dX12_works_70
    · replace hw := hw.2 hc
      refine go_aload_n C 0 rfl rfl dX12_works_7 ?_
      refine go_get (v := .ref (G.2.2.1 91)) C (shX12 G) (ltX12 hN) lkX12_64 rfl dX12_works_8 ?_
      refine go_aload_n C 0 rfl rfl dX12_works_11 ?_
      refine go_get (v := .int (gI σ 75 26)) C (shX12 G) (ltX12 hN) lkX12_309 rfl dX12_works_12 ?_
      refine go_iconst (v := 1) C rfl dX12_works_15 ?_
      refine go_isub C dX12_works_16 ?_
      refine go_iald C (saX12_waitFrame G) (laX12_waitFrame hN) hw.1 dX12_works_17 ?_
      replace hw := hw.2
      refine go_aload_n C 0 rfl rfl dX12_works_18 ?_
      refine go_get (v := .int (gI σ 75 22)) C (shX12 G) (ltX12 hN) lkX12_294 rfl dX12_works_19 ?_
      refine go_icmp_ne C 70 rfl dX12_works_22 (fun hc => ?_) (fun hc => ?_)
      · replace hw := hw.1 hc
        exact go_vret C hr ⟨rfl, hw⟩ dX12_works_70
      · replace hw := hw.2 hc
        refine go_aload_n C 0 rfl rfl dX12_works_25 ?_
        refine go_get (v := .ref (G.2.2.1 90)) C (shX12 G) (ltX12 hN) lkX12_61 rfl dX12_works_26 ?_
        refine go_aload_n C 0 rfl rfl dX12_works_29 ?_
        refine go_get (v := .int (gI σ 75 26)) C (shX12 G) (ltX12 hN) lkX12_309 rfl dX12_works_30 ?_
        refine go_iconst (v := 1) C rfl dX12_works_33 ?_
        refine go_isub C dX12_works_34 ?_
        refine go_iald C (saX12_wait G) (laX12_wait hN) hw.1 dX12_works_35 ?_
        replace hw := hw.2
        refine go_callS (as := [.int (gI σ 90 ((gI σ 75 26) - 1).toNatClampNeg)]) C hR cwX12_312 (Nat.le_trans (by decide) hd) (by decide) rfl rfl (Nat.le_of_ble_eq_true rfl) dX12_works_36 (spX12_rank (Nat.le_refl _) hN hw) (fun v_ τ_ hw => ?_)
        obtain ⟨r_1, rfl, hw⟩ := hw
        obtain ⟨σ_2, rfl⟩ : ∃ z, z = τ_ := ⟨_, rfl⟩
        refine go_iload_n C 1 rfl rfl dX12_works_39 ?_
        refine go_icmp_lt C 70 rfl dX12_works_40 (fun hc => ?_) (fun hc => ?_)
        · replace hw := hw.1 hc
          exact go_vret C hr ⟨rfl, hw⟩ dX12_works_70
        · replace hw := hw.2 hc
          refine go_aload_n C 0 rfl rfl dX12_works_43 ?_
          refine go_dup C rfl dX12_works_44 ?_
          refine go_get (v := .int (gI σ_2 75 26)) C (shX12 G) (ltX12 hN) lkX12_309 rfl dX12_works_45 ?_
          refine go_iconst (v := 1) C rfl dX12_works_48 ?_
          refine go_isub C dX12_works_49 ?_
          refine go_puti C (shX12 G) (ltX12 hN) lpX12_309 (show 26 < 64 by decide) (pxX12_26 G _ _) dX12_works_50 (go_nm fun σ_3 eσ_3 => ?_)
          replace hw := hw σ_3 eσ_3
          refine go_aload_n C 0 rfl rfl dX12_works_53 ?_
          refine go_aload_n C 0 rfl rfl dX12_works_54 ?_
          refine go_get (v := .ref (G.2.2.1 90)) C (shX12 G) (ltX12 hN) lkX12_61 rfl dX12_works_55 ?_
          refine go_aload_n C 0 rfl rfl dX12_works_58 ?_
          refine go_get (v := .int (gI σ_3 75 26)) C (shX12 G) (ltX12 hN) lkX12_309 rfl dX12_works_59 ?_
          refine go_iald C (saX12_wait G) (laX12_wait hN) hw.1 dX12_works_62 ?_
          replace hw := hw.2
          refine go_iconst (v := 0) C rfl dX12_works_63 ?_
          refine go_callV (as := [.int (gI σ_3 90 (gI σ_3 75 26).toNatClampNeg), .int 0]) C hR (shX12 G) (ltX12 hN) cwX12_315 (Nat.le_trans (by decide) hd) (by decide) rfl rfl (Nat.le_of_ble_eq_true rfl) dX12_works_64 (spX12_emits (Nat.le_refl _) hN hw) (fun v_ τ_ hw => ?_)
          obtain ⟨rfl, hw⟩ := hw
          obtain ⟨σ_5, rfl⟩ : ∃ z, z = τ_ := ⟨_, rfl⟩
          refine go_goto C 0 rfl dX12_works_67 ?_
          exact ih _ _ hw
set_option maxRecDepth 20000 in
set_option maxHeartbeats 4000000 in
theorem spX12_works {l : Launch} {G : GT} {d : Nat}  (hd : 2 ≤ d)  (hN : 119 ≤ G.2.2.2.2.2)  {a1 : Int32} {σ : St} {post : St → Prop} (hw : wpX12_works  a1 σ post) : Sp l G d yX12_works cX12_works 2 none [.ref (G.2.2.1 75), .int a1] σ (fun v τ => v = none ∧ post τ) := by
  refine Sp.of (by decide) (Nat.le_of_ble_eq_true rfl) fun X C hr hR hnl => ?_
  show Go X G 0 [(0, .ref (G.2.2.1 75)), (1, .int a1)] [] σ
  have hw : ∃ m_0, wbX12_works_0 post m_0 a1 σ := hw
  obtain ⟨n_0, hw⟩ := hw
  exact (gbX12_works_0 C hr hR hnl hd hN) n_0 _ _ hw
-- CradleNamesModel.waitsFor(I)V
set_option maxRecDepth 20000 in
set_option maxHeartbeats 4000000 in
theorem spX12_waitsFor {l : Launch} {G : GT} {d : Nat}  (hd : 4 ≤ d)  (hN : 119 ≤ G.2.2.2.2.2)  {a1 : Int32} {σ : St} {post : St → Prop} (hw : wpX12_waitsFor  a1 σ post) : Sp l G d yX12_waitsFor cX12_waitsFor 2 none [.ref (G.2.2.1 75), .int a1] σ (fun v τ => v = none ∧ post τ) := by
  refine Sp.of (by decide) (Nat.le_of_ble_eq_true rfl) fun X C hr hR hnl => ?_
  show Go X G 0 [(0, .ref (G.2.2.1 75)), (1, .int a1)] [] σ
  have hw : wpX12_rank a1 σ (fun r_1 σ_2 =>
  wpX12_works r_1 σ_2 (fun σ_4 =>
  vp_in (gI σ_4 75 26) 80 ∧ (
  ∀ σ_5 : St, σ_5 = sI σ_4 90 (gI σ_4 75 26).toNatClampNeg a1 →
  vp_in (gI σ_5 75 26) 80 ∧ (
  ∀ σ_6 : St, σ_6 = sI σ_5 91 (gI σ_5 75 26).toNatClampNeg (gI σ_5 75 22) →
  ∀ σ_7 : St, σ_7 = sI σ_6 75 26 ((gI σ_6 75 26) + 1) →
  wpX12_next  σ_7 (fun σ_9 =>
  post σ_9))))) := hw
  refine go_aload_n C 0 rfl rfl dX12_waitsFor_0 ?_
  refine go_iload_n C 1 rfl rfl dX12_waitsFor_1 ?_
  refine go_callS (as := [.int a1]) C hR cwX12_312 (Nat.le_trans (by decide) hd) (by decide) rfl rfl (Nat.le_of_ble_eq_true rfl) dX12_waitsFor_2 (spX12_rank (Nat.le_refl _) hN hw) (fun v_ τ_ hw => ?_)
  obtain ⟨r_1, rfl, hw⟩ := hw
  obtain ⟨σ_2, rfl⟩ : ∃ z, z = τ_ := ⟨_, rfl⟩
  refine go_callV (as := [.int r_1]) C hR (shX12 G) (ltX12 hN) cwX12_319 (Nat.le_trans (by decide) hd) (by decide) rfl rfl (Nat.le_of_ble_eq_true rfl) dX12_waitsFor_5 (spX12_works (Nat.le_refl _) hN hw) (fun v_ τ_ hw => ?_)
  obtain ⟨rfl, hw⟩ := hw
  obtain ⟨σ_4, rfl⟩ : ∃ z, z = τ_ := ⟨_, rfl⟩
  refine go_aload_n C 0 rfl rfl dX12_waitsFor_8 ?_
  refine go_get (v := .ref (G.2.2.1 90)) C (shX12 G) (ltX12 hN) lkX12_61 rfl dX12_waitsFor_9 ?_
  refine go_aload_n C 0 rfl rfl dX12_waitsFor_12 ?_
  refine go_get (v := .int (gI σ_4 75 26)) C (shX12 G) (ltX12 hN) lkX12_309 rfl dX12_waitsFor_13 ?_
  refine go_iload_n C 1 rfl rfl dX12_waitsFor_16 ?_
  refine go_iast C (saX12_wait G) (laX12_wait hN) hw.1 dX12_waitsFor_17 (go_nm fun σ_5 eσ_5 => ?_)
  replace hw := hw.2 σ_5 eσ_5
  refine go_aload_n C 0 rfl rfl dX12_waitsFor_18 ?_
  refine go_get (v := .ref (G.2.2.1 91)) C (shX12 G) (ltX12 hN) lkX12_64 rfl dX12_waitsFor_19 ?_
  refine go_aload_n C 0 rfl rfl dX12_waitsFor_22 ?_
  refine go_get (v := .int (gI σ_5 75 26)) C (shX12 G) (ltX12 hN) lkX12_309 rfl dX12_waitsFor_23 ?_
  refine go_aload_n C 0 rfl rfl dX12_waitsFor_26 ?_
  refine go_get (v := .int (gI σ_5 75 22)) C (shX12 G) (ltX12 hN) lkX12_294 rfl dX12_waitsFor_27 ?_
  refine go_iast C (saX12_waitFrame G) (laX12_waitFrame hN) hw.1 dX12_waitsFor_30 (go_nm fun σ_6 eσ_6 => ?_)
  replace hw := hw.2 σ_6 eσ_6
  refine go_aload_n C 0 rfl rfl dX12_waitsFor_31 ?_
  refine go_dup C rfl dX12_waitsFor_32 ?_
  refine go_get (v := .int (gI σ_6 75 26)) C (shX12 G) (ltX12 hN) lkX12_309 rfl dX12_waitsFor_33 ?_
  refine go_iconst (v := 1) C rfl dX12_waitsFor_36 ?_
  refine go_iadd C dX12_waitsFor_37 ?_
  refine go_puti C (shX12 G) (ltX12 hN) lpX12_309 (show 26 < 64 by decide) (pxX12_26 G _ _) dX12_waitsFor_38 (go_nm fun σ_7 eσ_7 => ?_)
  replace hw := hw σ_7 eσ_7
  refine go_aload_n C 0 rfl rfl dX12_waitsFor_41 ?_
  refine go_callV (as := []) C hR (shX12 G) (ltX12 hN) cwX12_306 (Nat.le_trans (by decide) hd) (by decide) rfl rfl (Nat.le_of_ble_eq_true rfl) dX12_waitsFor_42 (spX12_next (Nat.le_refl _) hN hw) (fun v_ τ_ hw => ?_)
  obtain ⟨rfl, hw⟩ := hw
  obtain ⟨σ_9, rfl⟩ : ∃ z, z = τ_ := ⟨_, rfl⟩
  exact go_vret C hr ⟨rfl, hw⟩ dX12_waitsFor_45
-- CradleNamesModel.nameOf(I)I
set_option maxRecDepth 20000 in
set_option maxHeartbeats 4000000 in
theorem spX12_nameOf {l : Launch} {G : GT} {d : Nat}  (hd : 1 ≤ d)  (hN : 119 ≤ G.2.2.2.2.2)  {a1 : Int32} {σ : St} {post : Int32 → St → Prop} (hw : wpX12_nameOf  a1 σ post) : Sp l G d yX12_nameOf cX12_nameOf 1 (some .int) [.int a1] σ (fun v τ => ∃ r : Int32, v = some (.int r) ∧ post r τ) := by
  refine Sp.of (by decide) (Nat.le_of_ble_eq_true rfl) fun X C hr hR hnl => ?_
  show Go X G 0 [(0, .int a1)] [] σ
  have hw : ((¬ a1 = 2 →
    ((a1 ≤ 8 →
      post (-1) σ) ∧
    (¬ a1 ≤ 8 →
      post (a1 - 8) σ))) ∧
  (a1 = 2 →
    post 0 σ)) := hw
  refine go_iload_n C 0 rfl rfl dX12_nameOf_0 ?_
  refine go_iconst (v := 2) C rfl dX12_nameOf_1 ?_
  refine go_icmp_ne C 9 rfl dX12_nameOf_2 (fun hc => ?_) (fun hc => ?_)
  · replace hw := hw.1 hc
    refine go_iload_n C 0 rfl rfl dX12_nameOf_9 ?_
    refine go_bipush (v := 8) C rfl dX12_nameOf_10 ?_
    refine go_icmp_le C 22 rfl dX12_nameOf_12 (fun hc => ?_) (fun hc => ?_)
    · replace hw := hw.1 hc
      refine go_iconst (v := (-1)) C rfl dX12_nameOf_22 ?_
      exact go_iret C hr ⟨_, rfl, hw⟩ dX12_nameOf_23
    · replace hw := hw.2 hc
      refine go_iload_n C 0 rfl rfl dX12_nameOf_15 ?_
      refine go_bipush (v := 8) C rfl dX12_nameOf_16 ?_
      refine go_isub C dX12_nameOf_18 ?_
      refine go_goto C 23 rfl dX12_nameOf_19 ?_
      exact go_iret C hr ⟨_, rfl, hw⟩ dX12_nameOf_23
  · replace hw := hw.2 hc
    refine go_iconst (v := 0) C rfl dX12_nameOf_5 ?_
    refine go_goto C 23 rfl dX12_nameOf_6 ?_
    exact go_iret C hr ⟨_, rfl, hw⟩ dX12_nameOf_23
-- CradleNamesModel.asks()V
set_option maxRecDepth 20000 in
set_option maxHeartbeats 4000000 in
theorem spX12_asks {l : Launch} {G : GT} {d : Nat}  (hd : 5 ≤ d)  (hN : 119 ≤ G.2.2.2.2.2)   {σ : St} {post : St → Prop} (hw : wpX12_asks   σ post) : Sp l G d yX12_asks cX12_asks 2 none [.ref (G.2.2.1 75)] σ (fun v τ => v = none ∧ post τ) := by
  refine Sp.of (by decide) (Nat.le_of_ble_eq_true rfl) fun X C hr hR hnl => ?_
  show Go X G 0 [(0, .ref (G.2.2.1 75))] [] σ
  have hw : wpX12_isWord 6 σ (fun r_1 σ_2 =>
  ((r_1 = 0 →
    wpX12_opensFrame 4 σ_2 (fun σ_4 =>
    ∀ σ_5 : St, σ_5 = sI σ_4 75 29 1 →
    post σ_5)) ∧
  (¬ r_1 = 0 →
    wpX12_opensSign 3 σ_2 (fun r_6 σ_7 =>
    post σ_7)))) := hw
  refine go_aload_n C 0 rfl rfl dX12_asks_0 ?_
  refine go_bipush (v := 6) C rfl dX12_asks_1 ?_
  refine go_callV (as := [.int 6]) C hR (shX12 G) (ltX12 hN) cwX12_322 (Nat.le_trans (by decide) hd) (by decide) rfl rfl (Nat.le_of_ble_eq_true rfl) dX12_asks_3 (spX12_isWord (Nat.le_refl _) hN hw) (fun v_ τ_ hw => ?_)
  obtain ⟨r_1, rfl, hw⟩ := hw
  obtain ⟨σ_2, rfl⟩ : ∃ z, z = τ_ := ⟨_, rfl⟩
  refine go_if_eq C 18 rfl dX12_asks_6 (fun hc => ?_) (fun hc => ?_)
  · replace hw := hw.1 hc
    refine go_aload_n C 0 rfl rfl dX12_asks_18 ?_
    refine go_iconst (v := 4) C rfl dX12_asks_19 ?_
    refine go_callV (as := [.int 4]) C hR (shX12 G) (ltX12 hN) cwX12_303 (Nat.le_trans (by decide) hd) (by decide) rfl rfl (Nat.le_of_ble_eq_true rfl) dX12_asks_20 (spX12_opensFrame (Nat.le_refl _) hN hw) (fun v_ τ_ hw => ?_)
    obtain ⟨rfl, hw⟩ := hw
    obtain ⟨σ_4, rfl⟩ : ∃ z, z = τ_ := ⟨_, rfl⟩
    refine go_aload_n C 0 rfl rfl dX12_asks_23 ?_
    refine go_iconst (v := 1) C rfl dX12_asks_24 ?_
    refine go_puti C (shX12 G) (ltX12 hN) lpX12_328 (show 29 < 64 by decide) (pxX12_29 G _ _) dX12_asks_25 (go_nm fun σ_5 eσ_5 => ?_)
    replace hw := hw σ_5 eσ_5
    exact go_vret C hr ⟨rfl, hw⟩ dX12_asks_28
  · replace hw := hw.2 hc
    refine go_aload_n C 0 rfl rfl dX12_asks_9 ?_
    refine go_iconst (v := 3) C rfl dX12_asks_10 ?_
    refine go_callV (as := [.int 3]) C hR (shX12 G) (ltX12 hN) cwX12_325 (Nat.le_trans (by decide) hd) (by decide) rfl rfl (Nat.le_of_ble_eq_true rfl) dX12_asks_11 (spX12_opensSign (Nat.le_refl _) hN hw) (fun v_ τ_ hw => ?_)
    obtain ⟨r_6, rfl, hw⟩ := hw
    obtain ⟨σ_7, rfl⟩ : ∃ z, z = τ_ := ⟨_, rfl⟩
    refine go_istore_n (lv2 := [(1, .int r_6), (0, .ref (G.2.2.1 75))]) C rfl (by rw [hnl]; decide) rfl dX12_asks_14 ?_
    refine go_goto C 28 rfl dX12_asks_15 ?_
    exact go_vret C hr ⟨rfl, hw⟩ dX12_asks_28
-- CradleNamesModel.oneIsOver()V
set_option maxRecDepth 20000 in
set_option maxHeartbeats 4000000 in
theorem gbX12_oneIsOver_0 {X : XT} {G : GT} {l : Launch} {d : Nat}  {post : St → Prop} (C : Cx X G cX12_oneIsOver RX12) (hr : Rt X G none (fun v τ => v = none ∧ post τ)) (hR : Rm X l d) (hnl : X.2.2.2.2.2.2.2.2.2.2.1 = 1)  (hd : 2 ≤ d) (hN : 119 ≤ G.2.2.2.2.2)   
    : ∀ (n : Nat) (σ : St), wbX12_oneIsOver_0   post n σ → Go X G 0 [(0, .ref (G.2.2.1 75))] [] σ := by
  intro n
  induction n with
  | zero => intro σ hw; exact hw.elim
  | succ n ih =>
    intro σ hw
    have hw : wpX12_top  σ (fun r_1 σ_2 =>
    ((¬ r_1 = 7 →
      ∀ σ_3 : St, σ_3 = sI σ_2 75 29 2 →
      post σ_3) ∧
    (r_1 = 7 →
      ∀ σ_4 : St, σ_4 = sI σ_2 75 22 ((gI σ_2 75 22) - 1) →
      ∀ σ_5 : St, σ_5 = sI σ_4 75 21 ((gI σ_4 75 21) - 1) →
      wpX12_emits 402 0 σ_5 (fun σ_7 =>
      wbX12_oneIsOver_0 post n σ_7)))) := hw
    refine go_aload_n C 0 rfl rfl dX12_oneIsOver_0 ?_
    refine go_callV (as := []) C hR (shX12 G) (ltX12 hN) cwX12_340 (Nat.le_trans (by decide) hd) (by decide) rfl rfl (Nat.le_of_ble_eq_true rfl) dX12_oneIsOver_1 (spX12_top (Nat.le_refl _) hN hw) (fun v_ τ_ hw => ?_)
    obtain ⟨r_1, rfl, hw⟩ := hw
    obtain ⟨σ_2, rfl⟩ : ∃ z, z = τ_ := ⟨_, rfl⟩
    refine go_bipush (v := 7) C rfl dX12_oneIsOver_4 ?_
    refine go_icmp_ne C 40 rfl dX12_oneIsOver_6 (fun hc => ?_) (fun hc => ?_)
    · replace hw := hw.1 hc
      refine go_aload_n C 0 rfl rfl dX12_oneIsOver_40 ?_
      refine go_iconst (v := 2) C rfl dX12_oneIsOver_41 ?_
      refine go_puti C (shX12 G) (ltX12 hN) lpX12_328 (show 29 < 64 by decide) (pxX12_29 G _ _) dX12_oneIsOver_42 (go_nm fun σ_3 eσ_3 => ?_)
      replace hw := hw σ_3 eσ_3
      exact go_vret C hr ⟨rfl, hw⟩ dX12_oneIsOver_45
    · replace hw := hw.2 hc
      refine go_aload_n C 0 rfl rfl dX12_oneIsOver_9 ?_
      refine go_dup C rfl dX12_oneIsOver_10 ?_
      refine go_get (v := .int (gI σ_2 75 22)) C (shX12 G) (ltX12 hN) lkX12_294 rfl dX12_oneIsOver_11 ?_
      refine go_iconst (v := 1) C rfl dX12_oneIsOver_14 ?_
      refine go_isub C dX12_oneIsOver_15 ?_
      refine go_puti C (shX12 G) (ltX12 hN) lpX12_294 (show 22 < 64 by decide) (pxX12_22 G _ _) dX12_oneIsOver_16 (go_nm fun σ_4 eσ_4 => ?_)
      replace hw := hw σ_4 eσ_4
      refine go_aload_n C 0 rfl rfl dX12_oneIsOver_19 ?_
      refine go_dup C rfl dX12_oneIsOver_20 ?_
      refine go_get (v := .int (gI σ_4 75 21)) C (shX12 G) (ltX12 hN) lkX12_297 rfl dX12_oneIsOver_21 ?_
      refine go_iconst (v := 1) C rfl dX12_oneIsOver_24 ?_
      refine go_isub C dX12_oneIsOver_25 ?_
      refine go_puti C (shX12 G) (ltX12 hN) lpX12_297 (show 21 < 64 by decide) (pxX12_21 G _ _) dX12_oneIsOver_26 (go_nm fun σ_5 eσ_5 => ?_)
      replace hw := hw σ_5 eσ_5
      refine go_aload_n C 0 rfl rfl dX12_oneIsOver_29 ?_
      refine go_sipush (v := 402) C rfl dX12_oneIsOver_30 ?_
      refine go_iconst (v := 0) C rfl dX12_oneIsOver_33 ?_
      refine go_callV (as := [.int 402, .int 0]) C hR (shX12 G) (ltX12 hN) cwX12_315 (Nat.le_trans (by decide) hd) (by decide) rfl rfl (Nat.le_of_ble_eq_true rfl) dX12_oneIsOver_34 (spX12_emits (Nat.le_refl _) hN hw) (fun v_ τ_ hw => ?_)
      obtain ⟨rfl, hw⟩ := hw
      obtain ⟨σ_7, rfl⟩ : ∃ z, z = τ_ := ⟨_, rfl⟩
      refine go_goto C 0 rfl dX12_oneIsOver_37 ?_
      exact ih _ hw
set_option maxRecDepth 20000 in
set_option maxHeartbeats 4000000 in
theorem spX12_oneIsOver {l : Launch} {G : GT} {d : Nat}  (hd : 2 ≤ d)  (hN : 119 ≤ G.2.2.2.2.2)   {σ : St} {post : St → Prop} (hw : wpX12_oneIsOver   σ post) : Sp l G d yX12_oneIsOver cX12_oneIsOver 1 none [.ref (G.2.2.1 75)] σ (fun v τ => v = none ∧ post τ) := by
  refine Sp.of (by decide) (Nat.le_of_ble_eq_true rfl) fun X C hr hR hnl => ?_
  show Go X G 0 [(0, .ref (G.2.2.1 75))] [] σ
  have hw : ∃ m_0, wbX12_oneIsOver_0 post m_0 σ := hw
  obtain ⟨n_0, hw⟩ := hw
  exact (gbX12_oneIsOver_0 C hr hR hnl hd hN) n_0 _ hw
-- CradleNamesModel.begins()V
set_option maxRecDepth 20000 in
set_option maxHeartbeats 4000000 in
theorem gbX12_begins_145 {X : XT} {G : GT} {l : Launch} {d : Nat}  {post : St → Prop} (C : Cx X G cX12_begins RX12) (hr : Rt X G none (fun v τ => v = none ∧ post τ)) (hR : Rm X l d) (hnl : X.2.2.2.2.2.2.2.2.2.2.1 = 2)  (hd : 5 ≤ d) (hN : 119 ≤ G.2.2.2.2.2)   
    : ∀ (σ : St), wbX12_begins_145   post σ → Go X G 145 [(0, .ref (G.2.2.1 75))] [] σ := by
  intro σ hw
  have hw : ∀ v1_1 : Int32, v1_1 = (gI σ 75 18) →
  wpX12_next  σ (fun σ_3 =>
  wpX12_isSign 40 σ_3 (fun r_4 σ_5 =>
  ((¬ r_4 = 0 →
    wpX12_opensSign 8 σ_5 (fun r_6 σ_7 =>
    ((r_6 = 0 →
      post σ_7) ∧
    (¬ r_6 = 0 →
      vp_in (gI σ_7 75 22) 41 ∧ (
      ∀ σ_8 : St, σ_8 = sI σ_7 88 (gI σ_7 75 22).toNatClampNeg v1_1 →
      post σ_8))))) ∧
  (r_4 = 0 →
    wpX12_errs 1 σ_5 (fun σ_10 =>
    post σ_10))))) := hw
  refine go_aload_n C 0 rfl rfl dX12_begins_145 ?_
  refine go_get (v := .int (gI σ 75 18)) C (shX12 G) (ltX12 hN) lkX12_281 rfl dX12_begins_146 ?_
  refine go_topi (fun v1_1 ev1_1 => ?_)
  replace hw := hw v1_1 ev1_1
  refine go_istore_n (lv2 := [(1, .int v1_1), (0, .ref (G.2.2.1 75))]) C rfl (by rw [hnl]; decide) rfl dX12_begins_149 ?_
  refine go_aload_n C 1 rfl rfl dX12_begins_150 ?_
  refine go_callV (as := []) C hR (shX12 G) (ltX12 hN) cwX12_306 (Nat.le_trans (by decide) hd) (by decide) rfl rfl (Nat.le_of_ble_eq_true rfl) dX12_begins_151 (spX12_next (Nat.le_refl _) hN hw) (fun v_ τ_ hw => ?_)
  obtain ⟨rfl, hw⟩ := hw
  obtain ⟨σ_3, rfl⟩ : ∃ z, z = τ_ := ⟨_, rfl⟩
  refine go_aload_n C 1 rfl rfl dX12_begins_154 ?_
  refine go_bipush (v := 40) C rfl dX12_begins_155 ?_
  refine go_callV (as := [.int 40]) C hR (shX12 G) (ltX12 hN) cwX12_337 (Nat.le_trans (by decide) hd) (by decide) rfl rfl (Nat.le_of_ble_eq_true rfl) dX12_begins_157 (spX12_isSign (Nat.le_refl _) hN hw) (fun v_ τ_ hw => ?_)
  obtain ⟨r_4, rfl, hw⟩ := hw
  obtain ⟨σ_5, rfl⟩ : ∃ z, z = τ_ := ⟨_, rfl⟩
  refine go_if_ne C 171 rfl dX12_begins_160 (fun hc => ?_) (fun hc => ?_)
  · replace hw := hw.1 hc
    refine go_aload_n C 1 rfl rfl dX12_begins_171 ?_
    refine go_bipush (v := 8) C rfl dX12_begins_172 ?_
    refine go_callV (as := [.int 8]) C hR (shX12 G) (ltX12 hN) cwX12_325 (Nat.le_trans (by decide) hd) (by decide) rfl rfl (Nat.le_of_ble_eq_true rfl) dX12_begins_174 (spX12_opensSign (Nat.le_refl _) hN hw) (fun v_ τ_ hw => ?_)
    obtain ⟨r_6, rfl, hw⟩ := hw
    obtain ⟨σ_7, rfl⟩ : ∃ z, z = τ_ := ⟨_, rfl⟩
    refine go_if_eq C 190 rfl dX12_begins_177 (fun hc => ?_) (fun hc => ?_)
    · replace hw := hw.1 hc
      refine go_goto C 198 rfl dX12_begins_190 ?_
      exact go_vret C hr ⟨rfl, hw⟩ dX12_begins_198
    · replace hw := hw.2 hc
      refine go_aload_n C 1 rfl rfl dX12_begins_180 ?_
      refine go_get (v := .ref (G.2.2.1 88)) C (shX12 G) (ltX12 hN) lkX12_55 rfl dX12_begins_181 ?_
      refine go_aload_n C 1 rfl rfl dX12_begins_184 ?_
      refine go_get (v := .int (gI σ_7 75 22)) C (shX12 G) (ltX12 hN) lkX12_294 rfl dX12_begins_185 ?_
      refine go_iload_n C 0 rfl rfl dX12_begins_188 ?_
      refine go_iast C (saX12_minOrMax G) (laX12_minOrMax hN) hw.1 dX12_begins_189 (go_nm fun σ_8 eσ_8 => ?_)
      replace hw := hw.2 σ_8 eσ_8
      refine go_goto C 198 rfl dX12_begins_190 ?_
      exact go_vret C hr ⟨rfl, hw⟩ dX12_begins_198
  · replace hw := hw.2 hc
    refine go_aload_n C 1 rfl rfl dX12_begins_163 ?_
    refine go_iconst (v := 1) C rfl dX12_begins_164 ?_
    refine go_callV (as := [.int 1]) C hR (shX12 G) (ltX12 hN) cwX12_300 (Nat.le_trans (by decide) hd) (by decide) rfl rfl (Nat.le_of_ble_eq_true rfl) dX12_begins_165 (spX12_errs (Nat.le_refl _) hN hw) (fun v_ τ_ hw => ?_)
    obtain ⟨rfl, hw⟩ := hw
    obtain ⟨σ_10, rfl⟩ : ∃ z, z = τ_ := ⟨_, rfl⟩
    refine go_goto C 190 rfl dX12_begins_168 ?_
    refine go_goto C 198 rfl dX12_begins_190 ?_
    exact go_vret C hr ⟨rfl, hw⟩ dX12_begins_198
set_option maxRecDepth 20000 in
set_option maxHeartbeats 4000000 in
theorem gbX12_begins_89 {X : XT} {G : GT} {l : Launch} {d : Nat}  {post : St → Prop} (C : Cx X G cX12_begins RX12) (hr : Rt X G none (fun v τ => v = none ∧ post τ)) (hR : Rm X l d) (hnl : X.2.2.2.2.2.2.2.2.2.2.1 = 2)  (hd : 5 ≤ d) (hN : 119 ≤ G.2.2.2.2.2)   
    : ∀ (σ : St), wbX12_begins_89   post σ → Go X G 89 [(0, .ref (G.2.2.1 75))] [] σ := by
  intro σ hw
  have hw : wpX12_isSign 40 σ (fun r_1 σ_2 =>
  ((r_1 = 0 →
    wpX12_isSign 45 σ_2 (fun r_3 σ_4 =>
    ((r_3 = 0 →
      wpX12_isWord 7 σ_4 (fun r_5 σ_6 =>
      ((¬ r_5 = 0 →
        wbX12_begins_145 post σ_6) ∧
      (r_5 = 0 →
        wpX12_isWord 8 σ_6 (fun r_7 σ_8 =>
        ((r_7 = 0 →
          wpX12_errs 1 σ_8 (fun σ_10 =>
          post σ_10)) ∧
        (¬ r_7 = 0 →
          wbX12_begins_145 post σ_8))))))) ∧
    (¬ r_3 = 0 →
      wpX12_opensSign 7 σ_4 (fun r_11 σ_12 =>
      post σ_12))))) ∧
  (¬ r_1 = 0 →
    wpX12_opensSign 6 σ_2 (fun r_13 σ_14 =>
    post σ_14)))) := hw
  refine go_aload_n C 0 rfl rfl dX12_begins_89 ?_
  refine go_bipush (v := 40) C rfl dX12_begins_90 ?_
  refine go_callV (as := [.int 40]) C hR (shX12 G) (ltX12 hN) cwX12_337 (Nat.le_trans (by decide) hd) (by decide) rfl rfl (Nat.le_of_ble_eq_true rfl) dX12_begins_92 (spX12_isSign (Nat.le_refl _) hN hw) (fun v_ τ_ hw => ?_)
  obtain ⟨r_1, rfl, hw⟩ := hw
  obtain ⟨σ_2, rfl⟩ : ∃ z, z = τ_ := ⟨_, rfl⟩
  refine go_if_eq C 108 rfl dX12_begins_95 (fun hc => ?_) (fun hc => ?_)
  · replace hw := hw.1 hc
    refine go_aload_n C 0 rfl rfl dX12_begins_108 ?_
    refine go_bipush (v := 45) C rfl dX12_begins_109 ?_
    refine go_callV (as := [.int 45]) C hR (shX12 G) (ltX12 hN) cwX12_337 (Nat.le_trans (by decide) hd) (by decide) rfl rfl (Nat.le_of_ble_eq_true rfl) dX12_begins_111 (spX12_isSign (Nat.le_refl _) hN hw) (fun v_ τ_ hw => ?_)
    obtain ⟨r_3, rfl, hw⟩ := hw
    obtain ⟨σ_4, rfl⟩ : ∃ z, z = τ_ := ⟨_, rfl⟩
    refine go_if_eq C 127 rfl dX12_begins_114 (fun hc => ?_) (fun hc => ?_)
    · replace hw := hw.1 hc
      refine go_aload_n C 0 rfl rfl dX12_begins_127 ?_
      refine go_bipush (v := 7) C rfl dX12_begins_128 ?_
      refine go_callV (as := [.int 7]) C hR (shX12 G) (ltX12 hN) cwX12_322 (Nat.le_trans (by decide) hd) (by decide) rfl rfl (Nat.le_of_ble_eq_true rfl) dX12_begins_130 (spX12_isWord (Nat.le_refl _) hN hw) (fun v_ τ_ hw => ?_)
      obtain ⟨r_5, rfl, hw⟩ := hw
      obtain ⟨σ_6, rfl⟩ : ∃ z, z = τ_ := ⟨_, rfl⟩
      refine go_if_ne C 145 rfl dX12_begins_133 (fun hc => ?_) (fun hc => ?_)
      · replace hw := hw.1 hc
        exact (gbX12_begins_145 C hr hR hnl hd hN) _ hw
      · replace hw := hw.2 hc
        refine go_aload_n C 0 rfl rfl dX12_begins_136 ?_
        refine go_bipush (v := 8) C rfl dX12_begins_137 ?_
        refine go_callV (as := [.int 8]) C hR (shX12 G) (ltX12 hN) cwX12_322 (Nat.le_trans (by decide) hd) (by decide) rfl rfl (Nat.le_of_ble_eq_true rfl) dX12_begins_139 (spX12_isWord (Nat.le_refl _) hN hw) (fun v_ τ_ hw => ?_)
        obtain ⟨r_7, rfl, hw⟩ := hw
        obtain ⟨σ_8, rfl⟩ : ∃ z, z = τ_ := ⟨_, rfl⟩
        refine go_if_eq C 193 rfl dX12_begins_142 (fun hc => ?_) (fun hc => ?_)
        · replace hw := hw.1 hc
          refine go_aload_n C 0 rfl rfl dX12_begins_193 ?_
          refine go_iconst (v := 1) C rfl dX12_begins_194 ?_
          refine go_callV (as := [.int 1]) C hR (shX12 G) (ltX12 hN) cwX12_300 (Nat.le_trans (by decide) hd) (by decide) rfl rfl (Nat.le_of_ble_eq_true rfl) dX12_begins_195 (spX12_errs (Nat.le_refl _) hN hw) (fun v_ τ_ hw => ?_)
          obtain ⟨rfl, hw⟩ := hw
          obtain ⟨σ_10, rfl⟩ : ∃ z, z = τ_ := ⟨_, rfl⟩
          exact go_vret C hr ⟨rfl, hw⟩ dX12_begins_198
        · replace hw := hw.2 hc
          exact (gbX12_begins_145 C hr hR hnl hd hN) _ hw
    · replace hw := hw.2 hc
      refine go_aload_n C 0 rfl rfl dX12_begins_117 ?_
      refine go_bipush (v := 7) C rfl dX12_begins_118 ?_
      refine go_callV (as := [.int 7]) C hR (shX12 G) (ltX12 hN) cwX12_325 (Nat.le_trans (by decide) hd) (by decide) rfl rfl (Nat.le_of_ble_eq_true rfl) dX12_begins_120 (spX12_opensSign (Nat.le_refl _) hN hw) (fun v_ τ_ hw => ?_)
      obtain ⟨r_11, rfl, hw⟩ := hw
      obtain ⟨σ_12, rfl⟩ : ∃ z, z = τ_ := ⟨_, rfl⟩
      refine go_istore_n (lv2 := [(1, .int r_11), (0, .ref (G.2.2.1 75))]) C rfl (by rw [hnl]; decide) rfl dX12_begins_123 ?_
      refine go_goto C 198 rfl dX12_begins_124 ?_
      exact go_vret C hr ⟨rfl, hw⟩ dX12_begins_198
  · replace hw := hw.2 hc
    refine go_aload_n C 0 rfl rfl dX12_begins_98 ?_
    refine go_bipush (v := 6) C rfl dX12_begins_99 ?_
    refine go_callV (as := [.int 6]) C hR (shX12 G) (ltX12 hN) cwX12_325 (Nat.le_trans (by decide) hd) (by decide) rfl rfl (Nat.le_of_ble_eq_true rfl) dX12_begins_101 (spX12_opensSign (Nat.le_refl _) hN hw) (fun v_ τ_ hw => ?_)
    obtain ⟨r_13, rfl, hw⟩ := hw
    obtain ⟨σ_14, rfl⟩ : ∃ z, z = τ_ := ⟨_, rfl⟩
    refine go_istore_n (lv2 := [(1, .int r_13), (0, .ref (G.2.2.1 75))]) C rfl (by rw [hnl]; decide) rfl dX12_begins_104 ?_
    refine go_goto C 198 rfl dX12_begins_105 ?_
    exact go_vret C hr ⟨rfl, hw⟩ dX12_begins_198
set_option maxRecDepth 20000 in
set_option maxHeartbeats 4000000 in
theorem spX12_begins {l : Launch} {G : GT} {d : Nat}  (hd : 5 ≤ d)  (hN : 119 ≤ G.2.2.2.2.2)   {σ : St} {post : St → Prop} (hw : wpX12_begins   σ post) : Sp l G d yX12_begins cX12_begins 2 none [.ref (G.2.2.1 75)] σ (fun v τ => v = none ∧ post τ) := by
  refine Sp.of (by decide) (Nat.le_of_ble_eq_true rfl) fun X C hr hR hnl => ?_
  show Go X G 0 [(0, .ref (G.2.2.1 75))] [] σ
  have hw : ((¬ (gI σ 75 17) = 2 →
    ((¬ (gI σ 75 17) = 1 →
      wbX12_begins_89 post σ) ∧
    ((gI σ 75 17) = 1 →
      wpX12_nameOf (gI σ 75 18) σ (fun r_1 σ_2 =>
      ((r_1 < 0 →
        wbX12_begins_89 post σ_2) ∧
      (¬ r_1 < 0 →
        wpX12_nameOf (gI σ_2 75 18) σ_2 (fun r_3 σ_4 =>
        wpX12_emits 401 r_3 σ_4 (fun σ_6 =>
        wpX12_next  σ_6 (fun σ_8 =>
        wpX12_oneIsOver  σ_8 (fun σ_10 =>
        post σ_10)))))))))) ∧
  ((gI σ 75 17) = 2 →
    (((gI σ 75 18) ≤ 9999 →
      wpX12_emits 400 (gI σ 75 18) σ (fun σ_12 =>
      wpX12_next  σ_12 (fun σ_14 =>
      wpX12_oneIsOver  σ_14 (fun σ_16 =>
      post σ_16)))) ∧
    (¬ (gI σ 75 18) ≤ 9999 →
      wpX12_errs 2 σ (fun σ_18 =>
      post σ_18))))) := hw
  refine go_aload_n C 0 rfl rfl dX12_begins_0 ?_
  refine go_get (v := .int (gI σ 75 17)) C (shX12 G) (ltX12 hN) lkX12_270 rfl dX12_begins_1 ?_
  refine go_iconst (v := 2) C rfl dX12_begins_4 ?_
  refine go_icmp_ne C 46 rfl dX12_begins_5 (fun hc => ?_) (fun hc => ?_)
  · replace hw := hw.1 hc
    refine go_aload_n C 0 rfl rfl dX12_begins_46 ?_
    refine go_get (v := .int (gI σ 75 17)) C (shX12 G) (ltX12 hN) lkX12_270 rfl dX12_begins_47 ?_
    refine go_iconst (v := 1) C rfl dX12_begins_50 ?_
    refine go_icmp_ne C 89 rfl dX12_begins_51 (fun hc => ?_) (fun hc => ?_)
    · replace hw := hw.1 hc
      exact (gbX12_begins_89 C hr hR hnl hd hN) _ hw
    · replace hw := hw.2 hc
      refine go_aload_n C 0 rfl rfl dX12_begins_54 ?_
      refine go_get (v := .int (gI σ 75 18)) C (shX12 G) (ltX12 hN) lkX12_281 rfl dX12_begins_55 ?_
      refine go_callS (as := [.int (gI σ 75 18)]) C hR cwX12_334 (Nat.le_trans (by decide) hd) (by decide) rfl rfl (Nat.le_of_ble_eq_true rfl) dX12_begins_58 (spX12_nameOf (Nat.le_refl _) hN hw) (fun v_ τ_ hw => ?_)
      obtain ⟨r_1, rfl, hw⟩ := hw
      obtain ⟨σ_2, rfl⟩ : ∃ z, z = τ_ := ⟨_, rfl⟩
      refine go_if_lt C 89 rfl dX12_begins_61 (fun hc => ?_) (fun hc => ?_)
      · replace hw := hw.1 hc
        exact (gbX12_begins_89 C hr hR hnl hd hN) _ hw
      · replace hw := hw.2 hc
        refine go_aload_n C 0 rfl rfl dX12_begins_64 ?_
        refine go_sipush (v := 401) C rfl dX12_begins_65 ?_
        refine go_aload_n C 0 rfl rfl dX12_begins_68 ?_
        refine go_get (v := .int (gI σ_2 75 18)) C (shX12 G) (ltX12 hN) lkX12_281 rfl dX12_begins_69 ?_
        refine go_callS (as := [.int (gI σ_2 75 18)]) C hR cwX12_334 (Nat.le_trans (by decide) hd) (by decide) rfl rfl (Nat.le_of_ble_eq_true rfl) dX12_begins_72 (spX12_nameOf (Nat.le_refl _) hN hw) (fun v_ τ_ hw => ?_)
        obtain ⟨r_3, rfl, hw⟩ := hw
        obtain ⟨σ_4, rfl⟩ : ∃ z, z = τ_ := ⟨_, rfl⟩
        refine go_callV (as := [.int 401, .int r_3]) C hR (shX12 G) (ltX12 hN) cwX12_315 (Nat.le_trans (by decide) hd) (by decide) rfl rfl (Nat.le_of_ble_eq_true rfl) dX12_begins_75 (spX12_emits (Nat.le_refl _) hN hw) (fun v_ τ_ hw => ?_)
        obtain ⟨rfl, hw⟩ := hw
        obtain ⟨σ_6, rfl⟩ : ∃ z, z = τ_ := ⟨_, rfl⟩
        refine go_aload_n C 0 rfl rfl dX12_begins_78 ?_
        refine go_callV (as := []) C hR (shX12 G) (ltX12 hN) cwX12_306 (Nat.le_trans (by decide) hd) (by decide) rfl rfl (Nat.le_of_ble_eq_true rfl) dX12_begins_79 (spX12_next (Nat.le_refl _) hN hw) (fun v_ τ_ hw => ?_)
        obtain ⟨rfl, hw⟩ := hw
        obtain ⟨σ_8, rfl⟩ : ∃ z, z = τ_ := ⟨_, rfl⟩
        refine go_aload_n C 0 rfl rfl dX12_begins_82 ?_
        refine go_callV (as := []) C hR (shX12 G) (ltX12 hN) cwX12_331 (Nat.le_trans (by decide) hd) (by decide) rfl rfl (Nat.le_of_ble_eq_true rfl) dX12_begins_83 (spX12_oneIsOver (Nat.le_refl _) hN hw) (fun v_ τ_ hw => ?_)
        obtain ⟨rfl, hw⟩ := hw
        obtain ⟨σ_10, rfl⟩ : ∃ z, z = τ_ := ⟨_, rfl⟩
        refine go_goto C 198 rfl dX12_begins_86 ?_
        exact go_vret C hr ⟨rfl, hw⟩ dX12_begins_198
  · replace hw := hw.2 hc
    refine go_aload_n C 0 rfl rfl dX12_begins_8 ?_
    refine go_get (v := .int (gI σ 75 18)) C (shX12 G) (ltX12 hN) lkX12_281 rfl dX12_begins_9 ?_
    refine go_sipush (v := 9999) C rfl dX12_begins_12 ?_
    refine go_icmp_le C 24 rfl dX12_begins_15 (fun hc => ?_) (fun hc => ?_)
    · replace hw := hw.1 hc
      refine go_aload_n C 0 rfl rfl dX12_begins_24 ?_
      refine go_sipush (v := 400) C rfl dX12_begins_25 ?_
      refine go_aload_n C 0 rfl rfl dX12_begins_28 ?_
      refine go_get (v := .int (gI σ 75 18)) C (shX12 G) (ltX12 hN) lkX12_281 rfl dX12_begins_29 ?_
      refine go_callV (as := [.int 400, .int (gI σ 75 18)]) C hR (shX12 G) (ltX12 hN) cwX12_315 (Nat.le_trans (by decide) hd) (by decide) rfl rfl (Nat.le_of_ble_eq_true rfl) dX12_begins_32 (spX12_emits (Nat.le_refl _) hN hw) (fun v_ τ_ hw => ?_)
      obtain ⟨rfl, hw⟩ := hw
      obtain ⟨σ_12, rfl⟩ : ∃ z, z = τ_ := ⟨_, rfl⟩
      refine go_aload_n C 0 rfl rfl dX12_begins_35 ?_
      refine go_callV (as := []) C hR (shX12 G) (ltX12 hN) cwX12_306 (Nat.le_trans (by decide) hd) (by decide) rfl rfl (Nat.le_of_ble_eq_true rfl) dX12_begins_36 (spX12_next (Nat.le_refl _) hN hw) (fun v_ τ_ hw => ?_)
      obtain ⟨rfl, hw⟩ := hw
      obtain ⟨σ_14, rfl⟩ : ∃ z, z = τ_ := ⟨_, rfl⟩
      refine go_aload_n C 0 rfl rfl dX12_begins_39 ?_
      refine go_callV (as := []) C hR (shX12 G) (ltX12 hN) cwX12_331 (Nat.le_trans (by decide) hd) (by decide) rfl rfl (Nat.le_of_ble_eq_true rfl) dX12_begins_40 (spX12_oneIsOver (Nat.le_refl _) hN hw) (fun v_ τ_ hw => ?_)
      obtain ⟨rfl, hw⟩ := hw
      obtain ⟨σ_16, rfl⟩ : ∃ z, z = τ_ := ⟨_, rfl⟩
      refine go_goto C 198 rfl dX12_begins_43 ?_
      exact go_vret C hr ⟨rfl, hw⟩ dX12_begins_198
    · replace hw := hw.2 hc
      refine go_aload_n C 0 rfl rfl dX12_begins_18 ?_
      refine go_iconst (v := 2) C rfl dX12_begins_19 ?_
      refine go_callV (as := [.int 2]) C hR (shX12 G) (ltX12 hN) cwX12_300 (Nat.le_trans (by decide) hd) (by decide) rfl rfl (Nat.le_of_ble_eq_true rfl) dX12_begins_20 (spX12_errs (Nat.le_refl _) hN hw) (fun v_ τ_ hw => ?_)
      obtain ⟨rfl, hw⟩ := hw
      obtain ⟨σ_18, rfl⟩ : ∃ z, z = τ_ := ⟨_, rfl⟩
      exact go_vret C hr ⟨rfl, hw⟩ dX12_begins_23
-- CradleNamesModel.askIsOver()V
set_option maxRecDepth 20000 in
set_option maxHeartbeats 4000000 in
theorem gbX12_askIsOver_0 {X : XT} {G : GT} {l : Launch} {d : Nat}  {post : St → Prop} (C : Cx X G cX12_askIsOver RX12) (hr : Rt X G none (fun v τ => v = none ∧ post τ)) (hR : Rm X l d) (hnl : X.2.2.2.2.2.2.2.2.2.2.1 = 1)  (hd : 2 ≤ d) (hN : 119 ≤ G.2.2.2.2.2)   
    : ∀ (n : Nat) (σ : St), wbX12_askIsOver_0   post n σ → Go X G 0 [(0, .ref (G.2.2.1 75))] [] σ := by
  intro n
  induction n with
  | zero => intro σ hw; exact hw.elim
  | succ n ih =>
    intro σ hw
    have hw : wpX12_top  σ (fun r_1 σ_2 =>
    ((¬ r_1 = 3 →
      ∀ σ_3 : St, σ_3 = sI σ_2 75 29 3 →
      post σ_3) ∧
    (r_1 = 3 →
      ∀ σ_4 : St, σ_4 = sI σ_2 75 22 ((gI σ_2 75 22) - 1) →
      ∀ σ_5 : St, σ_5 = sI σ_4 75 21 ((gI σ_4 75 21) - 1) →
      wpX12_emits 405 0 σ_5 (fun σ_7 =>
      wbX12_askIsOver_0 post n σ_7)))) := hw
    refine go_aload_n C 0 rfl rfl dX12_askIsOver_0 ?_
    refine go_callV (as := []) C hR (shX12 G) (ltX12 hN) cwX12_340 (Nat.le_trans (by decide) hd) (by decide) rfl rfl (Nat.le_of_ble_eq_true rfl) dX12_askIsOver_1 (spX12_top (Nat.le_refl _) hN hw) (fun v_ τ_ hw => ?_)
    obtain ⟨r_1, rfl, hw⟩ := hw
    obtain ⟨σ_2, rfl⟩ : ∃ z, z = τ_ := ⟨_, rfl⟩
    refine go_iconst (v := 3) C rfl dX12_askIsOver_4 ?_
    refine go_icmp_ne C 39 rfl dX12_askIsOver_5 (fun hc => ?_) (fun hc => ?_)
    · replace hw := hw.1 hc
      refine go_aload_n C 0 rfl rfl dX12_askIsOver_39 ?_
      refine go_iconst (v := 3) C rfl dX12_askIsOver_40 ?_
      refine go_puti C (shX12 G) (ltX12 hN) lpX12_328 (show 29 < 64 by decide) (pxX12_29 G _ _) dX12_askIsOver_41 (go_nm fun σ_3 eσ_3 => ?_)
      replace hw := hw σ_3 eσ_3
      exact go_vret C hr ⟨rfl, hw⟩ dX12_askIsOver_44
    · replace hw := hw.2 hc
      refine go_aload_n C 0 rfl rfl dX12_askIsOver_8 ?_
      refine go_dup C rfl dX12_askIsOver_9 ?_
      refine go_get (v := .int (gI σ_2 75 22)) C (shX12 G) (ltX12 hN) lkX12_294 rfl dX12_askIsOver_10 ?_
      refine go_iconst (v := 1) C rfl dX12_askIsOver_13 ?_
      refine go_isub C dX12_askIsOver_14 ?_
      refine go_puti C (shX12 G) (ltX12 hN) lpX12_294 (show 22 < 64 by decide) (pxX12_22 G _ _) dX12_askIsOver_15 (go_nm fun σ_4 eσ_4 => ?_)
      replace hw := hw σ_4 eσ_4
      refine go_aload_n C 0 rfl rfl dX12_askIsOver_18 ?_
      refine go_dup C rfl dX12_askIsOver_19 ?_
      refine go_get (v := .int (gI σ_4 75 21)) C (shX12 G) (ltX12 hN) lkX12_297 rfl dX12_askIsOver_20 ?_
      refine go_iconst (v := 1) C rfl dX12_askIsOver_23 ?_
      refine go_isub C dX12_askIsOver_24 ?_
      refine go_puti C (shX12 G) (ltX12 hN) lpX12_297 (show 21 < 64 by decide) (pxX12_21 G _ _) dX12_askIsOver_25 (go_nm fun σ_5 eσ_5 => ?_)
      replace hw := hw σ_5 eσ_5
      refine go_aload_n C 0 rfl rfl dX12_askIsOver_28 ?_
      refine go_sipush (v := 405) C rfl dX12_askIsOver_29 ?_
      refine go_iconst (v := 0) C rfl dX12_askIsOver_32 ?_
      refine go_callV (as := [.int 405, .int 0]) C hR (shX12 G) (ltX12 hN) cwX12_315 (Nat.le_trans (by decide) hd) (by decide) rfl rfl (Nat.le_of_ble_eq_true rfl) dX12_askIsOver_33 (spX12_emits (Nat.le_refl _) hN hw) (fun v_ τ_ hw => ?_)
      obtain ⟨rfl, hw⟩ := hw
      obtain ⟨σ_7, rfl⟩ : ∃ z, z = τ_ := ⟨_, rfl⟩
      refine go_goto C 0 rfl dX12_askIsOver_36 ?_
      exact ih _ hw
set_option maxRecDepth 20000 in
set_option maxHeartbeats 4000000 in
theorem spX12_askIsOver {l : Launch} {G : GT} {d : Nat}  (hd : 2 ≤ d)  (hN : 119 ≤ G.2.2.2.2.2)   {σ : St} {post : St → Prop} (hw : wpX12_askIsOver   σ post) : Sp l G d yX12_askIsOver cX12_askIsOver 1 none [.ref (G.2.2.1 75)] σ (fun v τ => v = none ∧ post τ) := by
  refine Sp.of (by decide) (Nat.le_of_ble_eq_true rfl) fun X C hr hR hnl => ?_
  show Go X G 0 [(0, .ref (G.2.2.1 75))] [] σ
  have hw : ∃ m_0, wbX12_askIsOver_0 post m_0 σ := hw
  obtain ⟨n_0, hw⟩ := hw
  exact (gbX12_askIsOver_0 C hr hR hnl hd hN) n_0 _ hw
-- CradleNamesModel.isAsking(I)Z
set_option maxRecDepth 20000 in
set_option maxHeartbeats 4000000 in
theorem spX12_isAsking {l : Launch} {G : GT} {d : Nat}  (hd : 1 ≤ d)  (hN : 119 ≤ G.2.2.2.2.2)  {a1 : Int32} {σ : St} {post : Int32 → St → Prop} (hw : wpX12_isAsking  a1 σ post) : Sp l G d yX12_isAsking cX12_isAsking 1 (some .boolean) [.int a1] σ (fun v τ => ∃ r : Int32, v = some (.int r) ∧ post r τ) := by
  refine Sp.of (by decide) (Nat.le_of_ble_eq_true rfl) fun X C hr hR hnl => ?_
  show Go X G 0 [(0, .int a1)] [] σ
  have hw : ((a1 = 60 →
    post 1 σ) ∧
  (¬ a1 = 60 →
    ((a1 = 62 →
      post 1 σ) ∧
    (¬ a1 = 62 →
      ((a1 = 61 →
        post 1 σ) ∧
      (¬ a1 = 61 →
        ((a1 = 35 →
          post 1 σ) ∧
        (¬ a1 = 35 →
          ((a1 = 300 →
            post 1 σ) ∧
          (¬ a1 = 300 →
            ((¬ a1 = 301 →
              post 0 σ) ∧
            (a1 = 301 →
              post 1 σ)))))))))))) := hw
  refine go_iload_n C 0 rfl rfl dX12_isAsking_0 ?_
  refine go_bipush (v := 60) C rfl dX12_isAsking_1 ?_
  refine go_icmp_eq C 38 rfl dX12_isAsking_3 (fun hc => ?_) (fun hc => ?_)
  · replace hw := hw.1 hc
    refine go_iconst (v := 1) C rfl dX12_isAsking_38 ?_
    refine go_goto C 43 rfl dX12_isAsking_39 ?_
    exact go_zret C hr rfl ⟨_, rfl, hw⟩ dX12_isAsking_43
  · replace hw := hw.2 hc
    refine go_iload_n C 0 rfl rfl dX12_isAsking_6 ?_
    refine go_bipush (v := 62) C rfl dX12_isAsking_7 ?_
    refine go_icmp_eq C 38 rfl dX12_isAsking_9 (fun hc => ?_) (fun hc => ?_)
    · replace hw := hw.1 hc
      refine go_iconst (v := 1) C rfl dX12_isAsking_38 ?_
      refine go_goto C 43 rfl dX12_isAsking_39 ?_
      exact go_zret C hr rfl ⟨_, rfl, hw⟩ dX12_isAsking_43
    · replace hw := hw.2 hc
      refine go_iload_n C 0 rfl rfl dX12_isAsking_12 ?_
      refine go_bipush (v := 61) C rfl dX12_isAsking_13 ?_
      refine go_icmp_eq C 38 rfl dX12_isAsking_15 (fun hc => ?_) (fun hc => ?_)
      · replace hw := hw.1 hc
        refine go_iconst (v := 1) C rfl dX12_isAsking_38 ?_
        refine go_goto C 43 rfl dX12_isAsking_39 ?_
        exact go_zret C hr rfl ⟨_, rfl, hw⟩ dX12_isAsking_43
      · replace hw := hw.2 hc
        refine go_iload_n C 0 rfl rfl dX12_isAsking_18 ?_
        refine go_bipush (v := 35) C rfl dX12_isAsking_19 ?_
        refine go_icmp_eq C 38 rfl dX12_isAsking_21 (fun hc => ?_) (fun hc => ?_)
        · replace hw := hw.1 hc
          refine go_iconst (v := 1) C rfl dX12_isAsking_38 ?_
          refine go_goto C 43 rfl dX12_isAsking_39 ?_
          exact go_zret C hr rfl ⟨_, rfl, hw⟩ dX12_isAsking_43
        · replace hw := hw.2 hc
          refine go_iload_n C 0 rfl rfl dX12_isAsking_24 ?_
          refine go_sipush (v := 300) C rfl dX12_isAsking_25 ?_
          refine go_icmp_eq C 38 rfl dX12_isAsking_28 (fun hc => ?_) (fun hc => ?_)
          · replace hw := hw.1 hc
            refine go_iconst (v := 1) C rfl dX12_isAsking_38 ?_
            refine go_goto C 43 rfl dX12_isAsking_39 ?_
            exact go_zret C hr rfl ⟨_, rfl, hw⟩ dX12_isAsking_43
          · replace hw := hw.2 hc
            refine go_iload_n C 0 rfl rfl dX12_isAsking_31 ?_
            refine go_sipush (v := 301) C rfl dX12_isAsking_32 ?_
            refine go_icmp_ne C 42 rfl dX12_isAsking_35 (fun hc => ?_) (fun hc => ?_)
            · replace hw := hw.1 hc
              refine go_iconst (v := 0) C rfl dX12_isAsking_42 ?_
              exact go_zret C hr rfl ⟨_, rfl, hw⟩ dX12_isAsking_43
            · replace hw := hw.2 hc
              refine go_iconst (v := 1) C rfl dX12_isAsking_38 ?_
              refine go_goto C 43 rfl dX12_isAsking_39 ?_
              exact go_zret C hr rfl ⟨_, rfl, hw⟩ dX12_isAsking_43
-- CradleNamesModel.clauseIsOver()V
set_option maxRecDepth 20000 in
set_option maxHeartbeats 4000000 in
theorem spX12_clauseIsOver {l : Launch} {G : GT} {d : Nat}  (hd : 4 ≤ d)  (hN : 119 ≤ G.2.2.2.2.2)   {σ : St} {post : St → Prop} (hw : wpX12_clauseIsOver   σ post) : Sp l G d yX12_clauseIsOver cX12_clauseIsOver 1 none [.ref (G.2.2.1 75)] σ (fun v τ => v = none ∧ post τ) := by
  refine Sp.of (by decide) (Nat.le_of_ble_eq_true rfl) fun X C hr hR hnl => ?_
  show Go X G 0 [(0, .ref (G.2.2.1 75))] [] σ
  have hw : wpX12_works 1 σ (fun σ_2 =>
  ∀ σ_3 : St, σ_3 = sI σ_2 75 22 0 →
  wpX12_emits 408 0 σ_3 (fun σ_5 =>
  ∀ σ_6 : St, σ_6 = sI σ_5 75 30 ((gI σ_5 75 30) + 1) →
  wpX12_next  σ_6 (fun σ_8 =>
  ∀ σ_9 : St, σ_9 = sI σ_8 75 29 4 →
  post σ_9))) := hw
  refine go_aload_n C 0 rfl rfl dX12_clauseIsOver_0 ?_
  refine go_iconst (v := 1) C rfl dX12_clauseIsOver_1 ?_
  refine go_callV (as := [.int 1]) C hR (shX12 G) (ltX12 hN) cwX12_319 (Nat.le_trans (by decide) hd) (by decide) rfl rfl (Nat.le_of_ble_eq_true rfl) dX12_clauseIsOver_2 (spX12_works (Nat.le_refl _) hN hw) (fun v_ τ_ hw => ?_)
  obtain ⟨rfl, hw⟩ := hw
  obtain ⟨σ_2, rfl⟩ : ∃ z, z = τ_ := ⟨_, rfl⟩
  refine go_aload_n C 0 rfl rfl dX12_clauseIsOver_5 ?_
  refine go_iconst (v := 0) C rfl dX12_clauseIsOver_6 ?_
  refine go_puti C (shX12 G) (ltX12 hN) lpX12_294 (show 22 < 64 by decide) (pxX12_22 G _ _) dX12_clauseIsOver_7 (go_nm fun σ_3 eσ_3 => ?_)
  replace hw := hw σ_3 eσ_3
  refine go_aload_n C 0 rfl rfl dX12_clauseIsOver_10 ?_
  refine go_sipush (v := 408) C rfl dX12_clauseIsOver_11 ?_
  refine go_iconst (v := 0) C rfl dX12_clauseIsOver_14 ?_
  refine go_callV (as := [.int 408, .int 0]) C hR (shX12 G) (ltX12 hN) cwX12_315 (Nat.le_trans (by decide) hd) (by decide) rfl rfl (Nat.le_of_ble_eq_true rfl) dX12_clauseIsOver_15 (spX12_emits (Nat.le_refl _) hN hw) (fun v_ τ_ hw => ?_)
  obtain ⟨rfl, hw⟩ := hw
  obtain ⟨σ_5, rfl⟩ : ∃ z, z = τ_ := ⟨_, rfl⟩
  refine go_aload_n C 0 rfl rfl dX12_clauseIsOver_18 ?_
  refine go_dup C rfl dX12_clauseIsOver_19 ?_
  refine go_get (v := .int (gI σ_5 75 30)) C (shX12 G) (ltX12 hN) lkX12_356 rfl dX12_clauseIsOver_20 ?_
  refine go_iconst (v := 1) C rfl dX12_clauseIsOver_23 ?_
  refine go_iadd C dX12_clauseIsOver_24 ?_
  refine go_puti C (shX12 G) (ltX12 hN) lpX12_356 (show 30 < 64 by decide) (pxX12_30 G _ _) dX12_clauseIsOver_25 (go_nm fun σ_6 eσ_6 => ?_)
  replace hw := hw σ_6 eσ_6
  refine go_aload_n C 0 rfl rfl dX12_clauseIsOver_28 ?_
  refine go_callV (as := []) C hR (shX12 G) (ltX12 hN) cwX12_306 (Nat.le_trans (by decide) hd) (by decide) rfl rfl (Nat.le_of_ble_eq_true rfl) dX12_clauseIsOver_29 (spX12_next (Nat.le_refl _) hN hw) (fun v_ τ_ hw => ?_)
  obtain ⟨rfl, hw⟩ := hw
  obtain ⟨σ_8, rfl⟩ : ∃ z, z = τ_ := ⟨_, rfl⟩
  refine go_aload_n C 0 rfl rfl dX12_clauseIsOver_32 ?_
  refine go_iconst (v := 4) C rfl dX12_clauseIsOver_33 ?_
  refine go_puti C (shX12 G) (ltX12 hN) lpX12_328 (show 29 < 64 by decide) (pxX12_29 G _ _) dX12_clauseIsOver_34 (go_nm fun σ_9 eσ_9 => ?_)
  replace hw := hw σ_9 eσ_9
  exact go_vret C hr ⟨rfl, hw⟩ dX12_clauseIsOver_37
-- CradleNamesModel.goesOn()V
set_option maxRecDepth 20000 in
set_option maxHeartbeats 4000000 in
theorem gbX12_goesOn_332 {X : XT} {G : GT} {l : Launch} {d : Nat}  {post : St → Prop} (C : Cx X G cX12_goesOn RX12) (hr : Rt X G none (fun v τ => v = none ∧ post τ)) (hR : Rm X l d) (hnl : X.2.2.2.2.2.2.2.2.2.2.1 = 3)  (hd : 5 ≤ d) (hN : 119 ≤ G.2.2.2.2.2)   
    : ∀ (σ : St), wbX12_goesOn_332   post σ → Go X G 332 [(0, .ref (G.2.2.1 75))] [] σ := by
  intro σ hw
  have hw : wpX12_errs 1 σ (fun σ_2 =>
  post σ_2) := hw
  refine go_aload_n C 0 rfl rfl dX12_goesOn_332 ?_
  refine go_iconst (v := 1) C rfl dX12_goesOn_333 ?_
  refine go_callV (as := [.int 1]) C hR (shX12 G) (ltX12 hN) cwX12_300 (Nat.le_trans (by decide) hd) (by decide) rfl rfl (Nat.le_of_ble_eq_true rfl) dX12_goesOn_334 (spX12_errs (Nat.le_refl _) hN hw) (fun v_ τ_ hw => ?_)
  obtain ⟨rfl, hw⟩ := hw
  obtain ⟨σ_2, rfl⟩ : ∃ z, z = τ_ := ⟨_, rfl⟩
  exact go_vret C hr ⟨rfl, hw⟩ dX12_goesOn_337
set_option maxRecDepth 20000 in
set_option maxHeartbeats 4000000 in
theorem gbX12_goesOn_268 {X : XT} {G : GT} {l : Launch} {d : Nat}  {post : St → Prop} (C : Cx X G cX12_goesOn RX12) (hr : Rt X G none (fun v τ => v = none ∧ post τ)) (hR : Rm X l d) (hnl : X.2.2.2.2.2.2.2.2.2.2.1 = 3)  (hd : 5 ≤ d) (hN : 119 ≤ G.2.2.2.2.2)   
    : ∀ (v1 : Int32) (σ : St), wbX12_goesOn_268   post v1 σ → Go X G 268 [(0, .ref (G.2.2.1 75)), (1, .int v1)] [] σ := by
  intro v1 σ hw
  have hw : ((¬ v1 = 5 →
    ((¬ v1 = 1 →
      wbX12_goesOn_332 post σ) ∧
    (v1 = 1 →
      wpX12_isSign 59 σ (fun r_1 σ_2 =>
      ((r_1 = 0 →
        wbX12_goesOn_332 post σ_2) ∧
      (¬ r_1 = 0 →
        wpX12_clauseIsOver  σ_2 (fun σ_4 =>
        post σ_4))))))) ∧
  (v1 = 5 →
    wpX12_works 3 σ (fun σ_6 =>
    vp_in (gI σ_6 75 22) 41 ∧ (
    ∀ v2_7 : Int32, v2_7 = (gI σ_6 89 (gI σ_6 75 22).toNatClampNeg) →
    ∀ σ_8 : St, σ_8 = sI σ_6 75 22 ((gI σ_6 75 22) - 1) →
    wpX12_emits v2_7 0 σ_8 (fun σ_10 =>
    wpX12_askIsOver  σ_10 (fun σ_12 =>
    post σ_12)))))) := hw
  refine go_iload_n C 1 rfl rfl dX12_goesOn_268 ?_
  refine go_iconst (v := 5) C rfl dX12_goesOn_269 ?_
  refine go_icmp_ne C 311 rfl dX12_goesOn_270 (fun hc => ?_) (fun hc => ?_)
  · replace hw := hw.1 hc
    refine go_iload_n C 1 rfl rfl dX12_goesOn_311 ?_
    refine go_iconst (v := 1) C rfl dX12_goesOn_312 ?_
    refine go_icmp_ne C 332 rfl dX12_goesOn_313 (fun hc => ?_) (fun hc => ?_)
    · replace hw := hw.1 hc
      refine go_sub [0] rfl ?_
      exact (gbX12_goesOn_332 C hr hR hnl hd hN) _ hw
    · replace hw := hw.2 hc
      refine go_aload_n C 0 rfl rfl dX12_goesOn_316 ?_
      refine go_bipush (v := 59) C rfl dX12_goesOn_317 ?_
      refine go_callV (as := [.int 59]) C hR (shX12 G) (ltX12 hN) cwX12_337 (Nat.le_trans (by decide) hd) (by decide) rfl rfl (Nat.le_of_ble_eq_true rfl) dX12_goesOn_319 (spX12_isSign (Nat.le_refl _) hN hw) (fun v_ τ_ hw => ?_)
      obtain ⟨r_1, rfl, hw⟩ := hw
      obtain ⟨σ_2, rfl⟩ : ∃ z, z = τ_ := ⟨_, rfl⟩
      refine go_if_eq C 332 rfl dX12_goesOn_322 (fun hc => ?_) (fun hc => ?_)
      · replace hw := hw.1 hc
        refine go_sub [0] rfl ?_
        exact (gbX12_goesOn_332 C hr hR hnl hd hN) _ hw
      · replace hw := hw.2 hc
        refine go_aload_n C 0 rfl rfl dX12_goesOn_325 ?_
        refine go_callV (as := []) C hR (shX12 G) (ltX12 hN) cwX12_353 (Nat.le_trans (by decide) hd) (by decide) rfl rfl (Nat.le_of_ble_eq_true rfl) dX12_goesOn_326 (spX12_clauseIsOver (Nat.le_refl _) hN hw) (fun v_ τ_ hw => ?_)
        obtain ⟨rfl, hw⟩ := hw
        obtain ⟨σ_4, rfl⟩ : ∃ z, z = τ_ := ⟨_, rfl⟩
        refine go_goto C 337 rfl dX12_goesOn_329 ?_
        exact go_vret C hr ⟨rfl, hw⟩ dX12_goesOn_337
  · replace hw := hw.2 hc
    refine go_aload_n C 0 rfl rfl dX12_goesOn_273 ?_
    refine go_iconst (v := 3) C rfl dX12_goesOn_274 ?_
    refine go_callV (as := [.int 3]) C hR (shX12 G) (ltX12 hN) cwX12_319 (Nat.le_trans (by decide) hd) (by decide) rfl rfl (Nat.le_of_ble_eq_true rfl) dX12_goesOn_275 (spX12_works (Nat.le_refl _) hN hw) (fun v_ τ_ hw => ?_)
    obtain ⟨rfl, hw⟩ := hw
    obtain ⟨σ_6, rfl⟩ : ∃ z, z = τ_ := ⟨_, rfl⟩
    refine go_aload_n C 0 rfl rfl dX12_goesOn_278 ?_
    refine go_get (v := .ref (G.2.2.1 89)) C (shX12 G) (ltX12 hN) lkX12_58 rfl dX12_goesOn_279 ?_
    refine go_aload_n C 0 rfl rfl dX12_goesOn_282 ?_
    refine go_get (v := .int (gI σ_6 75 22)) C (shX12 G) (ltX12 hN) lkX12_294 rfl dX12_goesOn_283 ?_
    refine go_iald C (saX12_compare G) (laX12_compare hN) hw.1 dX12_goesOn_286 ?_
    replace hw := hw.2
    refine go_topi (fun v2_7 ev2_7 => ?_)
    replace hw := hw v2_7 ev2_7
    refine go_istore_n (lv2 := [(2, .int v2_7), (0, .ref (G.2.2.1 75)), (1, .int v1)]) C rfl (by rw [hnl]; decide) rfl dX12_goesOn_287 ?_
    refine go_aload_n C 1 rfl rfl dX12_goesOn_288 ?_
    refine go_dup C rfl dX12_goesOn_289 ?_
    refine go_get (v := .int (gI σ_6 75 22)) C (shX12 G) (ltX12 hN) lkX12_294 rfl dX12_goesOn_290 ?_
    refine go_iconst (v := 1) C rfl dX12_goesOn_293 ?_
    refine go_isub C dX12_goesOn_294 ?_
    refine go_puti C (shX12 G) (ltX12 hN) lpX12_294 (show 22 < 64 by decide) (pxX12_22 G _ _) dX12_goesOn_295 (go_nm fun σ_8 eσ_8 => ?_)
    replace hw := hw σ_8 eσ_8
    refine go_aload_n C 1 rfl rfl dX12_goesOn_298 ?_
    refine go_iload_n C 0 rfl rfl dX12_goesOn_299 ?_
    refine go_iconst (v := 0) C rfl dX12_goesOn_300 ?_
    refine go_callV (as := [.int v2_7, .int 0]) C hR (shX12 G) (ltX12 hN) cwX12_315 (Nat.le_trans (by decide) hd) (by decide) rfl rfl (Nat.le_of_ble_eq_true rfl) dX12_goesOn_301 (spX12_emits (Nat.le_refl _) hN hw) (fun v_ τ_ hw => ?_)
    obtain ⟨rfl, hw⟩ := hw
    obtain ⟨σ_10, rfl⟩ : ∃ z, z = τ_ := ⟨_, rfl⟩
    refine go_aload_n C 1 rfl rfl dX12_goesOn_304 ?_
    refine go_callV (as := []) C hR (shX12 G) (ltX12 hN) cwX12_350 (Nat.le_trans (by decide) hd) (by decide) rfl rfl (Nat.le_of_ble_eq_true rfl) dX12_goesOn_305 (spX12_askIsOver (Nat.le_refl _) hN hw) (fun v_ τ_ hw => ?_)
    obtain ⟨rfl, hw⟩ := hw
    obtain ⟨σ_12, rfl⟩ : ∃ z, z = τ_ := ⟨_, rfl⟩
    refine go_goto C 337 rfl dX12_goesOn_308 ?_
    exact go_vret C hr ⟨rfl, hw⟩ dX12_goesOn_337
set_option maxRecDepth 20000 in
set_option maxHeartbeats 4000000 in
theorem gbX12_goesOn_143 {X : XT} {G : GT} {l : Launch} {d : Nat}  {post : St → Prop} (C : Cx X G cX12_goesOn RX12) (hr : Rt X G none (fun v τ => v = none ∧ post τ)) (hR : Rm X l d) (hnl : X.2.2.2.2.2.2.2.2.2.2.1 = 3)  (hd : 5 ≤ d) (hN : 119 ≤ G.2.2.2.2.2)  {K147 : St → Prop} (hK147 : ∀ (σ : St), K147 σ → Go X G 147 [(0, .ref (G.2.2.1 75))] [] σ)
    : ∀ (s0 : Int32) (σ : St), wbX12_goesOn_143  K147 post s0 σ → Go X G 143 [(0, .ref (G.2.2.1 75))] [.int s0, .ref (G.2.2.1 75)] σ := by
  intro s0 σ hw
  have hw : wpX12_emits s0 0 σ (fun σ_2 =>
  K147 σ_2) := hw
  refine go_iconst (v := 0) C rfl dX12_goesOn_143 ?_
  refine go_callV (as := [.int s0, .int 0]) C hR (shX12 G) (ltX12 hN) cwX12_315 (Nat.le_trans (by decide) hd) (by decide) rfl rfl (Nat.le_of_ble_eq_true rfl) dX12_goesOn_144 (spX12_emits (Nat.le_refl _) hN hw) (fun v_ τ_ hw => ?_)
  obtain ⟨rfl, hw⟩ := hw
  obtain ⟨σ_2, rfl⟩ : ∃ z, z = τ_ := ⟨_, rfl⟩
  exact hK147 _ hw
set_option maxRecDepth 20000 in
set_option maxHeartbeats 4000000 in
theorem gbX12_goesOn_147 {X : XT} {G : GT} {l : Launch} {d : Nat}  {post : St → Prop} (C : Cx X G cX12_goesOn RX12) (hr : Rt X G none (fun v τ => v = none ∧ post τ)) (hR : Rm X l d) (hnl : X.2.2.2.2.2.2.2.2.2.2.1 = 3)  (hd : 5 ≤ d) (hN : 119 ≤ G.2.2.2.2.2)   
    : ∀ (σ : St), wbX12_goesOn_147   post σ → Go X G 147 [(0, .ref (G.2.2.1 75))] [] σ := by
  intro σ hw
  have hw : wpX12_next  σ (fun σ_2 =>
  wpX12_oneIsOver  σ_2 (fun σ_4 =>
  post σ_4)) := hw
  refine go_aload_n C 0 rfl rfl dX12_goesOn_147 ?_
  refine go_callV (as := []) C hR (shX12 G) (ltX12 hN) cwX12_306 (Nat.le_trans (by decide) hd) (by decide) rfl rfl (Nat.le_of_ble_eq_true rfl) dX12_goesOn_148 (spX12_next (Nat.le_refl _) hN hw) (fun v_ τ_ hw => ?_)
  obtain ⟨rfl, hw⟩ := hw
  obtain ⟨σ_2, rfl⟩ : ∃ z, z = τ_ := ⟨_, rfl⟩
  refine go_aload_n C 0 rfl rfl dX12_goesOn_151 ?_
  refine go_callV (as := []) C hR (shX12 G) (ltX12 hN) cwX12_331 (Nat.le_trans (by decide) hd) (by decide) rfl rfl (Nat.le_of_ble_eq_true rfl) dX12_goesOn_152 (spX12_oneIsOver (Nat.le_refl _) hN hw) (fun v_ τ_ hw => ?_)
  obtain ⟨rfl, hw⟩ := hw
  obtain ⟨σ_4, rfl⟩ : ∃ z, z = τ_ := ⟨_, rfl⟩
  refine go_goto C 337 rfl dX12_goesOn_155 ?_
  exact go_vret C hr ⟨rfl, hw⟩ dX12_goesOn_337
set_option maxRecDepth 20000 in
set_option maxHeartbeats 4000000 in
theorem gbX12_goesOn_203 {X : XT} {G : GT} {l : Launch} {d : Nat}  {post : St → Prop} (C : Cx X G cX12_goesOn RX12) (hr : Rt X G none (fun v τ => v = none ∧ post τ)) (hR : Rm X l d) (hnl : X.2.2.2.2.2.2.2.2.2.2.1 = 3)  (hd : 5 ≤ d) (hN : 119 ≤ G.2.2.2.2.2)   
    : ∀ (v1 : Int32) (σ : St), wbX12_goesOn_203   post v1 σ → Go X G 203 [(0, .ref (G.2.2.1 75)), (1, .int v1)] [] σ := by
  intro v1 σ hw
  have hw : ((¬ v1 = 4 →
    wbX12_goesOn_268 post v1 σ) ∧
  (v1 = 4 →
    ((¬ (gI σ 75 17) = 3 →
      wbX12_goesOn_268 post v1 σ) ∧
    ((gI σ 75 17) = 3 →
      wpX12_isAsking (gI σ 75 18) σ (fun r_1 σ_2 =>
      ((r_1 = 0 →
        wbX12_goesOn_268 post v1 σ_2) ∧
      (¬ r_1 = 0 →
        wpX12_works 3 σ_2 (fun σ_4 =>
        vp_in (gI σ_4 75 22) 41 ∧ (
        ∀ σ_5 : St, σ_5 = sI σ_4 89 (gI σ_4 75 22).toNatClampNeg (gI σ_4 75 18) →
        vp_in ((gI σ_5 75 22) - 1) 40 ∧ (
        ∀ σ_6 : St, σ_6 = sI σ_5 87 ((gI σ_5 75 22) - 1).toNatClampNeg 5 →
        wpX12_next  σ_6 (fun σ_8 =>
        ∀ σ_9 : St, σ_9 = sI σ_8 75 29 1 →
        post σ_9))))))))))) := hw
  refine go_iload_n C 1 rfl rfl dX12_goesOn_203 ?_
  refine go_iconst (v := 4) C rfl dX12_goesOn_204 ?_
  refine go_icmp_ne C 268 rfl dX12_goesOn_205 (fun hc => ?_) (fun hc => ?_)
  · replace hw := hw.1 hc
    exact (gbX12_goesOn_268 C hr hR hnl hd hN) _ _ hw
  · replace hw := hw.2 hc
    refine go_aload_n C 0 rfl rfl dX12_goesOn_208 ?_
    refine go_get (v := .int (gI σ 75 17)) C (shX12 G) (ltX12 hN) lkX12_270 rfl dX12_goesOn_209 ?_
    refine go_iconst (v := 3) C rfl dX12_goesOn_212 ?_
    refine go_icmp_ne C 268 rfl dX12_goesOn_213 (fun hc => ?_) (fun hc => ?_)
    · replace hw := hw.1 hc
      exact (gbX12_goesOn_268 C hr hR hnl hd hN) _ _ hw
    · replace hw := hw.2 hc
      refine go_aload_n C 0 rfl rfl dX12_goesOn_216 ?_
      refine go_get (v := .int (gI σ 75 18)) C (shX12 G) (ltX12 hN) lkX12_281 rfl dX12_goesOn_217 ?_
      refine go_callS (as := [.int (gI σ 75 18)]) C hR cwX12_347 (Nat.le_trans (by decide) hd) (by decide) rfl rfl (Nat.le_of_ble_eq_true rfl) dX12_goesOn_220 (spX12_isAsking (Nat.le_refl _) hN hw) (fun v_ τ_ hw => ?_)
      obtain ⟨r_1, rfl, hw⟩ := hw
      obtain ⟨σ_2, rfl⟩ : ∃ z, z = τ_ := ⟨_, rfl⟩
      refine go_if_eq C 268 rfl dX12_goesOn_223 (fun hc => ?_) (fun hc => ?_)
      · replace hw := hw.1 hc
        exact (gbX12_goesOn_268 C hr hR hnl hd hN) _ _ hw
      · replace hw := hw.2 hc
        refine go_aload_n C 0 rfl rfl dX12_goesOn_226 ?_
        refine go_iconst (v := 3) C rfl dX12_goesOn_227 ?_
        refine go_callV (as := [.int 3]) C hR (shX12 G) (ltX12 hN) cwX12_319 (Nat.le_trans (by decide) hd) (by decide) rfl rfl (Nat.le_of_ble_eq_true rfl) dX12_goesOn_228 (spX12_works (Nat.le_refl _) hN hw) (fun v_ τ_ hw => ?_)
        obtain ⟨rfl, hw⟩ := hw
        obtain ⟨σ_4, rfl⟩ : ∃ z, z = τ_ := ⟨_, rfl⟩
        refine go_aload_n C 0 rfl rfl dX12_goesOn_231 ?_
        refine go_get (v := .ref (G.2.2.1 89)) C (shX12 G) (ltX12 hN) lkX12_58 rfl dX12_goesOn_232 ?_
        refine go_aload_n C 0 rfl rfl dX12_goesOn_235 ?_
        refine go_get (v := .int (gI σ_4 75 22)) C (shX12 G) (ltX12 hN) lkX12_294 rfl dX12_goesOn_236 ?_
        refine go_aload_n C 0 rfl rfl dX12_goesOn_239 ?_
        refine go_get (v := .int (gI σ_4 75 18)) C (shX12 G) (ltX12 hN) lkX12_281 rfl dX12_goesOn_240 ?_
        refine go_iast C (saX12_compare G) (laX12_compare hN) hw.1 dX12_goesOn_243 (go_nm fun σ_5 eσ_5 => ?_)
        replace hw := hw.2 σ_5 eσ_5
        refine go_aload_n C 0 rfl rfl dX12_goesOn_244 ?_
        refine go_get (v := .ref (G.2.2.1 87)) C (shX12 G) (ltX12 hN) lkX12_52 rfl dX12_goesOn_245 ?_
        refine go_aload_n C 0 rfl rfl dX12_goesOn_248 ?_
        refine go_get (v := .int (gI σ_5 75 22)) C (shX12 G) (ltX12 hN) lkX12_294 rfl dX12_goesOn_249 ?_
        refine go_iconst (v := 1) C rfl dX12_goesOn_252 ?_
        refine go_isub C dX12_goesOn_253 ?_
        refine go_iconst (v := 5) C rfl dX12_goesOn_254 ?_
        refine go_iast C (saX12_frame G) (laX12_frame hN) hw.1 dX12_goesOn_255 (go_nm fun σ_6 eσ_6 => ?_)
        replace hw := hw.2 σ_6 eσ_6
        refine go_aload_n C 0 rfl rfl dX12_goesOn_256 ?_
        refine go_callV (as := []) C hR (shX12 G) (ltX12 hN) cwX12_306 (Nat.le_trans (by decide) hd) (by decide) rfl rfl (Nat.le_of_ble_eq_true rfl) dX12_goesOn_257 (spX12_next (Nat.le_refl _) hN hw) (fun v_ τ_ hw => ?_)
        obtain ⟨rfl, hw⟩ := hw
        obtain ⟨σ_8, rfl⟩ : ∃ z, z = τ_ := ⟨_, rfl⟩
        refine go_aload_n C 0 rfl rfl dX12_goesOn_260 ?_
        refine go_iconst (v := 1) C rfl dX12_goesOn_261 ?_
        refine go_puti C (shX12 G) (ltX12 hN) lpX12_328 (show 29 < 64 by decide) (pxX12_29 G _ _) dX12_goesOn_262 (go_nm fun σ_9 eσ_9 => ?_)
        replace hw := hw σ_9 eσ_9
        refine go_goto C 337 rfl dX12_goesOn_265 ?_
        exact go_vret C hr ⟨rfl, hw⟩ dX12_goesOn_337
set_option maxRecDepth 20000 in
set_option maxHeartbeats 4000000 in
theorem gbX12_goesOn_77 {X : XT} {G : GT} {l : Launch} {d : Nat}  {post : St → Prop} (C : Cx X G cX12_goesOn RX12) (hr : Rt X G none (fun v τ => v = none ∧ post τ)) (hR : Rm X l d) (hnl : X.2.2.2.2.2.2.2.2.2.2.1 = 3)  (hd : 5 ≤ d) (hN : 119 ≤ G.2.2.2.2.2)  {K158 : Int32 → St → Prop} (hK158 : ∀ (v1 : Int32) (σ : St), K158 v1 σ → Go X G 158 [(0, .ref (G.2.2.1 75)), (1, .int v1)] [] σ)
    : ∀ (v1 : Int32) (σ : St), wbX12_goesOn_77  K158 post v1 σ → Go X G 77 [(0, .ref (G.2.2.1 75)), (1, .int v1)] [] σ := by
  intro v1 σ hw
  have hw : wpX12_isSign 41 σ (fun r_1 σ_2 =>
  ((r_1 = 0 →
    K158 v1 σ_2) ∧
  (¬ r_1 = 0 →
    wpX12_works 3 σ_2 (fun σ_4 =>
    vp_in (gI σ_4 75 22) 41 ∧ (
    ∀ v2_5 : Int32, v2_5 = (gI σ_4 88 (gI σ_4 75 22).toNatClampNeg) →
    ∀ σ_6 : St, σ_6 = sI σ_4 75 22 ((gI σ_4 75 22) - 1) →
    ∀ σ_7 : St, σ_7 = sI σ_6 75 21 ((gI σ_6 75 21) - 1) →
    ((¬ v1 = 9 →
      wbX12_goesOn_147 post σ_7) ∧
    (v1 = 9 →
      ((¬ v2_5 = 7 →
        wbX12_goesOn_143 (wbX12_goesOn_147 post) post 404 σ_7) ∧
      (v2_5 = 7 →
        wbX12_goesOn_143 (wbX12_goesOn_147 post) post 403 σ_7))))))))) := hw
  refine go_aload_n C 0 rfl rfl dX12_goesOn_77 ?_
  refine go_bipush (v := 41) C rfl dX12_goesOn_78 ?_
  refine go_callV (as := [.int 41]) C hR (shX12 G) (ltX12 hN) cwX12_337 (Nat.le_trans (by decide) hd) (by decide) rfl rfl (Nat.le_of_ble_eq_true rfl) dX12_goesOn_80 (spX12_isSign (Nat.le_refl _) hN hw) (fun v_ τ_ hw => ?_)
  obtain ⟨r_1, rfl, hw⟩ := hw
  obtain ⟨σ_2, rfl⟩ : ∃ z, z = τ_ := ⟨_, rfl⟩
  refine go_if_eq C 158 rfl dX12_goesOn_83 (fun hc => ?_) (fun hc => ?_)
  · replace hw := hw.1 hc
    exact hK158 _ _ hw
  · replace hw := hw.2 hc
    refine go_aload_n C 0 rfl rfl dX12_goesOn_86 ?_
    refine go_iconst (v := 3) C rfl dX12_goesOn_87 ?_
    refine go_callV (as := [.int 3]) C hR (shX12 G) (ltX12 hN) cwX12_319 (Nat.le_trans (by decide) hd) (by decide) rfl rfl (Nat.le_of_ble_eq_true rfl) dX12_goesOn_88 (spX12_works (Nat.le_refl _) hN hw) (fun v_ τ_ hw => ?_)
    obtain ⟨rfl, hw⟩ := hw
    obtain ⟨σ_4, rfl⟩ : ∃ z, z = τ_ := ⟨_, rfl⟩
    refine go_aload_n C 0 rfl rfl dX12_goesOn_91 ?_
    refine go_get (v := .ref (G.2.2.1 88)) C (shX12 G) (ltX12 hN) lkX12_55 rfl dX12_goesOn_92 ?_
    refine go_aload_n C 0 rfl rfl dX12_goesOn_95 ?_
    refine go_get (v := .int (gI σ_4 75 22)) C (shX12 G) (ltX12 hN) lkX12_294 rfl dX12_goesOn_96 ?_
    refine go_iald C (saX12_minOrMax G) (laX12_minOrMax hN) hw.1 dX12_goesOn_99 ?_
    replace hw := hw.2
    refine go_topi (fun v2_5 ev2_5 => ?_)
    replace hw := hw v2_5 ev2_5
    refine go_istore_n (lv2 := [(2, .int v2_5), (0, .ref (G.2.2.1 75)), (1, .int v1)]) C rfl (by rw [hnl]; decide) rfl dX12_goesOn_100 ?_
    refine go_aload_n C 1 rfl rfl dX12_goesOn_101 ?_
    refine go_dup C rfl dX12_goesOn_102 ?_
    refine go_get (v := .int (gI σ_4 75 22)) C (shX12 G) (ltX12 hN) lkX12_294 rfl dX12_goesOn_103 ?_
    refine go_iconst (v := 1) C rfl dX12_goesOn_106 ?_
    refine go_isub C dX12_goesOn_107 ?_
    refine go_puti C (shX12 G) (ltX12 hN) lpX12_294 (show 22 < 64 by decide) (pxX12_22 G _ _) dX12_goesOn_108 (go_nm fun σ_6 eσ_6 => ?_)
    replace hw := hw σ_6 eσ_6
    refine go_aload_n C 1 rfl rfl dX12_goesOn_111 ?_
    refine go_dup C rfl dX12_goesOn_112 ?_
    refine go_get (v := .int (gI σ_6 75 21)) C (shX12 G) (ltX12 hN) lkX12_297 rfl dX12_goesOn_113 ?_
    refine go_iconst (v := 1) C rfl dX12_goesOn_116 ?_
    refine go_isub C dX12_goesOn_117 ?_
    refine go_puti C (shX12 G) (ltX12 hN) lpX12_297 (show 21 < 64 by decide) (pxX12_21 G _ _) dX12_goesOn_118 (go_nm fun σ_7 eσ_7 => ?_)
    replace hw := hw σ_7 eσ_7
    refine go_iload_n C 2 rfl rfl dX12_goesOn_121 ?_
    refine go_bipush (v := 9) C rfl dX12_goesOn_122 ?_
    refine go_icmp_ne C 147 rfl dX12_goesOn_124 (fun hc => ?_) (fun hc => ?_)
    · replace hw := hw.1 hc
      refine go_sub [1] rfl ?_
      exact (gbX12_goesOn_147 C hr hR hnl hd hN) _ hw
    · replace hw := hw.2 hc
      refine go_aload_n C 1 rfl rfl dX12_goesOn_127 ?_
      refine go_iload_n C 0 rfl rfl dX12_goesOn_128 ?_
      refine go_bipush (v := 7) C rfl dX12_goesOn_129 ?_
      refine go_icmp_ne C 140 rfl dX12_goesOn_131 (fun hc => ?_) (fun hc => ?_)
      · replace hw := hw.1 hc
        refine go_sipush (v := 404) C rfl dX12_goesOn_140 ?_
        refine go_sub [1] rfl ?_
        exact (gbX12_goesOn_143 C hr hR hnl hd hN (gbX12_goesOn_147 C hr hR hnl hd hN)) _ _ hw
      · replace hw := hw.2 hc
        refine go_sipush (v := 403) C rfl dX12_goesOn_134 ?_
        refine go_goto C 143 rfl dX12_goesOn_137 ?_
        refine go_sub [1] rfl ?_
        exact (gbX12_goesOn_143 C hr hR hnl hd hN (gbX12_goesOn_147 C hr hR hnl hd hN)) _ _ hw
set_option maxRecDepth 20000 in
set_option maxHeartbeats 4000000 in
theorem gbX12_goesOn_158 {X : XT} {G : GT} {l : Launch} {d : Nat}  {post : St → Prop} (C : Cx X G cX12_goesOn RX12) (hr : Rt X G none (fun v τ => v = none ∧ post τ)) (hR : Rm X l d) (hnl : X.2.2.2.2.2.2.2.2.2.2.1 = 3)  (hd : 5 ≤ d) (hN : 119 ≤ G.2.2.2.2.2)   
    : ∀ (v1 : Int32) (σ : St), wbX12_goesOn_158   post v1 σ → Go X G 158 [(0, .ref (G.2.2.1 75)), (1, .int v1)] [] σ := by
  intro v1 σ hw
  have hw : ((¬ v1 = 8 →
    wbX12_goesOn_203 post v1 σ) ∧
  (v1 = 8 →
    wpX12_isSign 44 σ (fun r_1 σ_2 =>
    ((r_1 = 0 →
      wbX12_goesOn_203 post v1 σ_2) ∧
    (¬ r_1 = 0 →
      wpX12_works 3 σ_2 (fun σ_4 =>
      vp_in ((gI σ_4 75 22) - 1) 40 ∧ (
      ∀ σ_5 : St, σ_5 = sI σ_4 87 ((gI σ_4 75 22) - 1).toNatClampNeg 9 →
      wpX12_next  σ_5 (fun σ_7 =>
      ∀ σ_8 : St, σ_8 = sI σ_7 75 29 1 →
      post σ_8)))))))) := hw
  refine go_iload_n C 1 rfl rfl dX12_goesOn_158 ?_
  refine go_bipush (v := 8) C rfl dX12_goesOn_159 ?_
  refine go_icmp_ne C 203 rfl dX12_goesOn_161 (fun hc => ?_) (fun hc => ?_)
  · replace hw := hw.1 hc
    exact (gbX12_goesOn_203 C hr hR hnl hd hN) _ _ hw
  · replace hw := hw.2 hc
    refine go_aload_n C 0 rfl rfl dX12_goesOn_164 ?_
    refine go_bipush (v := 44) C rfl dX12_goesOn_165 ?_
    refine go_callV (as := [.int 44]) C hR (shX12 G) (ltX12 hN) cwX12_337 (Nat.le_trans (by decide) hd) (by decide) rfl rfl (Nat.le_of_ble_eq_true rfl) dX12_goesOn_167 (spX12_isSign (Nat.le_refl _) hN hw) (fun v_ τ_ hw => ?_)
    obtain ⟨r_1, rfl, hw⟩ := hw
    obtain ⟨σ_2, rfl⟩ : ∃ z, z = τ_ := ⟨_, rfl⟩
    refine go_if_eq C 203 rfl dX12_goesOn_170 (fun hc => ?_) (fun hc => ?_)
    · replace hw := hw.1 hc
      exact (gbX12_goesOn_203 C hr hR hnl hd hN) _ _ hw
    · replace hw := hw.2 hc
      refine go_aload_n C 0 rfl rfl dX12_goesOn_173 ?_
      refine go_iconst (v := 3) C rfl dX12_goesOn_174 ?_
      refine go_callV (as := [.int 3]) C hR (shX12 G) (ltX12 hN) cwX12_319 (Nat.le_trans (by decide) hd) (by decide) rfl rfl (Nat.le_of_ble_eq_true rfl) dX12_goesOn_175 (spX12_works (Nat.le_refl _) hN hw) (fun v_ τ_ hw => ?_)
      obtain ⟨rfl, hw⟩ := hw
      obtain ⟨σ_4, rfl⟩ : ∃ z, z = τ_ := ⟨_, rfl⟩
      refine go_aload_n C 0 rfl rfl dX12_goesOn_178 ?_
      refine go_get (v := .ref (G.2.2.1 87)) C (shX12 G) (ltX12 hN) lkX12_52 rfl dX12_goesOn_179 ?_
      refine go_aload_n C 0 rfl rfl dX12_goesOn_182 ?_
      refine go_get (v := .int (gI σ_4 75 22)) C (shX12 G) (ltX12 hN) lkX12_294 rfl dX12_goesOn_183 ?_
      refine go_iconst (v := 1) C rfl dX12_goesOn_186 ?_
      refine go_isub C dX12_goesOn_187 ?_
      refine go_bipush (v := 9) C rfl dX12_goesOn_188 ?_
      refine go_iast C (saX12_frame G) (laX12_frame hN) hw.1 dX12_goesOn_190 (go_nm fun σ_5 eσ_5 => ?_)
      replace hw := hw.2 σ_5 eσ_5
      refine go_aload_n C 0 rfl rfl dX12_goesOn_191 ?_
      refine go_callV (as := []) C hR (shX12 G) (ltX12 hN) cwX12_306 (Nat.le_trans (by decide) hd) (by decide) rfl rfl (Nat.le_of_ble_eq_true rfl) dX12_goesOn_192 (spX12_next (Nat.le_refl _) hN hw) (fun v_ τ_ hw => ?_)
      obtain ⟨rfl, hw⟩ := hw
      obtain ⟨σ_7, rfl⟩ : ∃ z, z = τ_ := ⟨_, rfl⟩
      refine go_aload_n C 0 rfl rfl dX12_goesOn_195 ?_
      refine go_iconst (v := 1) C rfl dX12_goesOn_196 ?_
      refine go_puti C (shX12 G) (ltX12 hN) lpX12_328 (show 29 < 64 by decide) (pxX12_29 G _ _) dX12_goesOn_197 (go_nm fun σ_8 eσ_8 => ?_)
      replace hw := hw σ_8 eσ_8
      refine go_goto C 337 rfl dX12_goesOn_200 ?_
      exact go_vret C hr ⟨rfl, hw⟩ dX12_goesOn_337
set_option maxRecDepth 20000 in
set_option maxHeartbeats 4000000 in
theorem gbX12_goesOn_49 {X : XT} {G : GT} {l : Launch} {d : Nat}  {post : St → Prop} (C : Cx X G cX12_goesOn RX12) (hr : Rt X G none (fun v τ => v = none ∧ post τ)) (hR : Rm X l d) (hnl : X.2.2.2.2.2.2.2.2.2.2.1 = 3)  (hd : 5 ≤ d) (hN : 119 ≤ G.2.2.2.2.2)   
    : ∀ (σ : St), wbX12_goesOn_49   post σ → Go X G 49 [(0, .ref (G.2.2.1 75))] [] σ := by
  intro σ hw
  have hw : wpX12_waitsFor (gI σ 75 18) σ (fun σ_2 =>
  ∀ σ_3 : St, σ_3 = sI σ_2 75 29 1 →
  post σ_3) := hw
  refine go_aload_n C 0 rfl rfl dX12_goesOn_49 ?_
  refine go_aload_n C 0 rfl rfl dX12_goesOn_50 ?_
  refine go_get (v := .int (gI σ 75 18)) C (shX12 G) (ltX12 hN) lkX12_281 rfl dX12_goesOn_51 ?_
  refine go_callV (as := [.int (gI σ 75 18)]) C hR (shX12 G) (ltX12 hN) cwX12_344 (Nat.le_trans (by decide) hd) (by decide) rfl rfl (Nat.le_of_ble_eq_true rfl) dX12_goesOn_54 (spX12_waitsFor (Nat.le_refl _) hN hw) (fun v_ τ_ hw => ?_)
  obtain ⟨rfl, hw⟩ := hw
  obtain ⟨σ_2, rfl⟩ : ∃ z, z = τ_ := ⟨_, rfl⟩
  refine go_aload_n C 0 rfl rfl dX12_goesOn_57 ?_
  refine go_iconst (v := 1) C rfl dX12_goesOn_58 ?_
  refine go_puti C (shX12 G) (ltX12 hN) lpX12_328 (show 29 < 64 by decide) (pxX12_29 G _ _) dX12_goesOn_59 (go_nm fun σ_3 eσ_3 => ?_)
  replace hw := hw σ_3 eσ_3
  refine go_goto C 337 rfl dX12_goesOn_62 ?_
  exact go_vret C hr ⟨rfl, hw⟩ dX12_goesOn_337
set_option maxRecDepth 20000 in
set_option maxHeartbeats 4000000 in
theorem gbX12_goesOn_65 {X : XT} {G : GT} {l : Launch} {d : Nat}  {post : St → Prop} (C : Cx X G cX12_goesOn RX12) (hr : Rt X G none (fun v τ => v = none ∧ post τ)) (hR : Rm X l d) (hnl : X.2.2.2.2.2.2.2.2.2.2.1 = 3)  (hd : 5 ≤ d) (hN : 119 ≤ G.2.2.2.2.2)   
    : ∀ (v1 : Int32) (σ : St), wbX12_goesOn_65   post v1 σ → Go X G 65 [(0, .ref (G.2.2.1 75)), (1, .int v1)] [] σ := by
  intro v1 σ hw
  have hw : ((v1 = 6 →
    wbX12_goesOn_77 (wbX12_goesOn_158 post) post v1 σ) ∧
  (¬ v1 = 6 →
    ((¬ v1 = 9 →
      wbX12_goesOn_158 post v1 σ) ∧
    (v1 = 9 →
      wbX12_goesOn_77 (wbX12_goesOn_158 post) post v1 σ)))) := hw
  refine go_iload_n C 1 rfl rfl dX12_goesOn_65 ?_
  refine go_bipush (v := 6) C rfl dX12_goesOn_66 ?_
  refine go_icmp_eq C 77 rfl dX12_goesOn_68 (fun hc => ?_) (fun hc => ?_)
  · replace hw := hw.1 hc
    exact (gbX12_goesOn_77 C hr hR hnl hd hN (gbX12_goesOn_158 C hr hR hnl hd hN)) _ _ hw
  · replace hw := hw.2 hc
    refine go_iload_n C 1 rfl rfl dX12_goesOn_71 ?_
    refine go_bipush (v := 9) C rfl dX12_goesOn_72 ?_
    refine go_icmp_ne C 158 rfl dX12_goesOn_74 (fun hc => ?_) (fun hc => ?_)
    · replace hw := hw.1 hc
      exact (gbX12_goesOn_158 C hr hR hnl hd hN) _ _ hw
    · replace hw := hw.2 hc
      exact (gbX12_goesOn_77 C hr hR hnl hd hN (gbX12_goesOn_158 C hr hR hnl hd hN)) _ _ hw
set_option maxRecDepth 20000 in
set_option maxHeartbeats 4000000 in
theorem spX12_goesOn {l : Launch} {G : GT} {d : Nat}  (hd : 5 ≤ d)  (hN : 119 ≤ G.2.2.2.2.2)   {σ : St} {post : St → Prop} (hw : wpX12_goesOn   σ post) : Sp l G d yX12_goesOn cX12_goesOn 3 none [.ref (G.2.2.1 75)] σ (fun v τ => v = none ∧ post τ) := by
  refine Sp.of (by decide) (Nat.le_of_ble_eq_true rfl) fun X C hr hR hnl => ?_
  show Go X G 0 [(0, .ref (G.2.2.1 75))] [] σ
  have hw : wpX12_top  σ (fun r_1 σ_2 =>
  ((¬ (gI σ_2 75 17) = 3 →
    wbX12_goesOn_65 post r_1 σ_2) ∧
  ((gI σ_2 75 17) = 3 →
    (((gI σ_2 75 18) = 43 →
      wbX12_goesOn_49 post σ_2) ∧
    (¬ (gI σ_2 75 18) = 43 →
      (((gI σ_2 75 18) = 45 →
        wbX12_goesOn_49 post σ_2) ∧
      (¬ (gI σ_2 75 18) = 45 →
        (((gI σ_2 75 18) = 42 →
          wbX12_goesOn_49 post σ_2) ∧
        (¬ (gI σ_2 75 18) = 42 →
          ((¬ (gI σ_2 75 18) = 47 →
            wbX12_goesOn_65 post r_1 σ_2) ∧
          ((gI σ_2 75 18) = 47 →
            wbX12_goesOn_49 post σ_2))))))))))) := hw
  refine go_aload_n C 0 rfl rfl dX12_goesOn_0 ?_
  refine go_callV (as := []) C hR (shX12 G) (ltX12 hN) cwX12_340 (Nat.le_trans (by decide) hd) (by decide) rfl rfl (Nat.le_of_ble_eq_true rfl) dX12_goesOn_1 (spX12_top (Nat.le_refl _) hN hw) (fun v_ τ_ hw => ?_)
  obtain ⟨r_1, rfl, hw⟩ := hw
  obtain ⟨σ_2, rfl⟩ : ∃ z, z = τ_ := ⟨_, rfl⟩
  refine go_istore_n (lv2 := [(1, .int r_1), (0, .ref (G.2.2.1 75))]) C rfl (by rw [hnl]; decide) rfl dX12_goesOn_4 ?_
  refine go_aload_n C 1 rfl rfl dX12_goesOn_5 ?_
  refine go_get (v := .int (gI σ_2 75 17)) C (shX12 G) (ltX12 hN) lkX12_270 rfl dX12_goesOn_6 ?_
  refine go_iconst (v := 3) C rfl dX12_goesOn_9 ?_
  refine go_icmp_ne C 65 rfl dX12_goesOn_10 (fun hc => ?_) (fun hc => ?_)
  · replace hw := hw.1 hc
    refine go_sub [1, 0] rfl ?_
    exact (gbX12_goesOn_65 C hr hR hnl hd hN) _ _ hw
  · replace hw := hw.2 hc
    refine go_aload_n C 1 rfl rfl dX12_goesOn_13 ?_
    refine go_get (v := .int (gI σ_2 75 18)) C (shX12 G) (ltX12 hN) lkX12_281 rfl dX12_goesOn_14 ?_
    refine go_bipush (v := 43) C rfl dX12_goesOn_17 ?_
    refine go_icmp_eq C 49 rfl dX12_goesOn_19 (fun hc => ?_) (fun hc => ?_)
    · replace hw := hw.1 hc
      refine go_sub [1] rfl ?_
      exact (gbX12_goesOn_49 C hr hR hnl hd hN) _ hw
    · replace hw := hw.2 hc
      refine go_aload_n C 1 rfl rfl dX12_goesOn_22 ?_
      refine go_get (v := .int (gI σ_2 75 18)) C (shX12 G) (ltX12 hN) lkX12_281 rfl dX12_goesOn_23 ?_
      refine go_bipush (v := 45) C rfl dX12_goesOn_26 ?_
      refine go_icmp_eq C 49 rfl dX12_goesOn_28 (fun hc => ?_) (fun hc => ?_)
      · replace hw := hw.1 hc
        refine go_sub [1] rfl ?_
        exact (gbX12_goesOn_49 C hr hR hnl hd hN) _ hw
      · replace hw := hw.2 hc
        refine go_aload_n C 1 rfl rfl dX12_goesOn_31 ?_
        refine go_get (v := .int (gI σ_2 75 18)) C (shX12 G) (ltX12 hN) lkX12_281 rfl dX12_goesOn_32 ?_
        refine go_bipush (v := 42) C rfl dX12_goesOn_35 ?_
        refine go_icmp_eq C 49 rfl dX12_goesOn_37 (fun hc => ?_) (fun hc => ?_)
        · replace hw := hw.1 hc
          refine go_sub [1] rfl ?_
          exact (gbX12_goesOn_49 C hr hR hnl hd hN) _ hw
        · replace hw := hw.2 hc
          refine go_aload_n C 1 rfl rfl dX12_goesOn_40 ?_
          refine go_get (v := .int (gI σ_2 75 18)) C (shX12 G) (ltX12 hN) lkX12_281 rfl dX12_goesOn_41 ?_
          refine go_bipush (v := 47) C rfl dX12_goesOn_44 ?_
          refine go_icmp_ne C 65 rfl dX12_goesOn_46 (fun hc => ?_) (fun hc => ?_)
          · replace hw := hw.1 hc
            refine go_sub [1, 0] rfl ?_
            exact (gbX12_goesOn_65 C hr hR hnl hd hN) _ _ hw
          · replace hw := hw.2 hc
            refine go_sub [1] rfl ?_
            exact (gbX12_goesOn_49 C hr hR hnl hd hN) _ hw
-- CradleNamesModel.asksOn()V
set_option maxRecDepth 20000 in
set_option maxHeartbeats 4000000 in
theorem gbX12_asksOn_34 {X : XT} {G : GT} {l : Launch} {d : Nat}  {post : St → Prop} (C : Cx X G cX12_asksOn RX12) (hr : Rt X G none (fun v τ => v = none ∧ post τ)) (hR : Rm X l d) (hnl : X.2.2.2.2.2.2.2.2.2.2.1 = 1)  (hd : 5 ≤ d) (hN : 119 ≤ G.2.2.2.2.2)   
    : ∀ (s0 : Int32) (σ : St), wbX12_asksOn_34   post s0 σ → Go X G 34 [(0, .ref (G.2.2.1 75))] [.int s0, .ref (G.2.2.1 75)] σ := by
  intro s0 σ hw
  have hw : wpX12_waitsFor s0 σ (fun σ_2 =>
  ∀ σ_3 : St, σ_3 = sI σ_2 75 29 0 →
  post σ_3) := hw
  refine go_callV (as := [.int s0]) C hR (shX12 G) (ltX12 hN) cwX12_344 (Nat.le_trans (by decide) hd) (by decide) rfl rfl (Nat.le_of_ble_eq_true rfl) dX12_asksOn_34 (spX12_waitsFor (Nat.le_refl _) hN hw) (fun v_ τ_ hw => ?_)
  obtain ⟨rfl, hw⟩ := hw
  obtain ⟨σ_2, rfl⟩ : ∃ z, z = τ_ := ⟨_, rfl⟩
  refine go_aload_n C 0 rfl rfl dX12_asksOn_37 ?_
  refine go_iconst (v := 0) C rfl dX12_asksOn_38 ?_
  refine go_puti C (shX12 G) (ltX12 hN) lpX12_328 (show 29 < 64 by decide) (pxX12_29 G _ _) dX12_asksOn_39 (go_nm fun σ_3 eσ_3 => ?_)
  replace hw := hw σ_3 eσ_3
  refine go_goto C 74 rfl dX12_asksOn_42 ?_
  exact go_vret C hr ⟨rfl, hw⟩ dX12_asksOn_74
set_option maxRecDepth 20000 in
set_option maxHeartbeats 4000000 in
theorem gbX12_asksOn_16 {X : XT} {G : GT} {l : Launch} {d : Nat}  {post : St → Prop} (C : Cx X G cX12_asksOn RX12) (hr : Rt X G none (fun v τ => v = none ∧ post τ)) (hR : Rm X l d) (hnl : X.2.2.2.2.2.2.2.2.2.2.1 = 1)  (hd : 5 ≤ d) (hN : 119 ≤ G.2.2.2.2.2)   
    : ∀ (σ : St), wbX12_asksOn_16   post σ → Go X G 16 [(0, .ref (G.2.2.1 75))] [] σ := by
  intro σ hw
  have hw : wpX12_isWord 4 σ (fun r_1 σ_2 =>
  ((r_1 = 0 →
    wbX12_asksOn_34 post 406 σ_2) ∧
  (¬ r_1 = 0 →
    wbX12_asksOn_34 post 407 σ_2))) := hw
  refine go_aload_n C 0 rfl rfl dX12_asksOn_16 ?_
  refine go_aload_n C 0 rfl rfl dX12_asksOn_17 ?_
  refine go_iconst (v := 4) C rfl dX12_asksOn_18 ?_
  refine go_callV (as := [.int 4]) C hR (shX12 G) (ltX12 hN) cwX12_322 (Nat.le_trans (by decide) hd) (by decide) rfl rfl (Nat.le_of_ble_eq_true rfl) dX12_asksOn_19 (spX12_isWord (Nat.le_refl _) hN hw) (fun v_ τ_ hw => ?_)
  obtain ⟨r_1, rfl, hw⟩ := hw
  obtain ⟨σ_2, rfl⟩ : ∃ z, z = τ_ := ⟨_, rfl⟩
  refine go_if_eq C 31 rfl dX12_asksOn_22 (fun hc => ?_) (fun hc => ?_)
  · replace hw := hw.1 hc
    refine go_sipush (v := 406) C rfl dX12_asksOn_31 ?_
    exact (gbX12_asksOn_34 C hr hR hnl hd hN) _ _ hw
  · replace hw := hw.2 hc
    refine go_sipush (v := 407) C rfl dX12_asksOn_25 ?_
    refine go_goto C 34 rfl dX12_asksOn_28 ?_
    exact (gbX12_asksOn_34 C hr hR hnl hd hN) _ _ hw
set_option maxRecDepth 20000 in
set_option maxHeartbeats 4000000 in
theorem gbX12_asksOn_69 {X : XT} {G : GT} {l : Launch} {d : Nat}  {post : St → Prop} (C : Cx X G cX12_asksOn RX12) (hr : Rt X G none (fun v τ => v = none ∧ post τ)) (hR : Rm X l d) (hnl : X.2.2.2.2.2.2.2.2.2.2.1 = 1)  (hd : 5 ≤ d) (hN : 119 ≤ G.2.2.2.2.2)   
    : ∀ (σ : St), wbX12_asksOn_69   post σ → Go X G 69 [(0, .ref (G.2.2.1 75))] [] σ := by
  intro σ hw
  have hw : wpX12_errs 1 σ (fun σ_2 =>
  post σ_2) := hw
  refine go_aload_n C 0 rfl rfl dX12_asksOn_69 ?_
  refine go_iconst (v := 1) C rfl dX12_asksOn_70 ?_
  refine go_callV (as := [.int 1]) C hR (shX12 G) (ltX12 hN) cwX12_300 (Nat.le_trans (by decide) hd) (by decide) rfl rfl (Nat.le_of_ble_eq_true rfl) dX12_asksOn_71 (spX12_errs (Nat.le_refl _) hN hw) (fun v_ τ_ hw => ?_)
  obtain ⟨rfl, hw⟩ := hw
  obtain ⟨σ_2, rfl⟩ : ∃ z, z = τ_ := ⟨_, rfl⟩
  exact go_vret C hr ⟨rfl, hw⟩ dX12_asksOn_74
set_option maxRecDepth 20000 in
set_option maxHeartbeats 4000000 in
theorem spX12_asksOn {l : Launch} {G : GT} {d : Nat}  (hd : 5 ≤ d)  (hN : 119 ≤ G.2.2.2.2.2)   {σ : St} {post : St → Prop} (hw : wpX12_asksOn   σ post) : Sp l G d yX12_asksOn cX12_asksOn 1 none [.ref (G.2.2.1 75)] σ (fun v τ => v = none ∧ post τ) := by
  refine Sp.of (by decide) (Nat.le_of_ble_eq_true rfl) fun X C hr hR hnl => ?_
  show Go X G 0 [(0, .ref (G.2.2.1 75))] [] σ
  have hw : wpX12_isWord 4 σ (fun r_1 σ_2 =>
  ((¬ r_1 = 0 →
    wbX12_asksOn_16 post σ_2) ∧
  (r_1 = 0 →
    wpX12_isWord 5 σ_2 (fun r_3 σ_4 =>
    ((r_3 = 0 →
      wpX12_top  σ_4 (fun r_5 σ_6 =>
      ((¬ r_5 = 2 →
        wbX12_asksOn_69 post σ_6) ∧
      (r_5 = 2 →
        wpX12_isSign 59 σ_6 (fun r_7 σ_8 =>
        ((r_7 = 0 →
          wbX12_asksOn_69 post σ_8) ∧
        (¬ r_7 = 0 →
          wpX12_clauseIsOver  σ_8 (fun σ_10 =>
          post σ_10)))))))) ∧
    (¬ r_3 = 0 →
      wbX12_asksOn_16 post σ_4)))))) := hw
  refine go_aload_n C 0 rfl rfl dX12_asksOn_0 ?_
  refine go_iconst (v := 4) C rfl dX12_asksOn_1 ?_
  refine go_callV (as := [.int 4]) C hR (shX12 G) (ltX12 hN) cwX12_322 (Nat.le_trans (by decide) hd) (by decide) rfl rfl (Nat.le_of_ble_eq_true rfl) dX12_asksOn_2 (spX12_isWord (Nat.le_refl _) hN hw) (fun v_ τ_ hw => ?_)
  obtain ⟨r_1, rfl, hw⟩ := hw
  obtain ⟨σ_2, rfl⟩ : ∃ z, z = τ_ := ⟨_, rfl⟩
  refine go_if_ne C 16 rfl dX12_asksOn_5 (fun hc => ?_) (fun hc => ?_)
  · replace hw := hw.1 hc
    exact (gbX12_asksOn_16 C hr hR hnl hd hN) _ hw
  · replace hw := hw.2 hc
    refine go_aload_n C 0 rfl rfl dX12_asksOn_8 ?_
    refine go_iconst (v := 5) C rfl dX12_asksOn_9 ?_
    refine go_callV (as := [.int 5]) C hR (shX12 G) (ltX12 hN) cwX12_322 (Nat.le_trans (by decide) hd) (by decide) rfl rfl (Nat.le_of_ble_eq_true rfl) dX12_asksOn_10 (spX12_isWord (Nat.le_refl _) hN hw) (fun v_ τ_ hw => ?_)
    obtain ⟨r_3, rfl, hw⟩ := hw
    obtain ⟨σ_4, rfl⟩ : ∃ z, z = τ_ := ⟨_, rfl⟩
    refine go_if_eq C 45 rfl dX12_asksOn_13 (fun hc => ?_) (fun hc => ?_)
    · replace hw := hw.1 hc
      refine go_aload_n C 0 rfl rfl dX12_asksOn_45 ?_
      refine go_callV (as := []) C hR (shX12 G) (ltX12 hN) cwX12_340 (Nat.le_trans (by decide) hd) (by decide) rfl rfl (Nat.le_of_ble_eq_true rfl) dX12_asksOn_46 (spX12_top (Nat.le_refl _) hN hw) (fun v_ τ_ hw => ?_)
      obtain ⟨r_5, rfl, hw⟩ := hw
      obtain ⟨σ_6, rfl⟩ : ∃ z, z = τ_ := ⟨_, rfl⟩
      refine go_iconst (v := 2) C rfl dX12_asksOn_49 ?_
      refine go_icmp_ne C 69 rfl dX12_asksOn_50 (fun hc => ?_) (fun hc => ?_)
      · replace hw := hw.1 hc
        exact (gbX12_asksOn_69 C hr hR hnl hd hN) _ hw
      · replace hw := hw.2 hc
        refine go_aload_n C 0 rfl rfl dX12_asksOn_53 ?_
        refine go_bipush (v := 59) C rfl dX12_asksOn_54 ?_
        refine go_callV (as := [.int 59]) C hR (shX12 G) (ltX12 hN) cwX12_337 (Nat.le_trans (by decide) hd) (by decide) rfl rfl (Nat.le_of_ble_eq_true rfl) dX12_asksOn_56 (spX12_isSign (Nat.le_refl _) hN hw) (fun v_ τ_ hw => ?_)
        obtain ⟨r_7, rfl, hw⟩ := hw
        obtain ⟨σ_8, rfl⟩ : ∃ z, z = τ_ := ⟨_, rfl⟩
        refine go_if_eq C 69 rfl dX12_asksOn_59 (fun hc => ?_) (fun hc => ?_)
        · replace hw := hw.1 hc
          exact (gbX12_asksOn_69 C hr hR hnl hd hN) _ hw
        · replace hw := hw.2 hc
          refine go_aload_n C 0 rfl rfl dX12_asksOn_62 ?_
          refine go_callV (as := []) C hR (shX12 G) (ltX12 hN) cwX12_353 (Nat.le_trans (by decide) hd) (by decide) rfl rfl (Nat.le_of_ble_eq_true rfl) dX12_asksOn_63 (spX12_clauseIsOver (Nat.le_refl _) hN hw) (fun v_ τ_ hw => ?_)
          obtain ⟨rfl, hw⟩ := hw
          obtain ⟨σ_10, rfl⟩ : ∃ z, z = τ_ := ⟨_, rfl⟩
          refine go_goto C 74 rfl dX12_asksOn_66 ?_
          exact go_vret C hr ⟨rfl, hw⟩ dX12_asksOn_74
    · replace hw := hw.2 hc
      exact (gbX12_asksOn_16 C hr hR hnl hd hN) _ hw
-- CradleNamesModel.number(II)I
set_option maxRecDepth 20000 in
set_option maxHeartbeats 4000000 in
theorem gbX12_number_15 {X : XT} {G : GT} {l : Launch} {d : Nat}  {post : Int32 → St → Prop} (C : Cx X G cX12_number RX12) (hr : Rt X G (some .int) (fun v τ => ∃ r : Int32, v = some (.int r) ∧ post r τ)) (hR : Rm X l d) (hnl : X.2.2.2.2.2.2.2.2.2.2.1 = 4)  (hd : 4 ≤ d) (hN : 119 ≤ G.2.2.2.2.2)   
    : ∀ (v1 : Int32) (σ : St), wbX12_number_15   post v1 σ → Go X G 15 [(0, .ref (G.2.2.1 75)), (1, .int v1)] [] σ := by
  intro v1 σ hw
  have hw : wpX12_errs 1 σ (fun σ_2 =>
  post v1 σ_2) := hw
  refine go_aload_n C 0 rfl rfl dX12_number_15 ?_
  refine go_iconst (v := 1) C rfl dX12_number_16 ?_
  refine go_callV (as := [.int 1]) C hR (shX12 G) (ltX12 hN) cwX12_300 (Nat.le_trans (by decide) hd) (by decide) rfl rfl (Nat.le_of_ble_eq_true rfl) dX12_number_17 (spX12_errs (Nat.le_refl _) hN hw) (fun v_ τ_ hw => ?_)
  obtain ⟨rfl, hw⟩ := hw
  obtain ⟨σ_2, rfl⟩ : ∃ z, z = τ_ := ⟨_, rfl⟩
  refine go_iload_n C 1 rfl rfl dX12_number_20 ?_
  exact go_iret C hr ⟨_, rfl, hw⟩ dX12_number_21
set_option maxRecDepth 20000 in
set_option maxHeartbeats 4000000 in
theorem spX12_number {l : Launch} {G : GT} {d : Nat}  (hd : 4 ≤ d)  (hN : 119 ≤ G.2.2.2.2.2)  {a1 : Int32} {a2 : Int32} {σ : St} {post : Int32 → St → Prop} (hw : wpX12_number  a1 a2 σ post) : Sp l G d yX12_number cX12_number 4 (some .int) [.ref (G.2.2.1 75), .int a1, .int a2] σ (fun v τ => ∃ r : Int32, v = some (.int r) ∧ post r τ) := by
  refine Sp.of (by decide) (Nat.le_of_ble_eq_true rfl) fun X C hr hR hnl => ?_
  show Go X G 0 [(0, .ref (G.2.2.1 75)), (1, .int a1), (2, .int a2)] [] σ
  have hw : ((0 < (gI σ 75 19) →
    wbX12_number_15 post a1 σ) ∧
  (¬ 0 < (gI σ 75 19) →
    (((gI σ 75 17) = 2 →
      wpX12_in (gI σ 75 18) a1 a2 σ (fun r_1 σ_2 =>
      ((¬ r_1 = 0 →
        ∀ v3_3 : Int32, v3_3 = (gI σ_2 75 18) →
        wpX12_next  σ_2 (fun σ_5 =>
        post v3_3 σ_5)) ∧
      (r_1 = 0 →
        wpX12_errs 2 σ_2 (fun σ_7 =>
        post a1 σ_7))))) ∧
    (¬ (gI σ 75 17) = 2 →
      wbX12_number_15 post a1 σ)))) := hw
  refine go_aload_n C 0 rfl rfl dX12_number_0 ?_
  refine go_get (v := .int (gI σ 75 19)) C (shX12 G) (ltX12 hN) lkX12_285 rfl dX12_number_1 ?_
  refine go_if_gt C 15 rfl dX12_number_4 (fun hc => ?_) (fun hc => ?_)
  · replace hw := hw.1 hc
    refine go_sub [0, 1] rfl ?_
    exact (gbX12_number_15 C hr hR hnl hd hN) _ _ hw
  · replace hw := hw.2 hc
    refine go_aload_n C 0 rfl rfl dX12_number_7 ?_
    refine go_get (v := .int (gI σ 75 17)) C (shX12 G) (ltX12 hN) lkX12_270 rfl dX12_number_8 ?_
    refine go_iconst (v := 2) C rfl dX12_number_11 ?_
    refine go_icmp_eq C 22 rfl dX12_number_12 (fun hc => ?_) (fun hc => ?_)
    · replace hw := hw.1 hc
      refine go_aload_n C 0 rfl rfl dX12_number_22 ?_
      refine go_get (v := .int (gI σ 75 18)) C (shX12 G) (ltX12 hN) lkX12_281 rfl dX12_number_23 ?_
      refine go_iload_n C 1 rfl rfl dX12_number_26 ?_
      refine go_iload_n C 2 rfl rfl dX12_number_27 ?_
      refine go_callS (as := [.int (gI σ 75 18), .int a1, .int a2]) C hR cwX12_152 (Nat.le_trans (by decide) hd) (by decide) rfl rfl (Nat.le_of_ble_eq_true rfl) dX12_number_28 (spX12_in (Nat.le_refl _) hN hw) (fun v_ τ_ hw => ?_)
      obtain ⟨r_1, rfl, hw⟩ := hw
      obtain ⟨σ_2, rfl⟩ : ∃ z, z = τ_ := ⟨_, rfl⟩
      refine go_if_ne C 41 rfl dX12_number_31 (fun hc => ?_) (fun hc => ?_)
      · replace hw := hw.1 hc
        refine go_aload_n C 0 rfl rfl dX12_number_41 ?_
        refine go_get (v := .int (gI σ_2 75 18)) C (shX12 G) (ltX12 hN) lkX12_281 rfl dX12_number_42 ?_
        refine go_topi (fun v3_3 ev3_3 => ?_)
        replace hw := hw v3_3 ev3_3
        refine go_istore_n (lv2 := [(3, .int v3_3), (0, .ref (G.2.2.1 75)), (1, .int a1), (2, .int a2)]) C rfl (by rw [hnl]; decide) rfl dX12_number_45 ?_
        refine go_aload_n C 1 rfl rfl dX12_number_46 ?_
        refine go_callV (as := []) C hR (shX12 G) (ltX12 hN) cwX12_306 (Nat.le_trans (by decide) hd) (by decide) rfl rfl (Nat.le_of_ble_eq_true rfl) dX12_number_47 (spX12_next (Nat.le_refl _) hN hw) (fun v_ τ_ hw => ?_)
        obtain ⟨rfl, hw⟩ := hw
        obtain ⟨σ_5, rfl⟩ : ∃ z, z = τ_ := ⟨_, rfl⟩
        refine go_iload_n C 0 rfl rfl dX12_number_50 ?_
        exact go_iret C hr ⟨_, rfl, hw⟩ dX12_number_51
      · replace hw := hw.2 hc
        refine go_aload_n C 0 rfl rfl dX12_number_34 ?_
        refine go_iconst (v := 2) C rfl dX12_number_35 ?_
        refine go_callV (as := [.int 2]) C hR (shX12 G) (ltX12 hN) cwX12_300 (Nat.le_trans (by decide) hd) (by decide) rfl rfl (Nat.le_of_ble_eq_true rfl) dX12_number_36 (spX12_errs (Nat.le_refl _) hN hw) (fun v_ τ_ hw => ?_)
        obtain ⟨rfl, hw⟩ := hw
        obtain ⟨σ_7, rfl⟩ : ∃ z, z = τ_ := ⟨_, rfl⟩
        refine go_iload_n C 1 rfl rfl dX12_number_39 ?_
        exact go_iret C hr ⟨_, rfl, hw⟩ dX12_number_40
    · replace hw := hw.2 hc
      refine go_sub [0, 1] rfl ?_
      exact (gbX12_number_15 C hr hR hnl hd hN) _ _ hw
-- CradleNamesModel.wasTold(I)Z
set_option maxRecDepth 20000 in
set_option maxHeartbeats 4000000 in
theorem gbX12_wasTold_4 {X : XT} {G : GT} {l : Launch} {d : Nat}  {post : Int32 → St → Prop} (C : Cx X G cX12_wasTold RX12) (hr : Rt X G (some .boolean) (fun v τ => ∃ r : Int32, v = some (.int r) ∧ post r τ)) (hR : Rm X l d) (hnl : X.2.2.2.2.2.2.2.2.2.2.1 = 4)  (hd : 1 ≤ d) (hN : 119 ≤ G.2.2.2.2.2)   
    : ∀ (n : Nat) (v1 : Int32) (v2 : Int32) (v3 : Int32) (σ : St), wbX12_wasTold_4   post n v1 v2 v3 σ → Go X G 4 [(0, .ref (G.2.2.1 75)), (1, .int v1), (2, .int v2), (3, .int v3)] [] σ := by
  intro n
  induction n with
  | zero => intro v1 v2 v3 σ hw; exact hw.elim
  | succ n ih =>
    intro v1 v2 v3 σ hw
    have hw : (((gI σ 75 30) ≤ v3 →
      (v2 = 0 ∨ v2 = 1) ∧ post v2 σ) ∧
    (¬ (gI σ 75 30) ≤ v3 →
      ((¬ v2 = 0 →
        ∀ v3_1 : Int32, v3_1 = v3 + 1 →
        wbX12_wasTold_4 post n v1 1 v3_1 σ) ∧
      (v2 = 0 →
        vp_in v3 12 ∧ (
        ((¬ (gI σ 92 v3.toNatClampNeg) = v1 →
          ∀ v3_2 : Int32, v3_2 = v3 + 1 →
          wbX12_wasTold_4 post n v1 0 v3_2 σ) ∧
        ((gI σ 92 v3.toNatClampNeg) = v1 →
          ∀ v3_3 : Int32, v3_3 = v3 + 1 →
          wbX12_wasTold_4 post n v1 1 v3_3 σ))))))) := hw
    refine go_iload_n C 3 rfl rfl dX12_wasTold_4 ?_
    refine go_aload_n C 0 rfl rfl dX12_wasTold_5 ?_
    refine go_get (v := .int (gI σ 75 30)) C (shX12 G) (ltX12 hN) lkX12_356 rfl dX12_wasTold_6 ?_
    refine go_icmp_ge C 38 rfl dX12_wasTold_9 (fun hc => ?_) (fun hc => ?_)
    · replace hw := hw.1 hc
      refine go_iload_n C 2 rfl rfl dX12_wasTold_38 ?_
      exact go_zret C hr (bool_nar hw.1) ⟨_, rfl, hw.2⟩ dX12_wasTold_39
    · replace hw := hw.2 hc
      refine go_iload_n C 2 rfl rfl dX12_wasTold_12 ?_
      refine go_if_ne C 26 rfl dX12_wasTold_13 (fun hc => ?_) (fun hc => ?_)
      · replace hw := hw.1 hc
        refine go_iconst (v := 1) C rfl dX12_wasTold_26 ?_
        refine go_goto C 31 rfl dX12_wasTold_27 ?_
        refine go_istore_n (lv2 := [(2, .int 1), (0, .ref (G.2.2.1 75)), (1, .int v1), (3, .int v3)]) C rfl (by rw [hnl]; decide) rfl dX12_wasTold_31 ?_
        obtain ⟨v3_1, ev3_1⟩ : ∃ z : Int32, z = v3 + 1 := ⟨_, rfl⟩
        replace hw := hw v3_1 ev3_1
        refine go_iinc (v := v3_1) (lv2 := [(3, .int v3_1), (2, .int 1), (0, .ref (G.2.2.1 75)), (1, .int v1)]) C 3 rfl (by rw [ev3_1]; rfl) (by rw [hnl]; decide) rfl dX12_wasTold_32 ?_
        refine go_goto C 4 rfl dX12_wasTold_35 ?_
        refine go_sub [2, 3, 1, 0] rfl ?_
        exact ih _ _ _ _ hw
      · replace hw := hw.2 hc
        refine go_aload_n C 0 rfl rfl dX12_wasTold_16 ?_
        refine go_get (v := .ref (G.2.2.1 92)) C (shX12 G) (ltX12 hN) lkX12_67 rfl dX12_wasTold_17 ?_
        refine go_iload_n C 3 rfl rfl dX12_wasTold_20 ?_
        refine go_iald C (saX12_newWord G) (laX12_newWord hN) hw.1 dX12_wasTold_21 ?_
        replace hw := hw.2
        refine go_iload_n C 1 rfl rfl dX12_wasTold_22 ?_
        refine go_icmp_ne C 30 rfl dX12_wasTold_23 (fun hc => ?_) (fun hc => ?_)
        · replace hw := hw.1 hc
          refine go_iconst (v := 0) C rfl dX12_wasTold_30 ?_
          refine go_istore_n (lv2 := [(2, .int 0), (0, .ref (G.2.2.1 75)), (1, .int v1), (3, .int v3)]) C rfl (by rw [hnl]; decide) rfl dX12_wasTold_31 ?_
          obtain ⟨v3_2, ev3_2⟩ : ∃ z : Int32, z = v3 + 1 := ⟨_, rfl⟩
          replace hw := hw v3_2 ev3_2
          refine go_iinc (v := v3_2) (lv2 := [(3, .int v3_2), (2, .int 0), (0, .ref (G.2.2.1 75)), (1, .int v1)]) C 3 rfl (by rw [ev3_2]; rfl) (by rw [hnl]; decide) rfl dX12_wasTold_32 ?_
          refine go_goto C 4 rfl dX12_wasTold_35 ?_
          refine go_sub [2, 3, 1, 0] rfl ?_
          exact ih _ _ _ _ hw
        · replace hw := hw.2 hc
          refine go_iconst (v := 1) C rfl dX12_wasTold_26 ?_
          refine go_goto C 31 rfl dX12_wasTold_27 ?_
          refine go_istore_n (lv2 := [(2, .int 1), (0, .ref (G.2.2.1 75)), (1, .int v1), (3, .int v3)]) C rfl (by rw [hnl]; decide) rfl dX12_wasTold_31 ?_
          obtain ⟨v3_3, ev3_3⟩ : ∃ z : Int32, z = v3 + 1 := ⟨_, rfl⟩
          replace hw := hw v3_3 ev3_3
          refine go_iinc (v := v3_3) (lv2 := [(3, .int v3_3), (2, .int 1), (0, .ref (G.2.2.1 75)), (1, .int v1)]) C 3 rfl (by rw [ev3_3]; rfl) (by rw [hnl]; decide) rfl dX12_wasTold_32 ?_
          refine go_goto C 4 rfl dX12_wasTold_35 ?_
          refine go_sub [2, 3, 1, 0] rfl ?_
          exact ih _ _ _ _ hw
set_option maxRecDepth 20000 in
set_option maxHeartbeats 4000000 in
theorem spX12_wasTold {l : Launch} {G : GT} {d : Nat}  (hd : 1 ≤ d)  (hN : 119 ≤ G.2.2.2.2.2)  {a1 : Int32} {σ : St} {post : Int32 → St → Prop} (hw : wpX12_wasTold  a1 σ post) : Sp l G d yX12_wasTold cX12_wasTold 4 (some .boolean) [.ref (G.2.2.1 75), .int a1] σ (fun v τ => ∃ r : Int32, v = some (.int r) ∧ post r τ) := by
  refine Sp.of (by decide) (Nat.le_of_ble_eq_true rfl) fun X C hr hR hnl => ?_
  show Go X G 0 [(0, .ref (G.2.2.1 75)), (1, .int a1)] [] σ
  have hw : ∃ m_4, wbX12_wasTold_4 post m_4 a1 0 0 σ := hw
  refine go_iconst (v := 0) C rfl dX12_wasTold_0 ?_
  refine go_istore_n (lv2 := [(2, .int 0), (0, .ref (G.2.2.1 75)), (1, .int a1)]) C rfl (by rw [hnl]; decide) rfl dX12_wasTold_1 ?_
  refine go_iconst (v := 0) C rfl dX12_wasTold_2 ?_
  refine go_istore_n (lv2 := [(3, .int 0), (2, .int 0), (0, .ref (G.2.2.1 75)), (1, .int a1)]) C rfl (by rw [hnl]; decide) rfl dX12_wasTold_3 ?_
  refine go_sub [2, 3, 1, 0] rfl ?_
  obtain ⟨n_0, hw⟩ := hw
  exact (gbX12_wasTold_4 C hr hR hnl hd hN) n_0 _ _ _ _ hw
-- CradleNamesModel.clause()V
set_option maxRecDepth 20000 in
set_option maxHeartbeats 4000000 in
theorem gbX12_clause_172 {X : XT} {G : GT} {l : Launch} {d : Nat}  {post : St → Prop} (C : Cx X G cX12_clause RX12) (hr : Rt X G none (fun v τ => v = none ∧ post τ)) (hR : Rm X l d) (hnl : X.2.2.2.2.2.2.2.2.2.2.1 = 3)  (hd : 5 ≤ d) (hN : 119 ≤ G.2.2.2.2.2)   
    : ∀ (s0 : Int32) (σ : St), wbX12_clause_172   post s0 σ → Go X G 172 [(0, .ref (G.2.2.1 75))] [.int s0, .ref (G.2.2.1 75)] σ := by
  intro s0 σ hw
  have hw : ∀ σ_1 : St, σ_1 = sI σ 75 32 s0 →
  wpX12_clauseIsOver  σ_1 (fun σ_3 =>
  post σ_3) := hw
  refine go_puti C (shX12 G) (ltX12 hN) lpX12_368 (show 32 < 64 by decide) (pxX12_32 G _ _) dX12_clause_172 (go_nm fun σ_1 eσ_1 => ?_)
  replace hw := hw σ_1 eσ_1
  refine go_aload_n C 0 rfl rfl dX12_clause_175 ?_
  refine go_callV (as := []) C hR (shX12 G) (ltX12 hN) cwX12_353 (Nat.le_trans (by decide) hd) (by decide) rfl rfl (Nat.le_of_ble_eq_true rfl) dX12_clause_176 (spX12_clauseIsOver (Nat.le_refl _) hN hw) (fun v_ τ_ hw => ?_)
  obtain ⟨rfl, hw⟩ := hw
  obtain ⟨σ_3, rfl⟩ : ∃ z, z = τ_ := ⟨_, rfl⟩
  refine go_goto C 187 rfl dX12_clause_179 ?_
  exact go_vret C hr ⟨rfl, hw⟩ dX12_clause_187
set_option maxRecDepth 20000 in
set_option maxHeartbeats 4000000 in
theorem gbX12_clause_155 {X : XT} {G : GT} {l : Launch} {d : Nat}  {post : St → Prop} (C : Cx X G cX12_clause RX12) (hr : Rt X G none (fun v τ => v = none ∧ post τ)) (hR : Rm X l d) (hnl : X.2.2.2.2.2.2.2.2.2.2.1 = 3)  (hd : 5 ≤ d) (hN : 119 ≤ G.2.2.2.2.2)   
    : ∀ (v1 : Int32) (v2 : Int32) (s0 : Int32) (σ : St), wbX12_clause_155   post v1 v2 s0 σ → Go X G 155 [(0, .ref (G.2.2.1 75)), (1, .int v1), (2, .int v2)] [.int s0, .ref (G.2.2.1 75)] σ := by
  intro v1 v2 s0 σ hw
  have hw : ∀ σ_1 : St, σ_1 = sI σ 75 31 s0 →
  ((¬ v1 = 3 →
    wbX12_clause_172 post (gI σ_1 75 32) σ_1) ∧
  (v1 = 3 →
    wbX12_clause_172 post v2 σ_1)) := hw
  refine go_puti C (shX12 G) (ltX12 hN) lpX12_365 (show 31 < 64 by decide) (pxX12_31 G _ _) dX12_clause_155 (go_nm fun σ_1 eσ_1 => ?_)
  replace hw := hw σ_1 eσ_1
  refine go_aload_n C 0 rfl rfl dX12_clause_158 ?_
  refine go_iload_n C 1 rfl rfl dX12_clause_159 ?_
  refine go_iconst (v := 3) C rfl dX12_clause_160 ?_
  refine go_icmp_ne C 168 rfl dX12_clause_161 (fun hc => ?_) (fun hc => ?_)
  · replace hw := hw.1 hc
    refine go_aload_n C 0 rfl rfl dX12_clause_168 ?_
    refine go_get (v := .int (gI σ_1 75 32)) C (shX12 G) (ltX12 hN) lkX12_368 rfl dX12_clause_169 ?_
    refine go_sub [0] rfl ?_
    exact (gbX12_clause_172 C hr hR hnl hd hN) _ _ hw
  · replace hw := hw.2 hc
    refine go_iload_n C 2 rfl rfl dX12_clause_164 ?_
    refine go_goto C 172 rfl dX12_clause_165 ?_
    refine go_sub [0] rfl ?_
    exact (gbX12_clause_172 C hr hR hnl hd hN) _ _ hw
set_option maxRecDepth 20000 in
set_option maxHeartbeats 4000000 in
theorem gbX12_clause_182 {X : XT} {G : GT} {l : Launch} {d : Nat}  {post : St → Prop} (C : Cx X G cX12_clause RX12) (hr : Rt X G none (fun v τ => v = none ∧ post τ)) (hR : Rm X l d) (hnl : X.2.2.2.2.2.2.2.2.2.2.1 = 3)  (hd : 5 ≤ d) (hN : 119 ≤ G.2.2.2.2.2)   
    : ∀ (σ : St), wbX12_clause_182   post σ → Go X G 182 [(0, .ref (G.2.2.1 75))] [] σ := by
  intro σ hw
  have hw : wpX12_errs 1 σ (fun σ_2 =>
  post σ_2) := hw
  refine go_aload_n C 0 rfl rfl dX12_clause_182 ?_
  refine go_iconst (v := 1) C rfl dX12_clause_183 ?_
  refine go_callV (as := [.int 1]) C hR (shX12 G) (ltX12 hN) cwX12_300 (Nat.le_trans (by decide) hd) (by decide) rfl rfl (Nat.le_of_ble_eq_true rfl) dX12_clause_184 (spX12_errs (Nat.le_refl _) hN hw) (fun v_ τ_ hw => ?_)
  obtain ⟨rfl, hw⟩ := hw
  obtain ⟨σ_2, rfl⟩ : ∃ z, z = τ_ := ⟨_, rfl⟩
  exact go_vret C hr ⟨rfl, hw⟩ dX12_clause_187
set_option maxRecDepth 20000 in
set_option maxHeartbeats 4000000 in
theorem gbX12_clause_121 {X : XT} {G : GT} {l : Launch} {d : Nat}  {post : St → Prop} (C : Cx X G cX12_clause RX12) (hr : Rt X G none (fun v τ => v = none ∧ post τ)) (hR : Rm X l d) (hnl : X.2.2.2.2.2.2.2.2.2.2.1 = 3)  (hd : 5 ≤ d) (hN : 119 ≤ G.2.2.2.2.2)   
    : ∀ (v1 : Int32) (s0 : Int32) (s1 : Int32) (σ : St), wbX12_clause_121   post v1 s0 s1 σ → Go X G 121 [(0, .ref (G.2.2.1 75)), (1, .int v1)] [.int s0, .int s1, .ref (G.2.2.1 75)] σ := by
  intro v1 s0 s1 σ hw
  have hw : wpX12_number s1 s0 σ (fun r_1 σ_2 =>
  ((¬ (gI σ_2 75 19) = 0 →
    wbX12_clause_182 post σ_2) ∧
  ((gI σ_2 75 19) = 0 →
    wpX12_isSign 59 σ_2 (fun r_3 σ_4 =>
    ((r_3 = 0 →
      wbX12_clause_182 post σ_4) ∧
    (¬ r_3 = 0 →
      ((¬ v1 = 2 →
        wbX12_clause_155 post v1 r_1 (gI σ_4 75 31) σ_4) ∧
      (v1 = 2 →
        wbX12_clause_155 post v1 r_1 r_1 σ_4)))))))) := hw
  refine go_callV (as := [.int s1, .int s0]) C hR (shX12 G) (ltX12 hN) cwX12_362 (Nat.le_trans (by decide) hd) (by decide) rfl rfl (Nat.le_of_ble_eq_true rfl) dX12_clause_121 (spX12_number (Nat.le_refl _) hN hw) (fun v_ τ_ hw => ?_)
  obtain ⟨r_1, rfl, hw⟩ := hw
  obtain ⟨σ_2, rfl⟩ : ∃ z, z = τ_ := ⟨_, rfl⟩
  refine go_istore_n (lv2 := [(2, .int r_1), (0, .ref (G.2.2.1 75)), (1, .int v1)]) C rfl (by rw [hnl]; decide) rfl dX12_clause_124 ?_
  refine go_aload_n C 1 rfl rfl dX12_clause_125 ?_
  refine go_get (v := .int (gI σ_2 75 19)) C (shX12 G) (ltX12 hN) lkX12_285 rfl dX12_clause_126 ?_
  refine go_if_ne C 182 rfl dX12_clause_129 (fun hc => ?_) (fun hc => ?_)
  · replace hw := hw.1 hc
    refine go_sub [1] rfl ?_
    exact (gbX12_clause_182 C hr hR hnl hd hN) _ hw
  · replace hw := hw.2 hc
    refine go_aload_n C 1 rfl rfl dX12_clause_132 ?_
    refine go_bipush (v := 59) C rfl dX12_clause_133 ?_
    refine go_callV (as := [.int 59]) C hR (shX12 G) (ltX12 hN) cwX12_337 (Nat.le_trans (by decide) hd) (by decide) rfl rfl (Nat.le_of_ble_eq_true rfl) dX12_clause_135 (spX12_isSign (Nat.le_refl _) hN hw) (fun v_ τ_ hw => ?_)
    obtain ⟨r_3, rfl, hw⟩ := hw
    obtain ⟨σ_4, rfl⟩ : ∃ z, z = τ_ := ⟨_, rfl⟩
    refine go_if_eq C 182 rfl dX12_clause_138 (fun hc => ?_) (fun hc => ?_)
    · replace hw := hw.1 hc
      refine go_sub [1] rfl ?_
      exact (gbX12_clause_182 C hr hR hnl hd hN) _ hw
    · replace hw := hw.2 hc
      refine go_aload_n C 1 rfl rfl dX12_clause_141 ?_
      refine go_iload_n C 2 rfl rfl dX12_clause_142 ?_
      refine go_iconst (v := 2) C rfl dX12_clause_143 ?_
      refine go_icmp_ne C 151 rfl dX12_clause_144 (fun hc => ?_) (fun hc => ?_)
      · replace hw := hw.1 hc
        refine go_aload_n C 1 rfl rfl dX12_clause_151 ?_
        refine go_get (v := .int (gI σ_4 75 31)) C (shX12 G) (ltX12 hN) lkX12_365 rfl dX12_clause_152 ?_
        refine go_sub [1, 2, 0] rfl ?_
        exact (gbX12_clause_155 C hr hR hnl hd hN) _ _ _ _ hw
      · replace hw := hw.2 hc
        refine go_iload_n C 0 rfl rfl dX12_clause_147 ?_
        refine go_goto C 155 rfl dX12_clause_148 ?_
        refine go_sub [1, 2, 0] rfl ?_
        exact (gbX12_clause_155 C hr hR hnl hd hN) _ _ _ _ hw
set_option maxRecDepth 20000 in
set_option maxHeartbeats 4000000 in
theorem gbX12_clause_107 {X : XT} {G : GT} {l : Launch} {d : Nat}  {post : St → Prop} (C : Cx X G cX12_clause RX12) (hr : Rt X G none (fun v τ => v = none ∧ post τ)) (hR : Rm X l d) (hnl : X.2.2.2.2.2.2.2.2.2.2.1 = 3)  (hd : 5 ≤ d) (hN : 119 ≤ G.2.2.2.2.2)   
    : ∀ (v1 : Int32) (σ : St), wbX12_clause_107   post v1 σ → Go X G 107 [(0, .ref (G.2.2.1 75)), (1, .int v1)] [] σ := by
  intro v1 σ hw
  have hw : ((¬ v1 = 2 →
    wbX12_clause_121 post v1 60 1 σ) ∧
  (v1 = 2 →
    wbX12_clause_121 post v1 20 1 σ)) := hw
  refine go_aload_n C 0 rfl rfl dX12_clause_107 ?_
  refine go_iconst (v := 1) C rfl dX12_clause_108 ?_
  refine go_iload_n C 1 rfl rfl dX12_clause_109 ?_
  refine go_iconst (v := 2) C rfl dX12_clause_110 ?_
  refine go_icmp_ne C 119 rfl dX12_clause_111 (fun hc => ?_) (fun hc => ?_)
  · replace hw := hw.1 hc
    refine go_bipush (v := 60) C rfl dX12_clause_119 ?_
    exact (gbX12_clause_121 C hr hR hnl hd hN) _ _ _ _ hw
  · replace hw := hw.2 hc
    refine go_bipush (v := 20) C rfl dX12_clause_114 ?_
    refine go_goto C 121 rfl dX12_clause_116 ?_
    exact (gbX12_clause_121 C hr hR hnl hd hN) _ _ _ _ hw
set_option maxRecDepth 20000 in
set_option maxHeartbeats 4000000 in
theorem gbX12_clause_198 {X : XT} {G : GT} {l : Launch} {d : Nat}  {post : St → Prop} (C : Cx X G cX12_clause RX12) (hr : Rt X G none (fun v τ => v = none ∧ post τ)) (hR : Rm X l d) (hnl : X.2.2.2.2.2.2.2.2.2.2.1 = 3)  (hd : 5 ≤ d) (hN : 119 ≤ G.2.2.2.2.2)   
    : ∀ (v1 : Int32) (s0 : Int32) (σ : St), wbX12_clause_198   post v1 s0 σ → Go X G 198 [(0, .ref (G.2.2.1 75)), (1, .int v1)] [.int s0, .ref (G.2.2.1 75)] σ := by
  intro v1 s0 σ hw
  have hw : wpX12_opensFrame s0 σ (fun σ_2 =>
  ((¬ v1 = 0 →
    ∀ σ_3 : St, σ_3 = sI σ_2 75 29 0 →
    post σ_3) ∧
  (v1 = 0 →
    ∀ σ_4 : St, σ_4 = sI σ_2 75 29 1 →
    post σ_4))) := hw
  refine go_callV (as := [.int s0]) C hR (shX12 G) (ltX12 hN) cwX12_303 (Nat.le_trans (by decide) hd) (by decide) rfl rfl (Nat.le_of_ble_eq_true rfl) dX12_clause_198 (spX12_opensFrame (Nat.le_refl _) hN hw) (fun v_ τ_ hw => ?_)
  obtain ⟨rfl, hw⟩ := hw
  obtain ⟨σ_2, rfl⟩ : ∃ z, z = τ_ := ⟨_, rfl⟩
  refine go_aload_n C 0 rfl rfl dX12_clause_201 ?_
  refine go_iload_n C 1 rfl rfl dX12_clause_202 ?_
  refine go_if_ne C 210 rfl dX12_clause_203 (fun hc => ?_) (fun hc => ?_)
  · replace hw := hw.1 hc
    refine go_iconst (v := 0) C rfl dX12_clause_210 ?_
    refine go_puti C (shX12 G) (ltX12 hN) lpX12_328 (show 29 < 64 by decide) (pxX12_29 G _ _) dX12_clause_211 (go_nm fun σ_3 eσ_3 => ?_)
    replace hw := hw σ_3 eσ_3
    exact go_vret C hr ⟨rfl, hw⟩ dX12_clause_214
  · replace hw := hw.2 hc
    refine go_iconst (v := 1) C rfl dX12_clause_206 ?_
    refine go_goto C 211 rfl dX12_clause_207 ?_
    refine go_puti C (shX12 G) (ltX12 hN) lpX12_328 (show 29 < 64 by decide) (pxX12_29 G _ _) dX12_clause_211 (go_nm fun σ_4 eσ_4 => ?_)
    replace hw := hw σ_4 eσ_4
    exact go_vret C hr ⟨rfl, hw⟩ dX12_clause_214
set_option maxRecDepth 20000 in
set_option maxHeartbeats 4000000 in
theorem gbX12_clause_16 {X : XT} {G : GT} {l : Launch} {d : Nat}  {post : St → Prop} (C : Cx X G cX12_clause RX12) (hr : Rt X G none (fun v τ => v = none ∧ post τ)) (hR : Rm X l d) (hnl : X.2.2.2.2.2.2.2.2.2.2.1 = 3)  (hd : 5 ≤ d) (hN : 119 ≤ G.2.2.2.2.2)   
    : ∀ (σ : St), wbX12_clause_16   post σ → Go X G 16 [(0, .ref (G.2.2.1 75))] [] σ := by
  intro σ hw
  have hw : wpX12_errs 1 σ (fun σ_2 =>
  post σ_2) := hw
  refine go_aload_n C 0 rfl rfl dX12_clause_16 ?_
  refine go_iconst (v := 1) C rfl dX12_clause_17 ?_
  refine go_callV (as := [.int 1]) C hR (shX12 G) (ltX12 hN) cwX12_300 (Nat.le_trans (by decide) hd) (by decide) rfl rfl (Nat.le_of_ble_eq_true rfl) dX12_clause_18 (spX12_errs (Nat.le_refl _) hN hw) (fun v_ τ_ hw => ?_)
  obtain ⟨rfl, hw⟩ := hw
  obtain ⟨σ_2, rfl⟩ : ∃ z, z = τ_ := ⟨_, rfl⟩
  exact go_vret C hr ⟨rfl, hw⟩ dX12_clause_21
set_option maxRecDepth 20000 in
set_option maxHeartbeats 4000000 in
theorem gbX12_clause_48 {X : XT} {G : GT} {l : Launch} {d : Nat}  {post : St → Prop} (C : Cx X G cX12_clause RX12) (hr : Rt X G none (fun v τ => v = none ∧ post τ)) (hR : Rm X l d) (hnl : X.2.2.2.2.2.2.2.2.2.2.1 = 3)  (hd : 5 ≤ d) (hN : 119 ≤ G.2.2.2.2.2)  {K62 : Int32 → St → Prop} (hK62 : ∀ (v1 : Int32) (σ : St), K62 v1 σ → Go X G 62 [(0, .ref (G.2.2.1 75)), (1, .int v1)] [] σ)
    : ∀ (v1 : Int32) (σ : St), wbX12_clause_48  K62 post v1 σ → Go X G 48 [(0, .ref (G.2.2.1 75)), (1, .int v1)] [] σ := by
  intro v1 σ hw
  have hw : ((¬ (gI σ 75 30) = 12 →
    K62 v1 σ) ∧
  ((gI σ 75 30) = 12 →
    wpX12_errs 5 σ (fun σ_2 =>
    K62 v1 σ_2))) := hw
  refine go_aload_n C 0 rfl rfl dX12_clause_48 ?_
  refine go_get (v := .int (gI σ 75 30)) C (shX12 G) (ltX12 hN) lkX12_356 rfl dX12_clause_49 ?_
  refine go_bipush (v := 12) C rfl dX12_clause_52 ?_
  refine go_icmp_ne C 62 rfl dX12_clause_54 (fun hc => ?_) (fun hc => ?_)
  · replace hw := hw.1 hc
    exact hK62 _ _ hw
  · replace hw := hw.2 hc
    refine go_aload_n C 0 rfl rfl dX12_clause_57 ?_
    refine go_iconst (v := 5) C rfl dX12_clause_58 ?_
    refine go_callV (as := [.int 5]) C hR (shX12 G) (ltX12 hN) cwX12_300 (Nat.le_trans (by decide) hd) (by decide) rfl rfl (Nat.le_of_ble_eq_true rfl) dX12_clause_59 (spX12_errs (Nat.le_refl _) hN hw) (fun v_ τ_ hw => ?_)
    obtain ⟨rfl, hw⟩ := hw
    obtain ⟨σ_2, rfl⟩ : ∃ z, z = τ_ := ⟨_, rfl⟩
    exact hK62 _ _ hw
set_option maxRecDepth 20000 in
set_option maxHeartbeats 4000000 in
theorem gbX12_clause_62 {X : XT} {G : GT} {l : Launch} {d : Nat}  {post : St → Prop} (C : Cx X G cX12_clause RX12) (hr : Rt X G none (fun v τ => v = none ∧ post τ)) (hR : Rm X l d) (hnl : X.2.2.2.2.2.2.2.2.2.2.1 = 3)  (hd : 5 ≤ d) (hN : 119 ≤ G.2.2.2.2.2)   
    : ∀ (v1 : Int32) (σ : St), wbX12_clause_62   post v1 σ → Go X G 62 [(0, .ref (G.2.2.1 75)), (1, .int v1)] [] σ := by
  intro v1 σ hw
  have hw : (((gI σ 75 19) ≤ 0 →
    vp_in (gI σ 75 30) 12 ∧ (
    ∀ σ_1 : St, σ_1 = sI σ 92 (gI σ 75 30).toNatClampNeg v1 →
    vp_in (gI σ_1 75 30) 12 ∧ (
    ∀ σ_2 : St, σ_2 = sI σ_1 93 (gI σ_1 75 30).toNatClampNeg (gI σ_1 75 35) →
    wpX12_next  σ_2 (fun σ_4 =>
    ((v1 = 2 →
      wbX12_clause_107 post v1 σ_4) ∧
    (¬ v1 = 2 →
      ((¬ v1 = 3 →
        ((¬ v1 = 0 →
          wbX12_clause_198 post v1 2 σ_4) ∧
        (v1 = 0 →
          wbX12_clause_198 post v1 1 σ_4))) ∧
      (v1 = 3 →
        wbX12_clause_107 post v1 σ_4)))))))) ∧
  (¬ (gI σ 75 19) ≤ 0 →
    post σ)) := hw
  refine go_aload_n C 0 rfl rfl dX12_clause_62 ?_
  refine go_get (v := .int (gI σ 75 19)) C (shX12 G) (ltX12 hN) lkX12_285 rfl dX12_clause_63 ?_
  refine go_if_le C 70 rfl dX12_clause_66 (fun hc => ?_) (fun hc => ?_)
  · replace hw := hw.1 hc
    refine go_aload_n C 0 rfl rfl dX12_clause_70 ?_
    refine go_get (v := .ref (G.2.2.1 92)) C (shX12 G) (ltX12 hN) lkX12_67 rfl dX12_clause_71 ?_
    refine go_aload_n C 0 rfl rfl dX12_clause_74 ?_
    refine go_get (v := .int (gI σ 75 30)) C (shX12 G) (ltX12 hN) lkX12_356 rfl dX12_clause_75 ?_
    refine go_iload_n C 1 rfl rfl dX12_clause_78 ?_
    refine go_iast C (saX12_newWord G) (laX12_newWord hN) hw.1 dX12_clause_79 (go_nm fun σ_1 eσ_1 => ?_)
    replace hw := hw.2 σ_1 eσ_1
    refine go_aload_n C 0 rfl rfl dX12_clause_80 ?_
    refine go_get (v := .ref (G.2.2.1 93)) C (shX12 G) (ltX12 hN) lkX12_70 rfl dX12_clause_81 ?_
    refine go_aload_n C 0 rfl rfl dX12_clause_84 ?_
    refine go_get (v := .int (gI σ_1 75 30)) C (shX12 G) (ltX12 hN) lkX12_356 rfl dX12_clause_85 ?_
    refine go_aload_n C 0 rfl rfl dX12_clause_88 ?_
    refine go_get (v := .int (gI σ_1 75 35)) C (shX12 G) (ltX12 hN) lkX12_291 rfl dX12_clause_89 ?_
    refine go_iast C (saX12_newAt G) (laX12_newAt hN) hw.1 dX12_clause_92 (go_nm fun σ_2 eσ_2 => ?_)
    replace hw := hw.2 σ_2 eσ_2
    refine go_aload_n C 0 rfl rfl dX12_clause_93 ?_
    refine go_callV (as := []) C hR (shX12 G) (ltX12 hN) cwX12_306 (Nat.le_trans (by decide) hd) (by decide) rfl rfl (Nat.le_of_ble_eq_true rfl) dX12_clause_94 (spX12_next (Nat.le_refl _) hN hw) (fun v_ τ_ hw => ?_)
    obtain ⟨rfl, hw⟩ := hw
    obtain ⟨σ_4, rfl⟩ : ∃ z, z = τ_ := ⟨_, rfl⟩
    refine go_iload_n C 1 rfl rfl dX12_clause_97 ?_
    refine go_iconst (v := 2) C rfl dX12_clause_98 ?_
    refine go_icmp_eq C 107 rfl dX12_clause_99 (fun hc => ?_) (fun hc => ?_)
    · replace hw := hw.1 hc
      exact (gbX12_clause_107 C hr hR hnl hd hN) _ _ hw
    · replace hw := hw.2 hc
      refine go_iload_n C 1 rfl rfl dX12_clause_102 ?_
      refine go_iconst (v := 3) C rfl dX12_clause_103 ?_
      refine go_icmp_ne C 188 rfl dX12_clause_104 (fun hc => ?_) (fun hc => ?_)
      · replace hw := hw.1 hc
        refine go_aload_n C 0 rfl rfl dX12_clause_188 ?_
        refine go_iload_n C 1 rfl rfl dX12_clause_189 ?_
        refine go_if_ne C 197 rfl dX12_clause_190 (fun hc => ?_) (fun hc => ?_)
        · replace hw := hw.1 hc
          refine go_iconst (v := 2) C rfl dX12_clause_197 ?_
          exact (gbX12_clause_198 C hr hR hnl hd hN) _ _ _ hw
        · replace hw := hw.2 hc
          refine go_iconst (v := 1) C rfl dX12_clause_193 ?_
          refine go_goto C 198 rfl dX12_clause_194 ?_
          exact (gbX12_clause_198 C hr hR hnl hd hN) _ _ _ hw
      · replace hw := hw.2 hc
        exact (gbX12_clause_107 C hr hR hnl hd hN) _ _ hw
  · replace hw := hw.2 hc
    exact go_vret C hr ⟨rfl, hw⟩ dX12_clause_69
set_option maxRecDepth 20000 in
set_option maxHeartbeats 4000000 in
theorem spX12_clause {l : Launch} {G : GT} {d : Nat}  (hd : 5 ≤ d)  (hN : 119 ≤ G.2.2.2.2.2)   {σ : St} {post : St → Prop} (hw : wpX12_clause   σ post) : Sp l G d yX12_clause cX12_clause 3 none [.ref (G.2.2.1 75)] σ (fun v τ => v = none ∧ post τ) := by
  refine Sp.of (by decide) (Nat.le_of_ble_eq_true rfl) fun X C hr hR hnl => ?_
  show Go X G 0 [(0, .ref (G.2.2.1 75))] [] σ
  have hw : ((¬ (gI σ 75 17) = 1 →
    wbX12_clause_16 post σ) ∧
  ((gI σ 75 17) = 1 →
    (((gI σ 75 18) ≤ 3 →
      ∀ v1_1 : Int32, v1_1 = (gI σ 75 18) →
      ((v1_1 = 1 →
        wbX12_clause_48 (wbX12_clause_62 post) post v1_1 σ) ∧
      (¬ v1_1 = 1 →
        wpX12_wasTold v1_1 σ (fun r_2 σ_3 =>
        ((r_2 = 0 →
          wbX12_clause_48 (wbX12_clause_62 post) post v1_1 σ_3) ∧
        (¬ r_2 = 0 →
          wpX12_errs 4 σ_3 (fun σ_5 =>
          wbX12_clause_62 post v1_1 σ_5))))))) ∧
    (¬ (gI σ 75 18) ≤ 3 →
      wbX12_clause_16 post σ)))) := hw
  refine go_aload_n C 0 rfl rfl dX12_clause_0 ?_
  refine go_get (v := .int (gI σ 75 17)) C (shX12 G) (ltX12 hN) lkX12_270 rfl dX12_clause_1 ?_
  refine go_iconst (v := 1) C rfl dX12_clause_4 ?_
  refine go_icmp_ne C 16 rfl dX12_clause_5 (fun hc => ?_) (fun hc => ?_)
  · replace hw := hw.1 hc
    exact (gbX12_clause_16 C hr hR hnl hd hN) _ hw
  · replace hw := hw.2 hc
    refine go_aload_n C 0 rfl rfl dX12_clause_8 ?_
    refine go_get (v := .int (gI σ 75 18)) C (shX12 G) (ltX12 hN) lkX12_281 rfl dX12_clause_9 ?_
    refine go_iconst (v := 3) C rfl dX12_clause_12 ?_
    refine go_icmp_le C 22 rfl dX12_clause_13 (fun hc => ?_) (fun hc => ?_)
    · replace hw := hw.1 hc
      refine go_aload_n C 0 rfl rfl dX12_clause_22 ?_
      refine go_get (v := .int (gI σ 75 18)) C (shX12 G) (ltX12 hN) lkX12_281 rfl dX12_clause_23 ?_
      refine go_topi (fun v1_1 ev1_1 => ?_)
      replace hw := hw v1_1 ev1_1
      refine go_istore_n (lv2 := [(1, .int v1_1), (0, .ref (G.2.2.1 75))]) C rfl (by rw [hnl]; decide) rfl dX12_clause_26 ?_
      refine go_iload_n C 0 rfl rfl dX12_clause_27 ?_
      refine go_iconst (v := 1) C rfl dX12_clause_28 ?_
      refine go_icmp_eq C 48 rfl dX12_clause_29 (fun hc => ?_) (fun hc => ?_)
      · replace hw := hw.1 hc
        refine go_sub [1, 0] rfl ?_
        exact (gbX12_clause_48 C hr hR hnl hd hN (gbX12_clause_62 C hr hR hnl hd hN)) _ _ hw
      · replace hw := hw.2 hc
        refine go_aload_n C 1 rfl rfl dX12_clause_32 ?_
        refine go_iload_n C 0 rfl rfl dX12_clause_33 ?_
        refine go_callV (as := [.int v1_1]) C hR (shX12 G) (ltX12 hN) cwX12_359 (Nat.le_trans (by decide) hd) (by decide) rfl rfl (Nat.le_of_ble_eq_true rfl) dX12_clause_34 (spX12_wasTold (Nat.le_refl _) hN hw) (fun v_ τ_ hw => ?_)
        obtain ⟨r_2, rfl, hw⟩ := hw
        obtain ⟨σ_3, rfl⟩ : ∃ z, z = τ_ := ⟨_, rfl⟩
        refine go_if_eq C 48 rfl dX12_clause_37 (fun hc => ?_) (fun hc => ?_)
        · replace hw := hw.1 hc
          refine go_sub [1, 0] rfl ?_
          exact (gbX12_clause_48 C hr hR hnl hd hN (gbX12_clause_62 C hr hR hnl hd hN)) _ _ hw
        · replace hw := hw.2 hc
          refine go_aload_n C 1 rfl rfl dX12_clause_40 ?_
          refine go_iconst (v := 4) C rfl dX12_clause_41 ?_
          refine go_callV (as := [.int 4]) C hR (shX12 G) (ltX12 hN) cwX12_300 (Nat.le_trans (by decide) hd) (by decide) rfl rfl (Nat.le_of_ble_eq_true rfl) dX12_clause_42 (spX12_errs (Nat.le_refl _) hN hw) (fun v_ τ_ hw => ?_)
          obtain ⟨rfl, hw⟩ := hw
          obtain ⟨σ_5, rfl⟩ : ∃ z, z = τ_ := ⟨_, rfl⟩
          refine go_goto C 62 rfl dX12_clause_45 ?_
          refine go_sub [1, 0] rfl ?_
          exact (gbX12_clause_62 C hr hR hnl hd hN) _ _ hw
    · replace hw := hw.2 hc
      exact (gbX12_clause_16 C hr hR hnl hd hN) _ hw
