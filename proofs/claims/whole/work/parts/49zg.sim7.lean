/-! taste: asks, in the machine -/
def GoA (σ : St) (K V S E : Nat → Nat) (post : Int32 → St → Prop) (q : Nat) (fr : List (Nat × Int)) (ws : List (Nat × Nat)) (o : Nat) (L : List (Nat × Nat)) : Prop := ∃ n m, ∀ st υ, RA σ υ K V S E st q fr ws o L → wbX12_askIsOver_0 (fun τ => wbX12_taste_86 post n τ) m υ
theorem A3 {σ : St} {K V S E : Nat → Nat} {post : Int32 → St → Prop} {q o : Nat} {fr : List (Nat × Int)} {x : Nat × Int} {ws L : List (Nat × Nat)} (hn : fr.length < 40) (hx : x.1 ≠ 3) (hx2 : x.1 < 10) (h : Gos σ K V S E post 3 q (fr ++ [x]) ws o L) : GoA σ K V S E post q (fr ++ [x]) ws o L := by
  obtain ⟨f, hf⟩ := h
  refine ⟨f, 1, fun st υ hυ => ?_⟩
  unfold wbX12_askIsOver_0
  refine rtop_ok hυ hn ?_
  rw [show (3 : Int32) = II 3 from rfl, I_eq (by omega)]
  refine ⟨fun _ => ?_, fun z => by omega⟩
  simp only [fe]
  exact hf _ (RA_st 3 hυ)
theorem Apop {σ : St} {K V S E : Nat → Nat} {post : Int32 → St → Prop} {q o : Nat} {fr : List (Nat × Int)} {d : Int} {ws L : List (Nat × Nat)} (hn : fr.length < 40) (ho : o < 100) (hL : L.length < 400) (h : GoA σ K V S E post q fr ws o (L ++ [(405, 0)])) : GoA σ K V S E post q (fr ++ [(3, d)]) ws (o + 1) L := by
  obtain ⟨n, m, hm⟩ := h
  refine ⟨n, m + 1, fun st υ hυ => ?_⟩
  unfold wbX12_askIsOver_0
  refine rtop_ok hυ hn ?_
  refine ⟨fun z => absurd rfl z, fun _ => ?_⟩
  have h6 := hυ.2.2.2.2.2.1
  rw [List.length_append, List.length_singleton] at h6
  have e1 : ((fr.length + 1 : Nat) : Int) - 1 = (fr.length : Int) := by omega
  have hP := RA_pop hυ
  have h5 := hP.2.2.2.2.1
  have e2 : ((o + 1 : Nat) : Int) - 1 = (o : Int) := by omega
  simp (disch := omega) only [fe, h6, I_lit, I_sub, e1, h5, e2]
  refine emits_ok (a := 405) (b := 0) (RA_open o hP) hL ?_
  intro τ hτ
  exact hm st τ hτ
theorem ask_tO : ∀ k, k ≤ 38 → sO k = 3 → ((tO k = 60 ∨ tO k = 62 ∨ tO k = 61 ∨ tO k = 35 ∨ tO k = 300 ∨ tO k = 301) ↔ (22 ≤ k ∧ k ≤ 27)) := by decide
theorem ask_ro : ∀ k, k < 28 → 22 ≤ k → ro k = (tO k, 0) := by decide
theorem isAsking_ok {υ : St} {k : Nat} {post : Int32 → St → Prop} (k38 : k < 36) (s3 : sO k = 3) (h1 : 22 ≤ k ∧ k ≤ 27 → post (II 1) υ) (h0 : ¬ (22 ≤ k ∧ k ≤ 27) → post (II 0) υ) : wpX12_isAsking (II (tO k : Nat)) υ post := by
  have a := ask_tO k (by omega) s3
  have tb := tO_b k k38
  simp (disch := omega) only [wpX12_isAsking, I_lit, I_eq]
  refine ⟨fun z => h1 (a.mp (by omega)), fun z1 => ⟨fun z => h1 (a.mp (by omega)), fun z2 => ⟨fun z => h1 (a.mp (by omega)), fun z3 => ⟨fun z => h1 (a.mp (by omega)), fun z4 => ⟨fun z => h1 (a.mp (by omega)), fun z5 => ⟨fun z => h0 (fun y => by have := a.mpr y; omega), fun z => h1 (a.mp (by omega))⟩⟩⟩⟩⟩⟩
/-- the left side of a comparing is over -/
theorem left_sim {σ : St} {K V S E : Nat → Nat} {N : Nat} {post : Int32 → St → Prop} {o q : Nat} {fr : List (Nat × Int)} {ws pd L L' : List (Nat × Nat)} (hX : NX σ K V S E N) (hT : Tk K N) (hwb : WsB ws fr.length) (hwl : ws.length ≤ 2 * fr.length) (hfl : fr.length ≤ 30) (hq : q ≤ N) (h1 : isMul (K q) = false) (h2 : isAdd (K q) = false) (hpd : WkW pd (fr.length + 1) 3) (hpl : pd.length ≤ 2) (hL : L' ++ opsR pd = L) (hLl : L.length < 400)
    (hS : 22 ≤ K q ∧ K q ≤ 27 → Gos σ K V S E post 1 (q + 1) (fr ++ [(5, ((tO (K q) : Nat) : Int))]) ws o L) (hE : ¬ (22 ≤ K q ∧ K q ≤ 27) → GoF σ S post (1, q)) : Gos σ K V S E post 2 q (fr ++ [(4, 0)]) (ws ++ pd) o L' := by
  have k38 := Tk_le hT hq
  have ll := congrArg List.length hL
  rw [List.length_append, opsR_len] at ll
  have s65 : ∀ {n : Nat} {υ : St}, wbX12_goesOn_203 (fun τ => wbX12_taste_86 post n τ) (II ((4 : Nat) : Int)) υ → wbX12_goesOn_65 (fun τ => wbX12_taste_86 post n τ) (II ((4 : Nat) : Int)) υ := fun {n υ} h => by
    simp (disch := omega) only [wbX12_goesOn_65, wbX12_goesOn_158, I_lit, I_eq]
    exact ⟨fun z => by omega, fun _ => ⟨fun _ => ⟨fun _ => h, fun z => by omega⟩, fun z => by omega⟩⟩
  by_cases c : 22 ≤ K q ∧ K q ≤ 27
  · obtain ⟨n, hn⟩ := hS c
    have hN : q ≠ N := fun e => by rw [e, hT.1] at c; omega
    refine goes65 n hT hq hfl h1 h2 ?_
    intro υ h
    refine s65 ?_
    have t := RA_TA h
    have s3 : sO (K q) = 3 := sg_one (K q) (by omega) (by omega)
    have tb := tO_b (K q) (by omega)
    unfold wbX12_goesOn_203
    refine ⟨fun z => absurd rfl z, fun _ => ?_⟩
    rw [t.1, s3, t.2.1 (by omega)]
    refine ⟨fun z => absurd rfl z, fun _ => ?_⟩
    have go : ((¬ II 1 = 0 → wpX12_works 3 υ (fun σ_4 => vp_in (gI σ_4 75 22) 41 ∧ (∀ σ_5 : St, σ_5 = sI σ_4 89 (gI σ_4 75 22).toNatClampNeg (gI σ_4 75 18) → vp_in ((gI σ_5 75 22) - 1) 40 ∧ (∀ σ_6 : St, σ_6 = sI σ_5 87 ((gI σ_5 75 22) - 1).toNatClampNeg 5 → wpX12_next σ_6 (fun σ_8 => ∀ σ_9 : St, σ_9 = sI σ_8 75 29 1 → wbX12_taste_86 post n σ_9))))) ) := by
      intro _
      refine works_ok (r := 3) (by omega) (by rw [len1]; omega) (by rw [len1]; exact WsB_stp hwb (by omega)) (by rw [len1]; exact hpd) (by rw [List.length_append]; omega) (by omega) h ?_
      intro τ hτ
      rw [hL] at hτ
      have h6 := hτ.2.2.2.2.2.1
      rw [len1] at h6
      have t' := (RA_TA hτ).2.1 (by omega)
      have j0 : gI (sI τ 89 (fr.length + 1) (II (tO (K q) : Nat))) 75 22 = II ((fr.length + 1 : Nat) : Int) := by rw [rI2 (by omega)]; exact h6
      have j : (((fr.length + 1 : Nat) : Int) - 1).toNat = fr.length := by omega
      simp (disch := omega) only [fe, h6, t', I_lit, I_sub, I_in, true_and, I_cl, Int.toNat_natCast, j0, j]
      have hτ5 : RA σ (sI (sI τ 89 (fr.length + 1) (II (tO (K q) : Nat))) 87 fr.length (II 5)) K V S E 2 q (fr ++ [(5, ((tO (K q) : Nat) : Int))]) ws o L := by
        obtain ⟨g1, g2, g3, g4, g5, g6, g7, g8, g9, g10, g11, g12, t1, t2, t3, t4, t5⟩ := hτ
        have ge : ∀ q', q' ≠ 87 → q' ≠ 89 → (sI (sI τ 89 (fr.length + 1) (II (tO (K q) : Nat))) 87 fr.length (II 5)) q' = τ q' := fun q' a b => (Eqx_tI (Eqx_tI (Eqx.refl [89, 87] τ) (by simp)) (by simp) q' (by simp; omega)).symm
        have g75 : ∀ f, gI (sI (sI τ 89 (fr.length + 1) (II (tO (K q) : Nat))) 87 fr.length (II 5)) 75 f = gI τ 75 f := fun f => by rw [gI_of (ge 75 (by omega) (by omega))]
        refine ⟨Eqx_tI (Eqx_tI g1 (by simp [ML])) (by simp [ML]), fun f hf => by rw [g75]; exact g2 f hf, by rw [g75]; exact g3, by rw [g75]; exact g4, by rw [g75]; exact g5, by rw [g75, len1]; rw [len1] at g6; exact g6, by rw [g75]; exact g7, by rw [g75]; exact g8, by rw [g75]; exact g9, fun i hi => ?_, PrA_eq g11 (ge 90 (by omega) (by omega)) (ge 91 (by omega) (by omega)), PrA_eq g12 (ge 94 (by omega) (by omega)) (ge 95 (by omega) (by omega)), by rw [g75]; exact t1, fun z => by rw [g75]; exact t2 z, fun z => by rw [g75]; exact t3 z, by rw [g75]; exact t4, by rw [g75]; exact t5⟩
        clear t3
        rw [len1] at hi
        have := g10 i (by rw [len1]; exact hi)
        rw [gI_of (ge 88 (by omega) (by omega))]
        by_cases e : i = fr.length
        · rw [e, gdB] at this ⊢
          exact ⟨rI1, fun z => absurd (show (5 : Nat) = 8 ∨ (5 : Nat) = 9 from z) (by decide), fun _ => by rw [rI2 (by omega), rI1]⟩
        · rw [gdA _ _ _ _ (by omega)] at this ⊢
          rw [rI3 e, rI2 (by omega), rI2 (by omega), rI3 (by omega)]; exact this
      exact hX _ 2 q o _ ws L _ (by omega) hτ5 (fun α hα => hn _ (RA_st 1 hα))
    exact isAsking_ok (by omega) s3 (fun _ => ⟨fun z => absurd z i10, go⟩) (fun z => absurd c z)
  · obtain ⟨n, hn⟩ := hE c
    refine goes65 n hT hq hfl h1 h2 ?_
    intro υ h
    refine s65 ?_
    have t := RA_TA h
    have c268 : wbX12_goesOn_268 (fun τ => wbX12_taste_86 post n τ) (II ((4 : Nat) : Int)) υ := by
      simp (disch := omega) only [wbX12_goesOn_268, wbX12_goesOn_332, I_lit, I_eq]
      exact ⟨fun _ => ⟨fun _ => errs_ok (f := 1) h (by omega) (fun τ hτ => hn τ hτ), fun z => by omega⟩, fun z => by omega⟩
    have sb := sO_b (K q) k38
    unfold wbX12_goesOn_203
    refine ⟨fun z => absurd rfl z, fun _ => ?_⟩
    rw [t.1, show (3 : Int32) = II 3 from rfl, I_eq (by omega)]
    refine ⟨fun _ => c268, fun z => ?_⟩
    have l := sO_36 (K q) k38 (Or.inl (by omega))
    have tb := tO_b (K q) l
    rw [t.2.1 l]
    exact isAsking_ok l (by omega) (fun y => absurd y c) (fun _ => ⟨fun _ => c268, fun y => absurd rfl y⟩)
/-- the right side is over -/
theorem right_sim {σ : St} {K V S E : Nat → Nat} {N : Nat} {post : Int32 → St → Prop} {o q w : Nat} {fr : List (Nat × Int)} {ws pd L L' : List (Nat × Nat)} (hT : Tk K N) (hwb : WsB ws fr.length) (hwl : ws.length ≤ 2 * fr.length) (hfl : fr.length ≤ 30) (hq : q ≤ N) (h1 : isMul (K q) = false) (h2 : isAdd (K q) = false) (hpd : WkW pd (fr.length + 1) 3) (hpl : pd.length ≤ 2) (hL : L' ++ opsR pd = L) (hLl : L.length < 400)
    (hS : GoA σ K V S E post q fr ws o (L ++ [(w, 0)])) : Gos σ K V S E post 2 q (fr ++ [(5, (w : Int))]) (ws ++ pd) o L' := by
  have ll := congrArg List.length hL
  rw [List.length_append, opsR_len] at ll
  obtain ⟨n, m, hm⟩ := hS
  refine goes65 n hT hq hfl h1 h2 ?_
  intro υ h
  have c268 : wbX12_goesOn_268 (fun τ => wbX12_taste_86 post n τ) (II ((5 : Nat) : Int)) υ := by
    unfold wbX12_goesOn_268
    refine ⟨fun z => absurd rfl z, fun _ => ?_⟩
    refine works_ok (r := 3) (by omega) (by rw [len1]; omega) (by rw [len1]; exact WsB_stp hwb (by omega)) (by rw [len1]; exact hpd) (by rw [List.length_append]; omega) (by omega) h ?_
    intro τ hτ
    rw [hL] at hτ
    have h6 := hτ.2.2.2.2.2.1
    rw [len1] at h6
    have hF := hτ.2.2.2.2.2.2.2.2.2.1 fr.length (by rw [len1]; omega)
    rw [gdB] at hF
    have e89 := hF.2.2 rfl
    have hP := RA_pop hτ
    have j1 : ((fr.length + 1 : Nat) : Int) - 1 = (fr.length : Int) := by omega
    simp (disch := omega) only [fe, h6, I_lit, I_sub, I_in, true_and, I_cl, Int.toNat_natCast, j1, e89]
    refine emits_ok (a := w) (b := 0) hP (by omega) ?_
    intro ρ hρ
    exact ⟨m, hm _ ρ hρ⟩
  simp (disch := omega) only [wbX12_goesOn_65, wbX12_goesOn_158, wbX12_goesOn_203, I_lit, I_eq]
  exact ⟨fun z => by omega, fun _ => ⟨fun _ => ⟨fun _ => ⟨fun _ => c268, fun z => by omega⟩, fun z => by omega⟩, fun z => by omega⟩⟩
theorem ask_sim {σ : St} {K V S E : Nat → Nat} {N : Nat} {post : Int32 → St → Prop} (hX : NX σ K V S E N) (hT : Tk K N) : ∀ d : Nat, d ≤ 8 → ∀ (p : Nat) (fr : List (Nat × Int)) (x : Nat × Int) (ws L : List (Nat × Nat)), p ≤ N → x.1 < 10 → fr.length + d ≤ 9 → WsB ws (fr.length + 1) → ws.length ≤ 2 * (fr.length + 1) → L.length ≤ p →
    (∀ q c, pAsk K V d p = .inl (q, c) → GoA σ K V S E post q (fr ++ [x]) ws (8 - d) (L ++ roL c)) → (∀ e, pAsk K V d p = .inr e → GoF σ S post e) → Gos σ K V S E post 0 p (fr ++ [x]) ws (8 - d) L := by
  have n3 := hT.2.1
  have cmp : ∀ d : Nat, d ≤ 8 → ∀ (p : Nat) (fr : List (Nat × Int)) (x : Nat × Int) (ws L : List (Nat × Nat)), p ≤ N → x.1 < 10 → fr.length + d ≤ 9 → WsB ws (fr.length + 1) → ws.length ≤ 2 * (fr.length + 1) → L.length ≤ p → K p ≠ 19 →
      (∀ q c, pCm K V d p = .inl (q, c) → GoA σ K V S E post q (fr ++ [x]) ws (8 - d) (L ++ roL c)) → (∀ e, pCm K V d p = .inr e → GoF σ S post e) → Gos σ K V S E post 0 p (fr ++ [x]) ws (8 - d) L := by
    intro d hd p fr x ws L hp hx hfl hwb hwl hL k19 hS hE
    have k38 := Tk_le hT hp
    have hLo := Ln_pOne (V := V) hT d
    have hLs := Ln_pSm hT hLo
    have opd : ∀ y : Nat × Int, y.1 < 10 → y.1 ≠ 7 → OpS σ K V S E N post (pOne K V d) 1 2 ((fr ++ [x]) ++ [y]) (8 - d) := by
      intro y hy hy7 p' ws' L' hp' hw' hl' hL' hS' hE'
      rw [len1, len1] at hw' hl'
      refine one_sim hX hT d hd p' (fr ++ [x]) y ws' L' hp' hy (by rw [len1]; omega) (by rw [len1]; exact hw') (by rw [len1]; omega) hL' (fun q c e => ?_) hE'
      exact V2 (by rw [len1]; omega) hy7 hy (hS' q c e)
    unfold pCm at hS hE
    have g := sum_sim (x := (4, 0)) (p := p) (fr := fr ++ [x]) (ws := ws) (Lb := L) hX hT hLo (opd (4, 0) (by decide) (by decide)) (by rw [len1]; exact hwb) (by rw [len1]; exact hwl) (by rw [len1]; omega) hp hL (fun q c e m1 m2 pd L' hpd hpl hL' => by
      obtain ⟨z1, z2⟩ := hLs p hp q c e
      rw [e] at hS hE
      refine left_sim (L := L ++ roL c) hX hT (by rw [len1]; exact hwb) (by rw [len1]; exact hwl) (by rw [len1]; omega) z1 m1 m2 hpd hpl hL' (by rw [List.length_append, roL_len]; omega) (fun kc => ?_) (fun kc => ?_)
      · have hN3 : q ≠ N := fun e => by rw [e, hT.1] at kc; omega
        have e1 : bd (.inl (q, c)) (exC K (pSm K (pOne K V d))) = bd (.inl (q, c)) (fun _ => em (K q) (pSm K (pOne K V d) (q + 1))) := by unfold bd exC; simp only; rw [if_pos kc]
        rw [e1] at hS hE
        refine sum_sim (x := (5, ((tO (K q) : Nat) : Int))) (p := q + 1) (fr := fr ++ [x]) (ws := ws) (Lb := L ++ roL c) hX hT hLo (opd (5, ((tO (K q) : Nat) : Int)) (by simp) (by simp)) (by rw [len1]; exact hwb) (by rw [len1]; exact hwl) (by rw [len1]; omega) (by omega) (by rw [List.length_append, roL_len]; omega) (fun q2 c2 e2 n1 n2 pd2 L2 hpd2 hpl2 hL2 => ?_) (fun e e2 => hE e (by rw [e2]; rfl))
        obtain ⟨y1, y2⟩ := hLs (q + 1) (by omega) q2 c2 e2
        refine right_sim (L := L ++ roL c ++ roL c2) hT (by rw [len1]; exact hwb) (by rw [len1]; exact hwl) (by rw [len1]; omega) y1 n1 n2 hpd2 hpl2 hL2 (by rw [List.length_append, List.length_append, roL_len, roL_len]; omega) ?_
        have := hS q2 (c ++ (c2 ++ [K q])) (by rw [e2]; rfl)
        rw [roL_app, roL_app, ← List.append_assoc, ← List.append_assoc] at this
        have er : roL [K q] = [(tO (K q), 0)] := by
          unfold roL
          simp only [List.map_cons, List.map_nil]
          rw [ask_ro (K q) (by omega) (by omega)]
        rw [er] at this
        exact this
      · exact hE (1, q) (by unfold bd exC; simp only; rw [if_neg kc])) (fun e e2 => hE e (by rw [e2]; rfl))
    obtain ⟨n, hn⟩ := g
    refine go_ok (by omega) n (fun _ υ h => ?_) (fun z => by omega) (fun z => by omega) (fun z => by omega)
    unfold wpX12_asks
    refine isWord_ok 19 (RA_TA h) k38 (by omega) (fun y => absurd y k19) (fun _ => ⟨fun _ => ?_, fun z => absurd rfl z⟩)
    refine push_ok (a := 4) h (by rw [len1]; omega) (by omega) ?_
    intro τ hτ
    simp only [fe]
    exact hn _ (RA_st 1 (hτ 0))
  intro d
  induction d with
  | zero =>
    intro hd p fr x ws L hp hx hfl hwb hwl hL hS hE
    simp only [pAsk] at hS hE
    by_cases k19 : K p = 19
    · rw [if_pos k19] at hE
      obtain ⟨n, hn⟩ := hE _ rfl
      have hN : p ≠ N := fun e => by rw [e, hT.1] at k19; omega
      refine go_ok (by omega) n (fun _ υ h => ?_) (fun z => by omega) (fun z => by omega) (fun z => by omega)
      unfold wpX12_asks
      refine isWord_ok 19 (RA_TA h) (by omega) (by omega) (fun _ => ⟨fun z => absurd z i10, fun _ => ?_⟩) (fun y => absurd k19 y)
      exact openS_ok (a := 3) hX (by omega) h (by rw [len1]; omega) (by omega) (by omega) (fun y => by omega) (fun _ τ hτ => hn τ hτ)
    · rw [if_neg k19] at hS hE
      exact cmp 0 hd p fr x ws L hp hx hfl hwb hwl hL k19 hS hE
  | succ d ih =>
    intro hd p fr x ws L hp hx hfl hwb hwl hL hS hE
    simp only [pAsk] at hS hE
    have o1 : 8 - (d + 1) + 1 = 8 - d := by omega
    by_cases k19 : K p = 19
    · rw [if_pos k19] at hS hE
      have hN : p ≠ N := fun e => by rw [e, hT.1] at k19; omega
      have hLa := Ln_pAsk (V := V) hT d
      have g := ih (by omega) (p + 1) (fr ++ [x]) (3, 0) ws L (by omega) (by decide) (by rw [len1]; omega) (by rw [len1]; exact WsB_mono hwb (by omega)) (by rw [len1]; omega) (by omega) (fun q c e => by
        have := hS q (c ++ [19]) (by rw [e]; rfl)
        rw [← o1]
        refine Apop (by rw [len1]; omega) (by omega) ?_ ?_
        · have := hLa (p + 1) (by omega) q c e
          rw [List.length_append, roL_len]; omega
        · rw [roL_app, ← List.append_assoc] at this; exact this) (fun e e2 => hE e (by rw [e2]; rfl))
      obtain ⟨n, hn⟩ := g
      refine go_ok (by omega) n (fun _ υ h => ?_) (fun z => by omega) (fun z => by omega) (fun z => by omega)
      unfold wpX12_asks
      refine isWord_ok 19 (RA_TA h) (by omega) (by omega) (fun _ => ⟨fun z => absurd z i10, fun _ => ?_⟩) (fun y => absurd k19 y)
      refine openS_ok (a := 3) hX (by omega) h (by rw [len1]; omega) (by omega) (by omega) (fun _ τ hτ => ?_) (fun y => by omega)
      rw [o1] at hτ; exact hn τ hτ
    · rw [if_neg k19] at hS hE
      exact cmp (d + 1) hd p fr x ws L hp hx hfl hwb hwl hL k19 hS hE
