theorem cl_w : ∀ k, k < 22 → (tO k ≤ 3 ↔ (k = 14 ∨ k = 15 ∨ k = 0 ∨ k = 16)) := by decide
theorem ords_ccl (cl : Cls) (x : Nat × List Nat) : (ords (cl ++ [x])).length = (ords cl).length + x.2.length + 1 := by rw [ords_app, List.length_append, List.length_append, roL_len, List.length_singleton]; omega
theorem cl_sim {σ : St} {K V S E : Nat → Nat} {N : Nat} {post : Int32 → St → Prop} (hX : ∀ σ' : St, σ' 79 = σ 79 → gI σ' 75 14 = gI σ 75 14 → NX σ' K V S E N) (hT : Tk K N) : ∀ f p cl nr ps A B, 14 ≤ cl.length + f → cl.length ≤ 12 → Kd cl → AF A B cl → p ≤ N → (ords cl).length ≤ p →
    (∀ r, pAll K V f p cl nr ps = .inl r → ∀ q A' B', q ≤ N → K q = 37 → Kd r.1 → AF A' B' r.1 → r.1.length ≤ 12 → (ords r.1).length ≤ q → GoC σ A' B' K V S E post q r.1 r.2.1 r.2.2) → (∀ e, pAll K V f p cl nr ps = .inr e → GoE σ S post e) → GoC σ A B K V S E post p cl nr ps := by
  have n3 := hT.2.1
  intro f
  induction f with
  | zero => intro p cl nr ps A B h1 h2; omega
  | succ f ih =>
    intro p cl nr ps A B hf hl hkd haf hp hol hS hE
    have k38 := Tk_le hT hp
    have ep : pAll K V (f + 1) p cl nr ps = if K p = 37 then .inl (cl, nr, ps)
      else if ¬ (K p = 14 ∨ K p = 15 ∨ K p = 0 ∨ K p = 16) then .inr (1, p)
      else if K p ≠ 15 ∧ told cl (K p) = true then .inr (4, p)
      else if 12 ≤ cl.length then .inr (5, p)
      else match pCl K V p with
        | .inl r => pAll K V f r.1 (cl ++ [(K p, r.2)]) (if K p = 0 then V (p + 1) else nr) (if K p = 16 then V (p + 1) else ps)
        | .inr e => .inr e := rfl
    rw [ep] at hS hE
    by_cases k37 : K p = 37
    · rw [if_pos k37] at hS
      exact hS _ rfl p A B hp k37 hkd haf hl hol
    · rw [if_neg k37] at hS hE
      have hN : p ≠ N := fun e => k37 (by rw [e]; exact hT.1)
      have sb := sO_b (K p) k38
      by_cases kw : K p = 14 ∨ K p = 15 ∨ K p = 0 ∨ K p = 16
      · rw [if_neg (fun z => z kw)] at hS hE
        have s1 : sO (K p) = 1 := wd_one (K p) (by omega)
        have t3 : tO (K p) ≤ 3 := (cl_w (K p) (by omega)).mpr kw
        have tw1 : tO (K p) = 1 ↔ K p = 15 := ⟨fun e => tO_22 (K p) (by omega) 15 (by omega) (by rw [e]; rfl), fun e => by rw [e]; rfl⟩
        -- how clause comes to its checks
        have into : ∀ {n : Nat} {υ : St}, RCk σ A B υ K V S E p cl nr ps → ((K p ≠ 15 ∧ told cl (K p) = true) → wpX12_errs 4 υ (fun τ => wbX12_clause_62 (fun τ => wbX12_taste_86 post n τ) (II (tO (K p) : Nat)) τ)) → (¬ (K p ≠ 15 ∧ told cl (K p) = true) → wbX12_clause_48 (wbX12_clause_62 (fun τ => wbX12_taste_86 post n τ)) (fun τ => wbX12_taste_86 post n τ) (II (tO (K p) : Nat)) υ) → wpX12_clause υ (fun τ => wbX12_taste_86 post n τ) := by
          intro n υ h g4 g0
          have t := h.2.2.2.2.2.2.2.2.2.2.2.2.2.2.2
          unfold wpX12_clause
          rw [t.1, s1, t.2.1 (by omega)]
          refine ⟨fun z => absurd rfl z, fun _ => ?_⟩
          rw [show (3 : Int32) = II 3 from rfl, I_le (by omega)]
          refine ⟨fun _ => ?_, fun z => absurd (by omega) z⟩
          simp only [fe]
          rw [show (1 : Int32) = II 1 from rfl, I_eq (by omega)]
          refine ⟨fun z => g0 (fun y => y.1 (tw1.mp (by omega))), fun z => ?_⟩
          have n15 : K p ≠ 15 := fun e => z (by rw [tw1.mpr e]; rfl)
          refine wasTold_ok h.2.2.2.2.2.2.2.2.2.2.1 hl (fun i hi => ?_) (fun i hi => ?_) (by omega) ?_
          · show (υ 92).1 i = _
            rw [h.2.1]; exact (haf i hi).1
          · have hm : cl.getD i (0, []) ∈ cl := by
              rw [List.getD_eq_getElem?_getD, List.getElem?_eq_getElem hi]
              exact List.getElem_mem hi
            have := hkd _ hm
            omega
          · cases c : told cl (K p) with
            | false => exact ⟨fun _ => g0 (fun y => by rw [c] at y; exact absurd y.2 (by decide)), fun y => absurd rfl y⟩
            | true => exact ⟨fun y => absurd y i10, fun _ => g4 ⟨n15, c⟩⟩
        have c62F : ∀ {n : Nat} {τ : St} {e : Nat × Nat} {n1 n2 n3 : Nat} {A' B' : CS}, RF (bs92 σ A' B' n1 n2 n3) τ S e → wbX12_taste_86 post n τ → wbX12_clause_62 (fun τ => wbX12_taste_86 post n τ) (II (tO (K p) : Nat)) τ := by
          intro n τ e n1 n2 n3 A' B' hτ hq
          unfold wbX12_clause_62
          rw [hτ.2.2.1, show (0 : Int32) = II 0 from rfl, I_le (by have := hτ.2.2.2.2; omega)]
          exact ⟨fun z => by have := hτ.2.2.2.2; omega, fun _ => hq⟩
        by_cases k4 : K p ≠ 15 ∧ told cl (K p) = true
        · rw [if_pos k4] at hE
          obtain ⟨n, hn⟩ := GoE_F (A := A) (B := B) (n := cl.length) (nr := nr) (ps := ps) (hE _ rfl)
          refine goC_ok hT hp k37 n (fun υ h => into h (fun _ => ?_) (fun z => absurd k4 z))
          exact errs_ok (f := 4) (RCk_RA h) (by omega) (fun τ hτ => c62F hτ (hn τ hτ))
        · rw [if_neg k4] at hS hE
          by_cases k5 : 12 ≤ cl.length
          · rw [if_pos k5] at hE
            obtain ⟨n, hn⟩ := GoE_F (A := A) (B := B) (n := cl.length) (nr := nr) (ps := ps) (hE _ rfl)
            refine goC_ok hT hp k37 n (fun υ h => into h (fun z => absurd z k4) (fun _ => ?_))
            unfold wbX12_clause_48
            rw [h.2.2.2.2.2.2.2.2.2.2.1, show cl.length = 12 by omega]
            refine ⟨fun z => absurd rfl z, fun _ => ?_⟩
            exact errs_ok (f := 5) (RCk_RA h) (by omega) (fun τ hτ => c62F hτ (hn τ hτ))
          · rw [if_neg k5] at hS hE
            obtain ⟨A', eA⟩ : ∃ A', A' = upC A cl.length (II (tO (K p) : Nat)) := ⟨_, rfl⟩
            obtain ⟨B', eB⟩ : ∃ B', B' = upC B cl.length (II ((ords cl).length : Nat)) := ⟨_, rfl⟩
            have af' : ∀ c, AF A' B' (cl ++ [(K p, c)]) := by
              intro c i hi
              rw [len1] at hi
              rw [eA, eB, upC_at, upC_at]
              by_cases e : i = cl.length
              · rw [if_pos e, if_pos e, e, gdB, List.take_left]
                exact ⟨rfl, rfl⟩
              · rw [if_neg e, if_neg e, gdA _ _ _ _ (by omega), List.take_append_of_le_length (by omega)]
                exact haf i (by omega)
            have kd' : ∀ c, Kd (cl ++ [(K p, c)]) := by
              intro c x hx
              rw [List.mem_append] at hx
              rcases hx with hx | hx
              · exact hkd x hx
              · have : x = (K p, c) := by simpa using hx
                rw [this]; exact kw
            -- what follows the clause
            have next : ∀ q c, pCl K V p = .inl (q, c) → q ≤ N → p + 1 + c.length + 1 ≤ q → GoC σ A' B' K V S E post q (cl ++ [(K p, c)]) (if K p = 0 then V (p + 1) else nr) (if K p = 16 then V (p + 1) else ps) := by
              intro q c e hq hlen
              rw [e] at hS hE
              refine ih q (cl ++ [(K p, c)]) _ _ A' B' (by rw [len1]; omega) (by rw [len1]; omega) (kd' c) (af' c) hq (by rw [ords_ccl]; simp only; omega) hS hE
            have nextE : ∀ e, pCl K V p = .inr e → GoE σ S post e := fun e e2 => hE e (by rw [e2])
            -- the cells of the clause are told
            have to62 : ∀ {n : Nat}, (∀ υ, RA (bs92 σ A' B' cl.length nr ps) υ K V S E 4 (p + 1) [] [] 0 (ords cl) → ((II (tO (K p) : Nat) = 2 → wbX12_clause_107 (fun τ => wbX12_taste_86 post n τ) (II (tO (K p) : Nat)) υ) ∧ (¬ II (tO (K p) : Nat) = 2 → ((¬ II (tO (K p) : Nat) = 3 → ((¬ II (tO (K p) : Nat) = 0 → wbX12_clause_198 (fun τ => wbX12_taste_86 post n τ) (II (tO (K p) : Nat)) 2 υ) ∧ (II (tO (K p) : Nat) = 0 → wbX12_clause_198 (fun τ => wbX12_taste_86 post n τ) (II (tO (K p) : Nat)) 1 υ))) ∧ (II (tO (K p) : Nat) = 3 → wbX12_clause_107 (fun τ => wbX12_taste_86 post n τ) (II (tO (K p) : Nat)) υ))))) → GoC σ A B K V S E post p cl nr ps := by
              intro n hgo
              refine goC_ok hT hp k37 n (fun υ h => into h (fun z => absurd z k4) (fun _ => ?_))
              have e30 := h.2.2.2.2.2.2.2.2.2.2.1
              have e35 := h.2.2.2.2.2.2.2.2.2.2.2.2.2.1
              have c62 : wbX12_clause_62 (fun τ => wbX12_taste_86 post n τ) (II (tO (K p) : Nat)) υ := by
                have j1 : gI (sI υ 92 cl.length (II (tO (K p) : Nat))) 75 30 = II (cl.length : Nat) := by rw [rI2 (by omega)]; exact e30
                have j2 : gI (sI υ 92 cl.length (II (tO (K p) : Nat))) 75 35 = II ((ords cl).length : Nat) := by rw [rI2 (by omega)]; exact e35
                unfold wbX12_clause_62
                rw [h.2.2.2.2.1, e30]
                refine ⟨fun _ => ⟨of_eq_true (I_in (by omega)), ?_⟩, fun z => absurd (by decide) z⟩
                simp only [fe]
                rw [I_cl (by omega), Int.toNat_natCast, j1, j2, I_cl (by omega), Int.toNat_natCast]
                refine ⟨of_eq_true (I_in (by omega)), ?_⟩
                have hR : RA (bs92 σ A' B' cl.length nr ps) (sI (sI υ 92 cl.length (II (tO (K p) : Nat))) 93 cl.length (II ((ords cl).length : Nat))) K V S E 4 p [] [] 0 (ords cl) := by
                  refine RCk_RA ?_
                  obtain ⟨h1, h2, h3, h4, h5, h6, h7, h8, h9, h10, h11, h12, h13, h14, h15, t1, t2, t3, t4, t5⟩ := h
                  have ge : ∀ q, q ≠ 92 → q ≠ 93 → (sI (sI υ 92 cl.length (II (tO (K p) : Nat))) 93 cl.length (II ((ords cl).length : Nat))) q = υ q := fun q a b => (Eqx_tI (Eqx_tI (Eqx.refl [92, 93] υ) (by simp)) (by simp) q (by simp; omega)).symm
                  have g : ∀ f, gI (sI (sI υ 92 cl.length (II (tO (K p) : Nat))) 93 cl.length (II ((ords cl).length : Nat))) 75 f = gI υ 75 f := fun f => by rw [gI_of (ge 75 (by omega) (by omega))]
                  refine ⟨Eqx_tI (Eqx_tI h1 (by simp [MC])) (by simp [MC]), ?_, ?_, fun f hf => by rw [g]; exact h4 f hf, by rw [g]; exact h5, by rw [g]; exact h6, by rw [g]; exact h7, by rw [g]; exact h8, by rw [g]; exact h9, by rw [g]; exact h10, by rw [g]; exact h11, by rw [g]; exact h12, by rw [g]; exact h13, by rw [g]; exact h14, PrA_eq h15 (ge 94 (by omega) (by omega)) (ge 95 (by omega) (by omega)), by rw [g]; exact t1, fun z => by rw [g]; exact t2 z, fun z => by rw [g]; exact t3 z, by rw [g]; exact t4, by rw [g]; exact t5⟩
                  · have : (sI (sI υ 92 cl.length (II (tO (K p) : Nat))) 93 cl.length (II ((ords cl).length : Nat))) 92 = (sI υ 92 cl.length (II (tO (K p) : Nat))) 92 := (Eqx_tI (Eqx.refl [93] _) (by simp) 92 (by simp)).symm
                    rw [this, sI_cell, h2, eA]
                  · have : (sI υ 92 cl.length (II (tO (K p) : Nat))) 93 = υ 93 := (Eqx_tI (Eqx.refl [92] _) (by simp) 93 (by simp)).symm
                    rw [sI_cell, this, h3, eB]
                exact (hX (bs92 σ A' B' cl.length nr ps) (bs_q (by omega)) (bs_f (by omega))) _ 4 p 0 [] [] _ _ (by omega) hR (fun α hα => hgo α hα)
              unfold wbX12_clause_48
              rw [e30, show (12 : Int32) = II 12 from rfl, I_eq (by omega)]
              exact ⟨fun _ => c62, fun z => by omega⟩
            have hp1 : p + 1 ≤ N := by omega
            have LS := Ln_pSm hT (Ln_pOne (V := V) hT 8)
            have LE := Ln_pEi (V := V) hT
            have lex : ∀ (r : Res) (q : Nat) (c : List Nat), bd r (exT K 35) = .inl (q, c) → ∃ q0, r = .inl (q0, c) ∧ q = q0 + 1 ∧ K q0 = 35 := by
              intro r q c e
              obtain ⟨a, b, h1, h2, h3⟩ := bd_inl e
              unfold exT at h2
              split at h2
              · rename_i k35
                simp only [Sum.inl.injEq, Prod.mk.injEq] at h2
                refine ⟨a.1, ?_, h2.1.symm, k35⟩
                rw [h1, h3, ← h2.2, List.append_nil]
              · exact absurd h2 (by simp)
            by_cases k14 : K p = 14
            · have epc : pCl K V p = bd (pSm K (pOne K V 8) (p + 1)) (exT K 35) := by unfold pCl; rw [if_pos k14]
              rw [epc] at next nextE
              rw [if_neg (by omega), if_neg (by omega), k14] at next
              have g := worth_sim (post := post) (cl := cl) (A := A') (B := B') (nr := nr) (ps := ps) hX hT hp1 (by omega) (fun q c e => by
                obtain ⟨q0, e1, e2, e3⟩ := lex _ q c e
                have l := LS (p + 1) hp1 q0 c e1
                have hq0 : q0 ≠ N := fun z => by rw [z, hT.1] at e3; omega
                exact next q c e (by omega) (by omega)) nextE
              obtain ⟨n, hn⟩ := g
              refine to62 (n := n) (fun υ h => ?_)
              rw [k14]
              refine ⟨fun z => absurd z (by decide), fun _ => ⟨fun _ => ⟨fun z => absurd rfl z, fun _ => ?_⟩, fun z => absurd z (by decide)⟩⟩
              unfold wbX12_clause_198
              refine push_ok (a := 1) h (by simp) (by omega) ?_
              intro τ hτ
              refine ⟨fun z => absurd rfl z, fun _ => ?_⟩
              simp only [fe]
              exact hn _ (RA_st 1 (hτ 0))
            · by_cases k15 : K p = 15
              · have epc : pCl K V p = bd (pEi K V (p + 1)) (exT K 35) := by unfold pCl; rw [if_neg k14, if_pos k15]
                rw [epc] at next nextE
                rw [if_neg (by omega), if_neg (by omega), k15] at next
                have g := bar_sim (post := post) (cl := cl) (A := A') (B := B') (nr := nr) (ps := ps) hX hT hp1 (by omega) (fun q c e => by
                  obtain ⟨q0, e1, e2, e3⟩ := lex _ q c e
                  have l := LE (p + 1) hp1 q0 c e1
                  have hq0 : q0 ≠ N := fun z => by rw [z, hT.1] at e3; omega
                  exact next q c e (by omega) (by omega)) nextE
                obtain ⟨n, hn⟩ := g
                refine to62 (n := n) (fun υ h => ?_)
                rw [k15]
                refine ⟨fun z => absurd z (by decide), fun _ => ⟨fun _ => ⟨fun _ => ?_, fun z => absurd z (by decide)⟩, fun z => absurd z (by decide)⟩⟩
                unfold wbX12_clause_198
                refine push_ok (a := 2) h (by simp) (by omega) ?_
                intro τ hτ
                refine ⟨fun _ => ?_, fun z => absurd z (by decide)⟩
                simp only [fe]
                exact hn _ (RA_st 0 (hτ 0))
              · have epc : pCl K V p = bd (pWn K V (if K p = 0 then 20 else 60) (p + 1)) (exT K 35) := by unfold pCl; rw [if_neg k14, if_neg k15]
                rw [epc] at next nextE
                have g := win_sim (post := post) (A := A') (B := B') (nr := nr) (ps := ps) (w := K p) (cl := cl) hX hT hp1 (by omega) (by omega) (fun q c e => by
                  obtain ⟨q0, e1, e2, e3⟩ := lex _ q c e
                  have k36 : K (p + 1) = 36 := by
                    by_cases z : K (p + 1) = 36
                    · exact z
                    · unfold pWn at e1; rw [if_neg z] at e1; exact absurd e1 (by simp)
                  have hc : c = [] ∧ q0 = p + 2 := by
                    unfold pWn at e1
                    rw [if_pos k36] at e1
                    by_cases z : 1 ≤ V (p + 1) ∧ V (p + 1) ≤ (if K p = 0 then 20 else 60)
                    · rw [if_pos z] at e1
                      simp only [Sum.inl.injEq, Prod.mk.injEq] at e1; exact ⟨e1.2.symm, e1.1.symm⟩
                    · rw [if_neg z] at e1; exact absurd e1 (by simp)
                  have hN2 : p + 1 ≠ N := fun z => by rw [z, hT.1] at k36; omega
                  have hq0 : q0 ≠ N := fun z => by rw [z, hT.1] at e3; omega
                  exact next q c e (by omega) (by rw [hc.1]; simp; omega)) nextE
                obtain ⟨n, hn⟩ := g
                refine to62 (n := n) (fun υ h => ?_)
                have := hn υ h
                have w2 : K p = 0 ∨ K p = 16 := by omega
                rcases w2 with e | e
                · rw [e] at this ⊢
                  exact ⟨fun _ => this, fun z => absurd rfl z⟩
                · rw [e] at this ⊢
                  exact ⟨fun z => absurd z (by decide), fun _ => ⟨fun z => absurd rfl z, fun _ => this⟩⟩
      · rw [if_pos kw] at hE
        obtain ⟨n, hn⟩ := GoE_F (A := A) (B := B) (n := cl.length) (nr := nr) (ps := ps) (hE _ rfl)
        refine goC_ok hT hp k37 n (fun υ h => ?_)
        have t := h.2.2.2.2.2.2.2.2.2.2.2.2.2.2.2
        have c16 : wbX12_clause_16 (fun τ => wbX12_taste_86 post n τ) υ := errs_ok (f := 1) (RCk_RA h) (by omega) (fun τ hτ => hn τ hτ)
        unfold wpX12_clause
        rw [t.1, show (1 : Int32) = II 1 from rfl, I_eq (by omega)]
        refine ⟨fun _ => c16, fun z => ?_⟩
        have l22 : K p < 22 := by
          have : ∀ k, k ≤ 38 → sO k = 1 → k < 22 := by decide
          exact this _ k38 (by omega)
        have n3' : ¬ tO (K p) ≤ 3 := fun y => kw ((cl_w (K p) l22).mp y)
        have tb := tO_b (K p) (by omega)
        rw [t.2.1 (by omega), show (3 : Int32) = II 3 from rfl, I_le (by omega)]
        exact ⟨fun y => by omega, fun _ => c16⟩
