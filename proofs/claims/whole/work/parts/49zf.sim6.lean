/-! taste: one, in the machine -/
theorem one_sim {σ : St} {K V S E : Nat → Nat} {N : Nat} {post : Int32 → St → Prop} (hX : NX σ K V S E N) (hT : Tk K N) : ∀ d : Nat, d ≤ 8 → ∀ (p : Nat) (fr : List (Nat × Int)) (x : Nat × Int) (ws L : List (Nat × Nat)), p ≤ N → x.1 < 10 → fr.length + d ≤ 10 → WsB ws (fr.length + 1) → ws.length ≤ 2 * (fr.length + 1) → L.length ≤ p →
    (∀ q c, pOne K V d p = .inl (q, c) → GoV σ K V S E post q (fr ++ [x]) ws (8 - d) (L ++ roL c)) → (∀ e, pOne K V d p = .inr e → GoF σ S post e) → Gos σ K V S E post 1 p (fr ++ [x]) ws (8 - d) L := by
  have n3 := hT.2.1
  intro d
  induction d with
  | zero =>
    intro hd p fr x ws L hp hx hfl hwb hwl hL hS hE
    have el : pOne K V 0 p = pLf K V (pFl K) p := rfl
    rw [el] at hS hE
    refine leaf_sim (ar := pFl K) hX hT hp (by omega) hS hE ?_
    intro c36 c14
    have err : ∀ e, ((K p = 32 ∨ K p = 29) ∧ 8 - 0 = 8 ∧ e = (3, p) ∨ (K p = 20 ∨ K p = 21) ∧ K (p + 1) = 32 ∧ 8 - 0 = 8 ∧ e = (3, p + 1) ∨ (K p = 20 ∨ K p = 21) ∧ K (p + 1) ≠ 32 ∧ e = (1, p + 1) ∨ K p ≠ 32 ∧ K p ≠ 29 ∧ K p ≠ 20 ∧ K p ≠ 21 ∧ e = (1, p)) → GoF σ S post e := by
      intro e he
      refine hE e ?_
      unfold pLf
      rw [if_neg c36, if_neg c14]
      rcases he with ⟨h1, -, rfl⟩ | ⟨h1, h2, -, rfl⟩ | ⟨h1, h2, rfl⟩ | ⟨h1, h2, h3, h4, rfl⟩
      · rw [if_pos (by omega)]; unfold pFl; rw [if_pos (by omega)]
      · rw [if_pos (by omega)]; unfold pFl; rw [if_neg (by omega), if_pos h2]
      · rw [if_pos (by omega)]; unfold pFl; rw [if_neg (by omega), if_neg h2]
      · rw [if_neg (by omega)]
    -- exactly one fault is in reach
    have one : ∃ e, (((K p = 32 ∨ K p = 29) ∧ 8 - 0 = 8 ∧ e = (3, p) ∨ (K p = 20 ∨ K p = 21) ∧ K (p + 1) = 32 ∧ 8 - 0 = 8 ∧ e = (3, p + 1) ∨ (K p = 20 ∨ K p = 21) ∧ K (p + 1) ≠ 32 ∧ e = (1, p + 1) ∨ K p ≠ 32 ∧ K p ≠ 29 ∧ K p ≠ 20 ∧ K p ≠ 21 ∧ e = (1, p))) := by
      by_cases a : K p = 32 ∨ K p = 29
      · exact ⟨(3, p), Or.inl ⟨a, rfl, rfl⟩⟩
      · by_cases b : K p = 20 ∨ K p = 21
        · by_cases c : K (p + 1) = 32
          · exact ⟨(3, p + 1), Or.inr (Or.inl ⟨b, c, rfl, rfl⟩)⟩
          · exact ⟨(1, p + 1), Or.inr (Or.inr (Or.inl ⟨b, c, rfl⟩))⟩
        · exact ⟨(1, p), Or.inr (Or.inr (Or.inr ⟨by omega, by omega, by omega, by omega, rfl⟩))⟩
    obtain ⟨e0, he0⟩ := one
    obtain ⟨n, hn⟩ := err e0 he0
    refine ⟨n, fun υ h => ?_⟩
    refine b89_ok hX hT h hp (by rw [len1]; omega) (by omega) (fun _ y => by omega) (fun _ y => by omega) (fun _ _ y => by omega) (fun e he τ hτ => ?_)
    have ee : e = e0 := by
      rcases he with ⟨h1, h1', rfl⟩ | ⟨h1, h2, h2', rfl⟩ | ⟨h1, h2, rfl⟩ | ⟨h1, h2, h3, h4, rfl⟩ <;> rcases he0 with ⟨g1, g1', rfl⟩ | ⟨g1, g2, g2', rfl⟩ | ⟨g1, g2, rfl⟩ | ⟨g1, g2, g3, g4, rfl⟩ <;> first | rfl | (exfalso; omega)
    rw [ee] at hτ
    exact hn τ hτ
  | succ d ih =>
    intro hd p fr x ws L hp hx hfl hwb hwl hL hS hE
    have ih := ih (by omega)
    have el : pOne K V (d + 1) p = pLf K V (pAr K (pOne K V d)) p := rfl
    have o1 : 8 - (d + 1) + 1 = 8 - d := by omega
    have hLo := Ln_pOne (V := V) hT d
    have hLs := Ln_pSm hT hLo
    rw [el] at hS hE
    -- one deeper, in a frame of its own
    have opd : ∀ y : Nat × Int, y.1 < 10 → y.1 ≠ 7 → OpS σ K V S E N post (pOne K V d) 1 2 ((fr ++ [x]) ++ [y]) (8 - d) := by
      intro y hy hy7 p' ws' L' hp' hw' hl' hL' hS' hE'
      rw [len1, len1] at hw' hl'
      refine ih p' (fr ++ [x]) y ws' L' hp' hy (by rw [len1]; omega) (by rw [len1]; exact hw') (by rw [len1]; omega) hL' (fun q c e => ?_) hE'
      exact V2 (by rw [len1]; omega) hy7 hy (hS' q c e)
    refine leaf_sim (ar := pAr K (pOne K V d)) hX hT hp (by omega) hS hE ?_
    intro c36 c14
    have epl : pLf K V (pAr K (pOne K V d)) p = if K p = 29 ∨ K p = 32 ∨ K p = 20 ∨ K p = 21 then pAr K (pOne K V d) p else .inr (1, p) := by unfold pLf; rw [if_neg c36, if_neg c14]
    rw [epl] at hS hE
    by_cases k29 : K p = 29
    · -- minus
      rw [if_pos (by omega)] at hS hE
      have ea : pAr K (pOne K V d) p = em 40 (pOne K V d (p + 1)) := by unfold pAr; rw [if_pos k29]
      rw [ea] at hS hE
      have hN : p ≠ N := fun e => by rw [e, hT.1] at k29; omega
      have g := ih (p + 1) (fr ++ [x]) (7, 0) ws L (by omega) (by decide) (by rw [len1]; omega) (by rw [len1]; exact WsB_mono hwb (by omega)) (by rw [len1]; omega) (by omega) (fun q c e => by
        have := hS q (c ++ [40]) (by rw [e]; rfl)
        rw [← o1]
        refine V7 (by rw [len1]; omega) (by omega) ?_ ?_
        · have := hLo (p + 1) (by omega) q c e
          rw [List.length_append, roL_len]; omega
        · rw [roL_app, ← List.append_assoc] at this; exact this) (fun e e2 => hE e (by rw [e2]; rfl))
      obtain ⟨n, hn⟩ := g
      refine ⟨n, fun υ h => b89_ok hX hT h hp (by rw [len1]; omega) (by omega) (fun z => by omega) (fun _ _ τ hτ => ?_) (fun z => by omega) (fun e he τ hτ => ?_)⟩
      · rw [o1] at hτ; exact hn τ hτ
      · exfalso; rcases he with ⟨_, y, _⟩ | ⟨y, _⟩ | ⟨y, _⟩ | ⟨_, y, _⟩ <;> omega
    · by_cases k32 : K p = 32
      · -- brackets
        rw [if_pos (by omega)] at hS hE
        have ea : pAr K (pOne K V d) p = bd (pSm K (pOne K V d) (p + 1)) (exT K 33) := by unfold pAr; rw [if_neg k29, if_pos k32]
        rw [ea] at hS hE
        have hN : p ≠ N := fun e => by rw [e, hT.1] at k32; omega
        have g := sum_sim (x := (6, 0)) (p := p + 1) (fr := fr ++ [x]) (ws := ws) (Lb := L) hX hT hLo (opd (6, 0) (by decide) (by decide)) (by rw [len1]; exact hwb) (by rw [len1]; exact hwl) (by rw [len1]; omega) (by omega) (by omega) (fun q c e m1 m2 pd L' hpd hpl hL' => by
          obtain ⟨z1, z2⟩ := hLs (p + 1) (by omega) q c e
          rw [e] at hS hE
          rw [← o1]
          refine close_sim (L := L ++ roL c) hX hT (Or.inl rfl) (by rw [len1]; exact hwb) (by rw [len1]; exact hwl) (by rw [len1]; omega) z1 (by omega) m1 m2 hpd hpl hL' (by rw [List.length_append, roL_len]; omega) (fun k33 => ?_) (fun k33 => ?_)
          · have := hS (q + 1) (c ++ []) (by unfold bd exT; simp only; rw [if_pos k33])
            rw [List.append_nil] at this
            simpa using this
          · exact hE (1, q) (by unfold bd exT; simp only; rw [if_neg k33])) (fun e e2 => hE e (by rw [e2]; rfl))
        obtain ⟨n, hn⟩ := g
        refine ⟨n, fun υ h => b89_ok hX hT h hp (by rw [len1]; omega) (by omega) (fun _ _ τ hτ => ?_) (fun z => by omega) (fun z => by omega) (fun e he τ hτ => ?_)⟩
        · rw [o1] at hτ; exact hn τ hτ
        · exfalso; rcases he with ⟨_, y, _⟩ | ⟨y, _⟩ | ⟨y, _⟩ | ⟨y, _⟩ <;> omega
      · by_cases kmm : K p = 20 ∨ K p = 21
        · rw [if_pos (by omega)] at hS hE
          have hN : p ≠ N := fun e => by rw [e, hT.1] at kmm; omega
          by_cases k2 : K (p + 1) = 32
          · have ea : pAr K (pOne K V d) p = bd (em (K p) (bd (bd (pSm K (pOne K V d) (p + 2)) (exT K 34)) (pSm K (pOne K V d)))) (exT K 33) := by unfold pAr; rw [if_neg k29, if_neg k32, if_pos k2]
            rw [ea] at hS hE
            have hN2 : p + 1 ≠ N := fun e => by rw [e, hT.1] at k2; omega
            have w78 : ((tO (K p) : Nat) : Int) = 7 ∨ ((tO (K p) : Nat) : Int) = 8 := by
              rcases kmm with e | e <;> rw [e]
              · exact Or.inl rfl
              · exact Or.inr rfl
            have g := sum_sim (x := (8, ((tO (K p) : Nat) : Int))) (p := p + 2) (fr := fr ++ [x]) (ws := ws) (Lb := L) hX hT hLo (opd (8, ((tO (K p) : Nat) : Int)) (by simp) (by simp)) (by rw [len1]; exact hwb) (by rw [len1]; exact hwl) (by rw [len1]; omega) (by omega) (by omega) (fun q c e m1 m2 pd L' hpd hpl hL' => by
              obtain ⟨z1, z2⟩ := hLs (p + 2) (by omega) q c e
              rw [e] at hS hE
              refine comma_sim (L := L ++ roL c) hX hT (by rw [len1]; exact hwb) (by rw [len1]; exact hwl) (by rw [len1]; omega) z1 m1 m2 hpd hpl hL' (by rw [List.length_append, roL_len]; omega) (fun k34 => ?_) (fun k34 => ?_)
              · have hN3 : q ≠ N := fun e => by rw [e, hT.1] at k34; omega
                have e34 : bd (.inl (q, c)) (exT K 34) = .inl (q + 1, c) := by unfold bd exT; simp only; rw [if_pos k34]; simp
                rw [e34] at hS hE
                refine sum_sim (x := (9, ((tO (K p) : Nat) : Int))) (p := q + 1) (fr := fr ++ [x]) (ws := ws) (Lb := L ++ roL c) hX hT hLo (opd (9, ((tO (K p) : Nat) : Int)) (by simp) (by simp)) (by rw [len1]; exact hwb) (by rw [len1]; exact hwl) (by rw [len1]; omega) (by omega) (by rw [List.length_append, roL_len]; omega) (fun q2 c2 e2 n1 n2 pd2 L2 hpd2 hpl2 hL2 => ?_) (fun e e2 => hE e (by
                  have : bd (.inl (q + 1, c)) (pSm K (pOne K V d)) = .inr e := by unfold bd; simp only; rw [e2]
                  rw [this]; rfl))
                obtain ⟨y1, y2⟩ := hLs (q + 1) (by omega) q2 c2 e2
                have e5 : bd (.inl (q + 1, c)) (pSm K (pOne K V d)) = .inl (q2, c ++ c2) := by unfold bd; simp only; rw [e2]
                rw [e5] at hS hE
                rw [← o1]
                refine close_sim (L := L ++ roL c ++ roL c2) hX hT (Or.inr ⟨rfl, w78⟩) (by rw [len1]; exact hwb) (by rw [len1]; exact hwl) (by rw [len1]; omega) y1 (by omega) n1 n2 hpd2 hpl2 hL2 (by rw [List.length_append, List.length_append, roL_len, roL_len]; omega) (fun k33 => ?_) (fun k33 => ?_)
                · have := hS (q2 + 1) (c ++ c2 ++ [K p] ++ []) (by unfold bd em exT; simp only; rw [if_pos k33])
                  rw [List.append_nil, roL_app, roL_app, ← List.append_assoc, ← List.append_assoc] at this
                  have er : roL [K p] = [(if ((tO (K p) : Nat) : Int) = 7 then 403 else 404, 0)] := by
                    rcases kmm with e | e <;> rw [e] <;> decide
                  rw [er] at this
                  simp only [if_true]
                  exact this
                · exact hE (1, q2) (by unfold bd em exT; simp only; rw [if_neg k33])
              · exact hE (1, q) (by
                  have : bd (.inl (q, c)) (exT K 34) = .inr (1, q) := by unfold bd exT; simp only; rw [if_neg k34]
                  rw [this]; rfl)) (fun e e2 => hE e (by rw [e2]; rfl))
            obtain ⟨n, hn⟩ := g
            refine ⟨n, fun υ h => b89_ok hX hT h hp (by rw [len1]; omega) (by omega) (fun z => by omega) (fun z => by omega) (fun _ _ _ τ hτ => ?_) (fun e he τ hτ => ?_)⟩
            · rw [o1] at hτ; exact hn τ hτ
            · exfalso; rcases he with ⟨y, _⟩ | ⟨_, _, y, _⟩ | ⟨_, y, _⟩ | ⟨_, _, y, _⟩ <;> omega
          · have ea : pAr K (pOne K V d) p = .inr (1, p + 1) := by unfold pAr; rw [if_neg k29, if_neg k32, if_neg k2]
            rw [ea] at hE
            obtain ⟨n, hn⟩ := hE _ rfl
            refine ⟨n, fun υ h => b89_ok hX hT h hp (by rw [len1]; omega) (by omega) (fun z => by omega) (fun z => by omega) (fun _ z => by omega) (fun e he τ hτ => ?_)⟩
            have ee : e = (1, p + 1) := by
              rcases he with ⟨y, _⟩ | ⟨_, y, _⟩ | ⟨_, _, y⟩ | ⟨_, _, y, _⟩
              · exfalso; omega
              · exfalso; omega
              · exact y
              · exfalso; omega
            rw [ee] at hτ
            exact hn τ hτ
        · rw [if_neg (by omega)] at hE
          obtain ⟨n, hn⟩ := hE _ rfl
          refine ⟨n, fun υ h => b89_ok hX hT h hp (by rw [len1]; omega) (by omega) (fun z => by omega) (fun z => by omega) (fun z => by omega) (fun e he τ hτ => ?_)⟩
          have ee : e = (1, p) := by
            rcases he with ⟨y, _⟩ | ⟨y, _⟩ | ⟨y, _⟩ | ⟨_, _, _, _, y⟩
            · exfalso; omega
            · exfalso; omega
            · exfalso; omega
            · exact y
          rw [ee] at hτ
          exact hn τ hτ
