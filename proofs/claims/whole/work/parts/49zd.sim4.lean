/-! taste: one, in the machine -/
theorem WsB_mono {ws : List (Nat × Nat)} {F G : Nat} (h : WsB ws F) (hg : F ≤ G) : WsB ws G := fun x hx => ⟨(h x hx).1, by have := (h x hx).2; omega⟩
theorem len1 {α : Type} (l : List α) (x : α) : (l ++ [x]).length = l.length + 1 := by rw [List.length_append, List.length_singleton]
/-- a sum in a frame with its own top -/
theorem sum_sim {σ : St} {K V S E : Nat → Nat} {N : Nat} {post : Int32 → St → Prop} {f : Nat → Res} {o p : Nat} {fr : List (Nat × Int)} {x : Nat × Int} {ws Lb : List (Nat × Nat)} (hX : NX σ K V S E N) (hT : Tk K N) (hL : Ln N f) (hf : OpS σ K V S E N post f 1 2 (fr ++ [x]) o) (hwb : WsB ws fr.length) (hwl : ws.length ≤ 2 * fr.length) (hfl : fr.length ≤ 30) (hp : p ≤ N) (hlb : Lb.length ≤ p)
    (hS : ∀ q c, pSm K f p = .inl (q, c) → isMul (K q) = false → isAdd (K q) = false → ∀ pd L', WkW pd (fr.length + 1) 3 → pd.length ≤ 2 → L' ++ opsR pd = Lb ++ roL c → Gos σ K V S E post 2 q (fr ++ [x]) (ws ++ pd) o L') (hE : ∀ e, pSm K f p = .inr e → GoF σ S post e) : Gos σ K V S E post 1 p (fr ++ [x]) ws o Lb := by
  have hm : OtS σ K V S E N post isMul onK 4 1 2 (fr ++ [x]) o := arith_ok hX (fun k hk => by
    have : k = 30 ∨ k = 31 := by unfold isMul at hk; simpa using hk
    rcases this with rfl | rfl
    · exact ⟨by omega, by decide⟩
    · exact ⟨by omega, by decide⟩) hfl
  have ha : OtS σ K V S E N post isAdd onK 3 1 2 (fr ++ [x]) o := arith_ok hX (fun k hk => by
    have : k = 28 ∨ k = 29 := by unfold isAdd at hk; simpa using hk
    rcases this with rfl | rfl
    · exact ⟨by omega, by decide⟩
    · exact ⟨by omega, by decide⟩) hfl
  refine two_sim (op1 := isMul) (op2 := isAdd) (on := onK) (r1 := 4) (r2 := 3) hT hL ⟨rfl, rfl⟩ hf hm ha mul_r add_r (by omega) (by rw [len1]; exact WsB_stp hwb (by omega)) (by rw [len1]; exact WsB_mono hwb (by omega)) (by rw [len1]; omega) (by rw [len1]; omega) hp hlb ?_ hE
  rw [len1]
  exact hS
/-- a frame is closed -/
theorem close_sim {σ : St} {K V S E : Nat → Nat} {N : Nat} {post : Int32 → St → Prop} {o q : Nat} {fr : List (Nat × Int)} {x : Nat × Int} {ws pd L L' : List (Nat × Nat)} (hX : NX σ K V S E N) (hT : Tk K N) (hx : x.1 = 6 ∨ x.1 = 9 ∧ (x.2 = 7 ∨ x.2 = 8)) (hwb : WsB ws fr.length) (hwl : ws.length ≤ 2 * fr.length) (hfl : fr.length ≤ 30) (hq : q ≤ N) (ho : o < 100) (h1 : isMul (K q) = false) (h2 : isAdd (K q) = false) (hpd : WkW pd (fr.length + 1) 3) (hpl : pd.length ≤ 2) (hL : L' ++ opsR pd = L) (hLl : L.length < 400)
    (hS : K q = 33 → GoV σ K V S E post (q + 1) fr ws o (L ++ (if x.1 = 9 then [(if x.2 = 7 then 403 else 404, 0)] else []))) (hE : K q ≠ 33 → GoF σ S post (1, q)) : Gos σ K V S E post 2 q (fr ++ [x]) (ws ++ pd) (o + 1) L' := by
  have k38 := Tk_le hT hq
  have ll := congrArg List.length hL
  rw [List.length_append, opsR_len] at ll
  by_cases c : K q = 33
  · obtain ⟨n, m, hm⟩ := hS c
    have hN : q ≠ N := fun e => by rw [e, hT.1] at c; omega
    refine goes65 n hT hq hfl h1 h2 ?_
    intro υ h
    have c77 : wbX12_goesOn_77 (wbX12_goesOn_158 (fun τ => wbX12_taste_86 post n τ)) (fun τ => wbX12_taste_86 post n τ) (II (x.1 : Nat)) υ := by
      unfold wbX12_goesOn_77
      refine isSign_ok 33 (RA_TA h) k38 (by omega) (by omega) (fun _ => ?_) (fun z => absurd c z)
      refine ⟨fun z => absurd z i10, fun _ => ?_⟩
      refine works_ok (r := 3) (by omega) (by rw [len1]; omega) (by rw [len1]; exact WsB_stp hwb (by omega)) (by rw [len1]; exact hpd) (by rw [List.length_append]; omega) (by omega) h ?_
      intro τ hτ
      rw [hL] at hτ
      have h6 := hτ.2.2.2.2.2.1
      rw [len1] at h6
      have hF := hτ.2.2.2.2.2.2.2.2.2.1 fr.length (by rw [len1]; omega)
      rw [gdB] at hF
      have hP := RA_pop hτ
      have h5 := hP.2.2.2.2.1
      have hO := RA_open o hP
      have j1 : ((fr.length + 1 : Nat) : Int) - 1 = (fr.length : Int) := by omega
      have j2 : ((o + 1 : Nat) : Int) - 1 = (o : Int) := by omega
      simp (disch := omega) only [fe, h6, I_lit, I_sub, I_in, true_and, I_cl, Int.toNat_natCast, j1, h5, j2]
      have c147 : ∀ ρ L2, RA σ ρ K V S E 2 q fr ws o L2 → L2 = L ++ (if x.1 = 9 then [(if x.2 = 7 then 403 else 404, 0)] else []) → wbX12_goesOn_147 (fun τ => wbX12_taste_86 post n τ) ρ := by
        intro ρ L2 hρ e2
        unfold wbX12_goesOn_147
        rw [e2] at hρ
        exact hX ρ 2 q o fr ws _ _ (by omega) hρ (fun α hα => ⟨m, hm 2 α hα⟩)
      rcases hx with hx | ⟨hx, hx2⟩
      · rw [if_neg (by omega), List.append_nil] at c147
        rw [I_eq (by omega)]
        exact ⟨fun _ => c147 _ L hO rfl, fun z => by omega⟩
      · rw [if_pos hx] at c147
        rw [hF.2.1 (Or.inr hx), I_eq (by omega), I_eq (by omega)]
        refine ⟨fun z => absurd (by omega) z, fun _ => ⟨fun z => ?_, fun z => ?_⟩⟩
        · rw [if_neg (by omega)] at c147
          exact emits_ok (a := 404) (b := 0) hO (by omega) (fun α hα => c147 α _ hα rfl)
        · rw [if_pos (by omega)] at c147
          exact emits_ok (a := 403) (b := 0) hO (by omega) (fun α hα => c147 α _ hα rfl)
    simp (disch := omega) only [wbX12_goesOn_65, I_lit, I_eq]
    exact ⟨fun _ => c77, fun z => ⟨fun z2 => by omega, fun _ => c77⟩⟩
  · obtain ⟨n, hn⟩ := hE c
    refine goes65 n hT hq hfl h1 h2 ?_
    intro υ h
    have c158 : wbX12_goesOn_158 (fun τ => wbX12_taste_86 post n τ) (II (x.1 : Nat)) υ := by
      simp (disch := omega) only [wbX12_goesOn_158, wbX12_goesOn_203, wbX12_goesOn_268, wbX12_goesOn_332, I_lit, I_eq]
      refine ⟨fun _ => ⟨fun _ => ⟨fun _ => ⟨fun _ => errs_ok (f := 1) h (by omega) (fun τ hτ => hn τ hτ), fun z => by omega⟩, fun z => by omega⟩, fun z => by omega⟩, fun z => by omega⟩
    have c77 : wbX12_goesOn_77 (wbX12_goesOn_158 (fun τ => wbX12_taste_86 post n τ)) (fun τ => wbX12_taste_86 post n τ) (II (x.1 : Nat)) υ := by
      unfold wbX12_goesOn_77
      exact isSign_ok 33 (RA_TA h) k38 (by omega) (by omega) (fun z => absurd z c) (fun _ => ⟨fun _ => c158, fun z => absurd rfl z⟩)
    simp (disch := omega) only [wbX12_goesOn_65, I_lit, I_eq]
    exact ⟨fun _ => c77, fun z => ⟨fun z2 => by omega, fun _ => c77⟩⟩
/-- the first part of min and max is over -/
theorem comma_sim {σ : St} {K V S E : Nat → Nat} {N : Nat} {post : Int32 → St → Prop} {o q : Nat} {fr : List (Nat × Int)} {w : Int} {ws pd L L' : List (Nat × Nat)} (hX : NX σ K V S E N) (hT : Tk K N) (hwb : WsB ws fr.length) (hwl : ws.length ≤ 2 * fr.length) (hfl : fr.length ≤ 30) (hq : q ≤ N) (h1 : isMul (K q) = false) (h2 : isAdd (K q) = false) (hpd : WkW pd (fr.length + 1) 3) (hpl : pd.length ≤ 2) (hL : L' ++ opsR pd = L) (hLl : L.length < 400)
    (hS : K q = 34 → Gos σ K V S E post 1 (q + 1) (fr ++ [(9, w)]) ws o L) (hE : K q ≠ 34 → GoF σ S post (1, q)) : Gos σ K V S E post 2 q (fr ++ [(8, w)]) (ws ++ pd) o L' := by
  have k38 := Tk_le hT hq
  have ll := congrArg List.length hL
  rw [List.length_append, opsR_len] at ll
  by_cases c : K q = 34
  · obtain ⟨n, hn⟩ := hS c
    have hN : q ≠ N := fun e => by rw [e, hT.1] at c; omega
    refine goes65 n hT hq hfl h1 h2 ?_
    intro υ h
    have c158 : wbX12_goesOn_158 (fun τ => wbX12_taste_86 post n τ) (II ((8 : Nat) : Int)) υ := by
      unfold wbX12_goesOn_158
      refine ⟨fun z => absurd rfl z, fun _ => ?_⟩
      refine isSign_ok 34 (RA_TA h) k38 (by omega) (by omega) (fun _ => ?_) (fun z => absurd c z)
      refine ⟨fun z => absurd z i10, fun _ => ?_⟩
      refine works_ok (r := 3) (by omega) (by rw [len1]; omega) (by rw [len1]; exact WsB_stp hwb (by omega)) (by rw [len1]; exact hpd) (by rw [List.length_append]; omega) (by omega) h ?_
      intro τ hτ
      rw [hL] at hτ
      have h6 := hτ.2.2.2.2.2.1
      rw [len1] at h6
      have j : (((fr.length + 1 : Nat) : Int) - 1).toNat = fr.length := by omega
      simp (disch := omega) only [fe, h6, I_lit, I_sub, I_in, true_and, I_cl, j]
      have hτ9 : RA σ (sI τ 87 fr.length (II 9)) K V S E 2 q (fr ++ [(9, w)]) ws o L := by
        obtain ⟨g1, g2, g3, g4, g5, g6, g7, g8, g9, g10, g11, g12, t1, t2, t3, t4, t5⟩ := hτ
        have ge : ∀ q, q ≠ 87 → (sI τ 87 fr.length (II 9)) q = τ q := fun q a => (Eqx_tI (Eqx.refl [87] τ) (by simp) q (by simp; omega)).symm
        refine ⟨Eqx_tI g1 (by simp [ML]), fun f hf => by rw [rI2 (by omega)]; exact g2 f hf, by rw [rI2 (by omega)]; exact g3, by rw [rI2 (by omega)]; exact g4, by rw [rI2 (by omega)]; exact g5, by rw [rI2 (by omega), len1]; rw [len1] at g6; exact g6, by rw [rI2 (by omega)]; exact g7, by rw [rI2 (by omega)]; exact g8, by rw [rI2 (by omega)]; exact g9, fun i hi => ?_, PrA_eq g11 (ge 90 (by omega)) (ge 91 (by omega)), PrA_eq g12 (ge 94 (by omega)) (ge 95 (by omega)), by rw [rI2 (by omega)]; exact t1, fun z => by rw [rI2 (by omega)]; exact t2 z, fun z => by rw [rI2 (by omega)]; exact t3 z, by rw [rI2 (by omega)]; exact t4, by rw [rI2 (by omega)]; exact t5⟩
        clear t3
        rw [len1] at hi
        have := g10 i (by rw [len1]; exact hi)
        rw [gI_of (ge 88 (by omega)), gI_of (ge 89 (by omega))]
        by_cases e : i = fr.length
        · rw [e, gdB] at this ⊢
          exact ⟨rI1, fun _ => this.2.1 (Or.inl rfl), fun z => absurd (show (9 : Nat) = 5 from z) (by decide)⟩
        · rw [gdA _ _ _ _ (by omega)] at this ⊢
          rw [rI3 e]; exact this
      exact hX _ 2 q o (fr ++ [(9, w)]) ws L _ (by omega) hτ9 (fun α hα => hn _ (RA_st 1 hα))
    simp (disch := omega) only [wbX12_goesOn_65, I_lit, I_eq]
    exact ⟨fun z => by omega, fun z => ⟨fun z2 => c158, fun z2 => by omega⟩⟩
  · obtain ⟨n, hn⟩ := hE c
    refine goes65 n hT hq hfl h1 h2 ?_
    intro υ h
    have c203 : wbX12_goesOn_203 (fun τ => wbX12_taste_86 post n τ) (II ((8 : Nat) : Int)) υ := by
      simp (disch := omega) only [wbX12_goesOn_203, wbX12_goesOn_268, wbX12_goesOn_332, I_lit, I_eq]
      refine ⟨fun _ => ⟨fun _ => ⟨fun _ => errs_ok (f := 1) h (by omega) (fun τ hτ => hn τ hτ), fun z => by omega⟩, fun z => by omega⟩, fun z => by omega⟩
    have c158 : wbX12_goesOn_158 (fun τ => wbX12_taste_86 post n τ) (II ((8 : Nat) : Int)) υ := by
      unfold wbX12_goesOn_158
      refine ⟨fun z => absurd rfl z, fun _ => ?_⟩
      exact isSign_ok 34 (RA_TA h) k38 (by omega) (by omega) (fun z => absurd z c) (fun _ => ⟨fun _ => c203, fun z => absurd rfl z⟩)
    simp (disch := omega) only [wbX12_goesOn_65, I_lit, I_eq]
    exact ⟨fun z => by omega, fun z => ⟨fun z2 => c158, fun z2 => by omega⟩⟩
