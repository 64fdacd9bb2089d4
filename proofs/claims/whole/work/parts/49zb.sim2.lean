/-! taste: two ranks of operators -/
theorem opsR_app (a b : List (Nat × Nat)) : opsR (a ++ b) = opsR b ++ opsR a := by unfold opsR; rw [List.reverse_append, List.map_append]
theorem WkW_app {a b : List (Nat × Nat)} {F r : Nat} (h1 : WkW a F r) (h2 : WkW b F r) : WkW (a ++ b) F r := fun x hx => by
  rw [List.mem_append] at hx
  rcases hx with hx | hx
  · exact h1 x hx
  · exact h2 x hx
theorem lpo_sim {σ : St} {K V S E : Nat → Nat} {N : Nat} {post : Int32 → St → Prop} {f : Nat → Res} {op1 op2 : Nat → Bool} {on : Nat → Nat} {r1 r2 s0 s1 o : Nat} {fr : List (Nat × Int)} {ws Lb : List (Nat × Nat)} (hT : Tk K N) (hL : Ln N f) (h37 : op1 37 = false ∧ op2 37 = false) (hf : OpS σ K V S E N post f s0 s1 fr o) (hop1 : OtS σ K V S E N post op1 on r1 s0 s1 fr o) (hop2 : OtS σ K V S E N post op2 on r2 s0 s1 fr o)
    (hr1 : ∀ k, op1 k = true → on k < 500 ∧ r1 ≤ rk (on k) ∧ ro k = (on k, 0)) (hr2 : ∀ k, op2 k = true → on k < 500 ∧ r2 ≤ rk (on k) ∧ rk (on k) < r1 ∧ ro k = (on k, 0)) (hr : r2 ≤ r1)
    (hst : StpW ws fr.length r2) (hwb : WsB ws fr.length) (hwl : ws.length + 2 ≤ 2 * fr.length) (hfl : fr.length ≤ 40) : ∀ n p, p ≤ N → N ≤ p + n → ∀ c0 pa pm L2, Okp op2 on fr.length pa → Okp op1 on fr.length pm → L2 ++ opsR (pa ++ pm) = Lb ++ roL c0 → Lb.length + c0.length ≤ p → op1 (K p) = false →
      (∀ q c, lpL K (chn K f op1) op2 n p = .inl (q, c) → op1 (K q) = false → op2 (K q) = false → ∀ pd L', WkW pd fr.length r2 → pd.length ≤ 2 → L' ++ opsR pd = Lb ++ roL (c0 ++ c) → Gos σ K V S E post s1 q fr (ws ++ pd) o L') → (∀ e, lpL K (chn K f op1) op2 n p = .inr e → GoF σ S post e) → Gos σ K V S E post s1 p fr (ws ++ (pa ++ pm)) o L2 := by
  have n3 := hT.2.1
  have hLc := Ln_chn (op := op1) hT h37.1 hL
  have wk : ∀ pa pm, Okp op2 on fr.length pa → Okp op1 on fr.length pm → WkW (pa ++ pm) fr.length r2 := fun pa pm h1 h2 => WkW_app (Okp_wk (fun k hk => ⟨(hr2 k hk).1, (hr2 k hk).2.1⟩) h1) (Okp_wk (fun k hk => ⟨(hr1 k hk).1, by have := (hr1 k hk).2.1; omega⟩) h2)
  intro n
  induction n with
  | zero =>
    intro p hp hn c0 pa pm L2 hpa hpm hL2 hlb h1 hS hE
    have e : p = N := by omega
    have l1 := Okp_len hpa
    have l2 := Okp_len hpm
    exact hS p [] rfl h1 (by rw [e, hT.1]; exact h37.2) _ L2 (wk pa pm hpa hpm) (by rw [List.length_append]; omega) (by rw [List.append_nil]; exact hL2)
  | succ n ih =>
    intro p hp hn c0 pa pm L2 hpa hpm hL2 hlb h1 hS hE
    have l1 := Okp_len hpa
    have l2 := Okp_len hpm
    have el : lpL K (chn K f op1) op2 (n + 1) p = if op2 (K p) = true then bd (em (K p) (chn K f op1 (p + 1))) (lpL K (chn K f op1) op2 n) else .inl (p, []) := rfl
    rw [el] at hS hE
    by_cases c : op2 (K p) = true
    · rw [if_pos c] at hS hE
      have hN : p ≠ N := fun z => by rw [z, hT.1, h37.2] at c; exact absurd c (by decide)
      have ll := congrArg List.length hL2
      rw [List.length_append, List.length_append, opsR_len, roL_len] at ll
      refine hop2 p ws (pa ++ pm) L2 (by omega) c hst (wk pa pm hpa hpm) (by omega) (by rw [List.length_append]; omega) (by omega) ?_
      rw [hL2]
      refine chn_sim (p := p + 1) (Lb := Lb ++ roL c0) hT hL h37.1 hf hop1 hr1 ?_ ?_ (by rw [List.length_append, List.length_singleton]; omega) (by omega) (by rw [List.length_append, roL_len]; omega) ?_ ?_
      · intro ws' x e
        have : x = (on (K p), fr.length) := by
          have := congrArg List.getLast? e
          simp at this
          exact this.symm
        rw [this]
        exact ⟨(hr2 _ c).1, hfl, fun z => by have := (hr2 _ c).2.2.1; simp only at z; omega⟩
      · intro x hx
        rw [List.mem_append] at hx
        rcases hx with hx | hx
        · exact hwb x hx
        · have : x = (on (K p), fr.length) := by simpa using hx
          rw [this]; exact ⟨(hr2 _ c).1, Nat.le_refl _⟩
      · intro q c2 e2 ho1 pm' L' hpm' hL'
        obtain ⟨x1, x2⟩ := hLc (p + 1) (by omega) q c2 e2
        have ebd : bd (em (K p) (chn K f op1 (p + 1))) (lpL K (chn K f op1) op2 n) = bd (.inl (q, c2 ++ [K p])) (lpL K (chn K f op1) op2 n) := by rw [e2]; rfl
        rw [ebd] at hS hE
        rw [List.append_assoc]
        refine ih q x1 (by omega) (c0 ++ (c2 ++ [K p])) [(on (K p), fr.length)] pm' L' (Or.inr ⟨K p, c, rfl⟩) hpm' ?_ (by rw [List.length_append, List.length_append, List.length_singleton]; omega) ho1 ?_ ?_
        · rw [opsR_app, ← List.append_assoc, hL', roL_app, roL_app]
          have : opsR [(on (K p), fr.length)] = roL [K p] := by
            unfold opsR roL
            simp only [List.reverse_singleton, List.map_cons, List.map_nil]
            rw [(hr2 _ c).2.2.2]
          rw [this, List.append_assoc, List.append_assoc]
        · intro q' c' e' ho1' ho2' pd L'' hpd hpl hL''
          refine hS q' (c2 ++ [K p] ++ c') ?_ ho1' ho2' pd L'' hpd hpl (by rw [hL'', List.append_assoc])
          unfold bd; simp only; rw [e']
        · intro e e'
          refine hE e ?_
          unfold bd; simp only; rw [e']
      · intro e e2
        refine hE e ?_
        rw [e2]; rfl
    · rw [if_neg c] at hS
      exact hS p [] rfl h1 (by simpa using c) _ L2 (wk pa pm hpa hpm) (by rw [List.length_append]; omega) (by rw [List.append_nil]; exact hL2)
theorem two_sim {σ : St} {K V S E : Nat → Nat} {N : Nat} {post : Int32 → St → Prop} {f : Nat → Res} {op1 op2 : Nat → Bool} {on : Nat → Nat} {r1 r2 s0 s1 o p : Nat} {fr : List (Nat × Int)} {ws Lb : List (Nat × Nat)} (hT : Tk K N) (hL : Ln N f) (h37 : op1 37 = false ∧ op2 37 = false) (hf : OpS σ K V S E N post f s0 s1 fr o) (hop1 : OtS σ K V S E N post op1 on r1 s0 s1 fr o) (hop2 : OtS σ K V S E N post op2 on r2 s0 s1 fr o)
    (hr1 : ∀ k, op1 k = true → on k < 500 ∧ r1 ≤ rk (on k) ∧ ro k = (on k, 0)) (hr2 : ∀ k, op2 k = true → on k < 500 ∧ r2 ≤ rk (on k) ∧ rk (on k) < r1 ∧ ro k = (on k, 0)) (hr : r2 ≤ r1)
    (hst : StpW ws fr.length r2) (hwb : WsB ws fr.length) (hwl : ws.length + 2 ≤ 2 * fr.length) (hfl : fr.length ≤ 40) (hp : p ≤ N) (hlb : Lb.length ≤ p)
    (hS : ∀ q c, chn K (chn K f op1) op2 p = .inl (q, c) → op1 (K q) = false → op2 (K q) = false → ∀ pd L', WkW pd fr.length r2 → pd.length ≤ 2 → L' ++ opsR pd = Lb ++ roL c → Gos σ K V S E post s1 q fr (ws ++ pd) o L') (hE : ∀ e, chn K (chn K f op1) op2 p = .inr e → GoF σ S post e) : Gos σ K V S E post s0 p fr ws o Lb := by
  have n3 := hT.2.1
  have hLc := Ln_chn (op := op1) hT h37.1 hL
  have ec : chn K (chn K f op1) op2 p = bd (chn K f op1 p) (lpL K (chn K f op1) op2 300) := rfl
  rw [ec] at hS hE
  refine chn_sim (p := p) (Lb := Lb) hT hL h37.1 hf hop1 hr1 ?_ hwb (by omega) hp hlb ?_ ?_
  · intro ws' x e
    have := hst ws' x e
    exact ⟨this.1, this.2.1, fun z => this.2.2 ⟨z.1, by omega⟩⟩
  · intro q c e ho1 pm L' hpm hL'
    obtain ⟨x1, x2⟩ := hLc p hp q c e
    rw [e] at hS hE
    have := lpo_sim (Lb := Lb) hT hL h37 hf hop1 hop2 hr1 hr2 hr hst hwb hwl hfl 300 q x1 (by omega) c [] pm L' (Or.inl rfl) hpm (by rw [List.nil_append]; exact hL') (by omega) ho1 (fun q' c' e' a b pd L'' hpd hpl hL'' => hS q' (c ++ c') (by unfold bd; simp only; rw [e']) a b pd L'' hpd hpl hL'') (fun e' e2 => hE e' (by unfold bd; simp only; rw [e2]))
    rw [List.nil_append] at this
    exact this
  · intro e e2
    exact hE e (by rw [e2]; rfl)
