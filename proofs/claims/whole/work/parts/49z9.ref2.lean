/-! taste: what waits -/
def rk (o : Nat) : Nat := if o = 407 then 1 else if o = 406 then 2 else if o = 43 ∨ o = 45 then 3 else 4
theorem rank_ok {σ : St} {o : Nat} {post : Int32 → St → Prop} (ho : o < 500) (hq : post (II (rk o : Nat)) σ) : wpX12_rank (II o) σ post := by
  unfold rk at hq
  simp (disch := omega) only [wpX12_rank, I_lit, I_eq]
  refine ⟨fun z => ⟨fun z2 => ⟨fun z3 => ?_, fun z3 => ⟨fun z4 => ?_, fun z4 => ?_⟩⟩, fun z2 => ?_⟩, fun z => ?_⟩
  · rw [if_neg (by omega), if_neg (by omega), if_pos (by omega)] at hq; exact hq
  · rw [if_neg (by omega), if_neg (by omega), if_neg (by omega)] at hq; exact hq
  · rw [if_neg (by omega), if_neg (by omega), if_pos (by omega)] at hq; exact hq
  · rw [if_neg (by omega), if_pos (by omega)] at hq; exact hq
  · rw [if_pos (by omega)] at hq; exact hq
/-- one less that waits -/
theorem RA_wpop {σ υ : St} {K V S E : Nat → Nat} {st p o : Nat} {fr : List (Nat × Int)} {ws L : List (Nat × Nat)} {x : Nat × Nat} (h : RA σ υ K V S E st p fr (ws ++ [x]) o L) : RA σ (sI υ 75 26 (II (ws.length : Nat))) K V S E st p fr ws o L := by
  obtain ⟨h1, h2, h3, h4, h5, h6, h7, h8, h9, h10, h11, h12, t1, t2, t3, t4, t5⟩ := h
  have ge : ∀ q, q ≠ 75 → (sI υ 75 26 (II (ws.length : Nat))) q = υ q := fun q a => (Eqx_tI (Eqx.refl [75] υ) (by simp) q (by simp; omega)).symm
  refine ⟨Eqx_tI h1 (by simp [ML]), fun f hf => by rw [rI3 (by omega)]; exact h2 f hf, by rw [rI3 (by omega)]; exact h3, by rw [rI3 (by omega)]; exact h4, by rw [rI3 (by omega)]; exact h5, by rw [rI3 (by omega)]; exact h6, rI1, by rw [rI3 (by omega)]; exact h8, by rw [rI3 (by omega)]; exact h9, FrA_eq h10 (fun q a b => ge q (by omega)), PrA_eq (fun i hi => ?_) (ge 90 (by omega)) (ge 91 (by omega)), PrA_eq h12 (ge 94 (by omega)) (ge 95 (by omega)), by rw [rI3 (by omega)]; exact t1, fun z => by rw [rI3 (by omega)]; exact t2 z, fun z => by rw [rI3 (by omega)]; exact t3 z, by rw [rI3 (by omega)]; exact t4, by rw [rI3 (by omega)]; exact t5⟩
  have := h11 i (by rw [List.length_append, List.length_singleton]; omega)
  rw [gdA _ _ _ _ hi] at this
  exact this
/-- those that a rank works off: all of pd, none of ws -/
def StpW (ws : List (Nat × Nat)) (F r : Nat) : Prop := ∀ ws' x, ws = ws' ++ [x] → x.1 < 500 ∧ x.2 ≤ 40 ∧ ¬ (x.2 = F ∧ r ≤ rk x.1)
def WkW (pd : List (Nat × Nat)) (F r : Nat) : Prop := ∀ x, x ∈ pd → x.1 < 500 ∧ x.2 = F ∧ r ≤ rk x.1
def opsR (pd : List (Nat × Nat)) : List (Nat × Nat) := pd.reverse.map (fun x => (x.1, 0))
theorem works0_ok {σ : St} {K V S E : Nat → Nat} {st p o r : Nat} {fr : List (Nat × Int)} {ws : List (Nat × Nat)} {post : St → Prop} (hr : r ≤ 4) (hfr : fr.length ≤ 40) (hs : StpW ws fr.length r) : ∀ (pr : List (Nat × Nat)) (υ : St) (L : List (Nat × Nat)), WkW pr.reverse fr.length r → (ws ++ pr.reverse).length ≤ 80 → L.length + pr.length ≤ 400 → RA σ υ K V S E st p fr (ws ++ pr.reverse) o L → (∀ τ, RA σ τ K V S E st p fr ws o (L ++ pr.map (fun x => (x.1, 0))) → post τ) → wbX12_works_0 post (pr.length + 1) (II r) υ := by
  intro pr
  induction pr with
  | nil =>
    intro υ L hk hl hL h hq
    rw [List.reverse_nil, List.append_nil] at h hl
    have hq := hq υ (by simpa using h)
    have h7 := h.2.2.2.2.2.2.1
    have h6 := h.2.2.2.2.2.1
    cases hw : ws.length with
    | zero =>
      rw [hw] at h7
      simp (disch := omega) only [List.length_nil, wbX12_works_0, h7, I_lit, I_le]
      exact ⟨fun _ => hq, fun z => absurd (Int.le_refl _) z⟩
    | succ n =>
      obtain ⟨ws', x, ew⟩ : ∃ ws' x, ws = ws' ++ [x] := by
        rcases List.eq_nil_or_concat ws with e | ⟨l, b, e⟩
        · rw [e] at hw; exact absurd hw (by simp)
        · exact ⟨l, b, by rw [e, List.concat_eq_append]⟩
      have hn : n = ws'.length := by rw [ew, List.length_append, List.length_singleton] at hw; omega
      obtain ⟨x1, x2, x3⟩ := hs ws' x ew
      rw [hw] at h7
      have j : (((n + 1 : Nat) : Int) - 1).toNat = n := by omega
      have a := h.2.2.2.2.2.2.2.2.2.2.1 n (by omega)
      rw [ew, hn, gdB] at a
      rw [← hn] at a
      simp (disch := omega) only [List.length_nil, wbX12_works_0, h7, h6, I_lit, I_le, I_sub, I_in, true_and, I_cl, j, a.1, a.2, I_eq]
      refine ⟨fun z => absurd z (by omega), fun _ => ⟨fun z => hq, fun z => rank_ok x1 ?_⟩⟩
      have : rk x.1 ≤ 4 := by unfold rk; split; omega; split; omega; split <;> omega
      rw [I_lt (by omega)]
      exact ⟨fun _ => hq, fun y => absurd ⟨by omega, by omega⟩ x3⟩
  | cons x pr ih =>
    intro υ L hk hl hL h hq
    have er : ws ++ (x :: pr).reverse = (ws ++ pr.reverse) ++ [x] := by rw [List.reverse_cons, List.append_assoc]
    rw [er] at h hl
    obtain ⟨x1, x2, x3⟩ := hk x (by simp)
    have hk2 : WkW pr.reverse fr.length r := fun y hy => hk y (by simp at hy ⊢; exact Or.inl hy)
    have h7 := h.2.2.2.2.2.2.1
    have h6 := h.2.2.2.2.2.1
    have a := h.2.2.2.2.2.2.2.2.2.2.1 (ws ++ pr.reverse).length (by simp only [List.length_append, List.length_singleton]; omega)
    rw [gdB] at a
    rw [List.length_append, List.length_singleton] at h7 hl
    have hP := RA_wpop h
    obtain ⟨w, ew⟩ : ∃ w, w = ws ++ pr.reverse := ⟨_, rfl⟩
    rw [← ew] at h7 a hP hl ih
    have j : (((w.length + 1 : Nat) : Int) - 1).toNat = w.length := by omega
    have j2 : ((w.length + 1 : Nat) : Int) - 1 = (w.length : Int) := by omega
    have j3 : gI (sI υ 75 26 (II (w.length : Int))) 75 26 = II (w.length : Int) := rI1
    have j4 : gI (sI υ 75 26 (II (w.length : Int))) 90 w.length = II (x.1 : Nat) := by rw [rI2 (by omega)]; exact a.1
    rw [List.length_cons] at hL ⊢
    generalize hm : pr.length + 1 = m at ih ⊢
    simp (disch := omega) only [wbX12_works_0, h7, h6, I_lit, I_le, I_sub, I_in, true_and, I_cl, j, a.1, a.2, I_eq]
    refine ⟨fun z => absurd z (by omega), fun _ => ⟨fun z => absurd (by omega) z, fun _ => rank_ok x1 ?_⟩⟩
    have : rk x.1 ≤ 4 := by unfold rk; split; omega; split; omega; split <;> omega
    rw [I_lt (by omega)]
    refine ⟨fun z => absurd z (by omega), fun _ => ?_⟩
    simp (disch := omega) only [fe, h7, I_sub, j2, j3, I_in, true_and, I_cl, Int.toNat_natCast, j4]
    refine emits_ok (b := 0) hP (by omega) ?_
    intro τ hτ
    refine ih τ (L ++ [(x.1, 0)]) hk2 (by omega) (by rw [List.length_append, List.length_singleton]; omega) hτ ?_
    intro ρ hρ
    refine hq ρ ?_
    rw [List.map_cons, show L ++ (x.1, 0) :: pr.map (fun x => (x.1, 0)) = L ++ [(x.1, 0)] ++ pr.map (fun x => (x.1, 0)) by simp]
    exact hρ
theorem works_ok {σ υ : St} {K V S E : Nat → Nat} {st p o r : Nat} {fr : List (Nat × Int)} {ws pd L : List (Nat × Nat)} {post : St → Prop} (hr : r ≤ 4) (hfr : fr.length ≤ 40) (hs : StpW ws fr.length r) (hk : WkW pd fr.length r) (hl : (ws ++ pd).length ≤ 80) (hL : L.length + pd.length ≤ 400) (h : RA σ υ K V S E st p fr (ws ++ pd) o L) (hq : ∀ τ, RA σ τ K V S E st p fr ws o (L ++ opsR pd) → post τ) : wpX12_works (II r) υ post := by
  refine ⟨pd.reverse.length + 1, ?_⟩
  refine works0_ok (post := post) hr hfr hs pd.reverse υ L (by rw [List.reverse_reverse]; exact hk) (by rw [List.reverse_reverse]; exact hl) (by rw [List.length_reverse]; exact hL) (by rw [List.reverse_reverse]; exact h) hq
def NX (σ : St) (K V S E : Nat → Nat) (N : Nat) : Prop := ∀ (υ : St) (st p o : Nat) (fr : List (Nat × Int)) (ws L : List (Nat × Nat)) (post : St → Prop), p < N → RA σ υ K V S E st p fr ws o L → (∀ τ, RA σ τ K V S E st (p + 1) fr ws o L → post τ) → wpX12_next υ post
theorem waits_ok {σ υ : St} {K V S E : Nat → Nat} {N st p o a : Nat} {fr : List (Nat × Int)} {ws pd L : List (Nat × Nat)} {post : St → Prop} (hX : NX σ K V S E N) (hp : p < N) (ha : a < 500) (hfr : fr.length ≤ 40) (hs : StpW ws fr.length (rk a)) (hk : WkW pd fr.length (rk a)) (hl : (ws ++ pd).length < 80) (hL : L.length + pd.length ≤ 400) (h : RA σ υ K V S E st p fr (ws ++ pd) o L) (hq : ∀ τ, RA σ τ K V S E st (p + 1) fr (ws ++ [(a, fr.length)]) o (L ++ opsR pd) → post τ) : wpX12_waitsFor (II a) υ post := by
  have r4 : rk a ≤ 4 := by unfold rk; split; omega; split; omega; split <;> omega
  unfold wpX12_waitsFor
  refine rank_ok ha ?_
  refine works_ok r4 hfr hs hk (by omega) hL h ?_
  intro τ hτ
  rw [List.length_append] at hl
  obtain ⟨h1, h2, h3, h4, h5, h6, h7, h8, h9, h10, h11, h12, t1, t2, t3, t4, t5⟩ := hτ
  have e1 : gI (sI τ 90 ws.length (II a)) 75 26 = II (ws.length : Nat) := by rw [rI2 (by omega)]; exact h7
  have e2 : gI (sI τ 90 ws.length (II a)) 75 22 = II (fr.length : Nat) := by rw [rI2 (by omega)]; exact h6
  have e3 : gI (sI (sI τ 90 ws.length (II a)) 91 ws.length (II (fr.length : Nat))) 75 26 = II (ws.length : Nat) := by rw [rI2 (by omega)]; exact e1
  simp (disch := omega) only [h7, I_in, true_and, I_cl, Int.toNat_natCast, fe, e1, e2, e3, I_lit, I_add]
  have g : ∀ f, f ≠ 26 → gI (sI (sI (sI τ 90 ws.length (II a)) 91 ws.length (II (fr.length : Nat))) 75 26 (II ((ws.length : Int) + 1))) 75 f = gI τ 75 f := fun f hf => by rw [rI3 hf, rI2 (by omega), rI2 (by omega)]
  have ge : ∀ q, q ≠ 90 → q ≠ 91 → q ≠ 75 → (sI (sI (sI τ 90 ws.length (II a)) 91 ws.length (II (fr.length : Nat))) 75 26 (II ((ws.length : Int) + 1))) q = τ q := fun q a1 a2 a3 => (Eqx_tI (Eqx_tI (Eqx_tI (Eqx.refl [90, 91, 75] τ) (by simp)) (by simp)) (by simp) q (by simp; omega)).symm
  refine hX _ st p o fr (ws ++ [(a, fr.length)]) (L ++ opsR pd) _ hp ⟨Eqx_tI (Eqx_tI (Eqx_tI h1 (by simp [ML])) (by simp [ML])) (by simp [ML]), fun f hf => by rw [g f (by omega)]; exact h2 f hf, by rw [g 19 (by omega)]; exact h3, by rw [g 20 (by omega)]; exact h4, by rw [g 21 (by omega)]; exact h5, by rw [g 22 (by omega)]; exact h6, by rw [rI1, List.length_append, List.length_singleton]; rfl, by rw [g 29 (by omega)]; exact h8, by rw [g 35 (by omega)]; exact h9, FrA_eq h10 (fun q a1 a2 => ge q (by omega) (by omega) (by omega)), fun i hi => ?_, PrA_eq h12 (ge 94 (by omega) (by omega) (by omega)) (ge 95 (by omega) (by omega) (by omega)), by rw [g 17 (by omega)]; exact t1, fun z => by rw [g 18 (by omega)]; exact t2 z, fun z => by rw [g 18 (by omega)]; exact t3 z, by rw [g 16 (by omega)]; exact t4, by rw [g 15 (by omega)]; exact t5⟩ hq
  rw [List.length_append, List.length_singleton] at hi
  by_cases e : i = ws.length
  · rw [e, gdB]
    exact ⟨by rw [rI2 (by omega), rI2 (by omega), rI1], by rw [rI2 (by omega), rI1]⟩
  · rw [gdA _ _ _ _ (by clear t3; omega)]
    have := h11 i (by clear t3; omega)
    exact ⟨by rw [rI2 (by omega), rI2 (by omega), rI3 e]; exact this.1, by rw [rI2 (by omega), rI3 e, rI2 (by omega)]; exact this.2⟩
theorem openS_ok {σ υ : St} {K V S E : Nat → Nat} {N st p o a : Nat} {fr : List (Nat × Int)} {ws L : List (Nat × Nat)} {post : Int32 → St → Prop} (hX : NX σ K V S E N) (hp : p < N) (h : RA σ υ K V S E st p fr ws o L) (hn : fr.length < 40) (ho : o ≤ 8) (ha : a ≠ 5 ∧ a ≠ 8 ∧ a ≠ 9)
    (h1 : o < 8 → ∀ τ, RA σ τ K V S E st (p + 1) (fr ++ [(a, 0)]) ws (o + 1) L → post (II 1) τ) (h0 : o = 8 → ∀ τ, RF σ τ S (3, p) → post (II 0) τ) : wpX12_opensSign (II a) υ post := by
  have h5 := h.2.2.2.2.1
  simp (disch := omega) only [wpX12_opensSign, h5, I_lit, I_eq, fe, I_add]
  refine ⟨fun z => ?_, fun z => errs_ok (f := 3) h (by omega) (fun τ hτ => h0 (by omega) τ hτ)⟩
  have hO := RA_open (o + 1) h
  refine push_ok (a := a) hO hn ha ?_
  intro τ hτ
  exact hX τ st p (o + 1) (fr ++ [(a, 0)]) ws L _ hp (hτ 0) (h1 (by omega))
theorem openS8_ok {σ υ : St} {K V S E : Nat → Nat} {N st p o : Nat} {fr : List (Nat × Int)} {ws L : List (Nat × Nat)} {post : Int32 → St → Prop} (hX : NX σ K V S E N) (hp : p < N) (h : RA σ υ K V S E st p fr ws o L) (hn : fr.length < 40) (ho : o ≤ 8)
    (h1 : o < 8 → ∀ τ d, RA σ τ K V S E st (p + 1) (fr ++ [(8, d)]) ws (o + 1) L → post (II 1) τ) (h0 : o = 8 → ∀ τ, RF σ τ S (3, p) → post (II 0) τ) : wpX12_opensSign (II 8) υ post := by
  have h5 := h.2.2.2.2.1
  simp (disch := omega) only [wpX12_opensSign, h5, I_lit, I_eq, fe, I_add]
  refine ⟨fun z => ?_, fun z => errs_ok (f := 3) h (by omega) (fun τ hτ => h0 (by omega) τ hτ)⟩
  have hO := RA_open (o + 1) h
  refine push8_ok hO hn ?_
  intro τ d hτ
  exact hX τ st p (o + 1) (fr ++ [(8, d)]) ws L _ hp hτ (fun ρ hρ => h1 (by omega) ρ d hρ)
