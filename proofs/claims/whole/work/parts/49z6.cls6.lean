/-! taste: clauses -/
def pWn (K V : Nat → Nat) (m p : Nat) : Res := if K p = 36 then (if 1 ≤ V p ∧ V p ≤ m then .inl (p + 1, []) else .inr (2, p)) else .inr (1, p)
def pCl (K V : Nat → Nat) (p : Nat) : Res :=
  if K p = 14 then bd (pSm K (pOne K V 8) (p + 1)) (exT K 35)
  else if K p = 15 then bd (pEi K V (p + 1)) (exT K 35)
  else bd (pWn K V (if K p = 0 then 20 else 60) (p + 1)) (exT K 35)
abbrev Cls : Type := List (Nat × List Nat)
def told (cl : Cls) (w : Nat) : Bool := cl.any (fun x => x.1 == w)
def pAll (K V : Nat → Nat) : Nat → Nat → Cls → Nat → Nat → (Cls × Nat × Nat) ⊕ (Nat × Nat)
  | 0, _, _, _, _ => .inr (0, 0)
  | f + 1, p, cl, nr, ps =>
    if K p = 37 then .inl (cl, nr, ps)
    else if ¬ (K p = 14 ∨ K p = 15 ∨ K p = 0 ∨ K p = 16) then .inr (1, p)
    else if K p ≠ 15 ∧ told cl (K p) = true then .inr (4, p)
    else if 12 ≤ cl.length then .inr (5, p)
    else match pCl K V p with
      | .inl r => pAll K V f r.1 (cl ++ [(K p, r.2)]) (if K p = 0 then V (p + 1) else nr) (if K p = 16 then V (p + 1) else ps)
      | .inr e => .inr e
def mk1 (x : Nat × List Nat) : List Nat := if x.1 = 14 ∨ x.1 = 15 then x.2 ++ [x.1] else []
def ccode : Cls → List Nat
  | [] => []
  | x :: l => mk1 x ++ ccode l
theorem ccode_app (l : Cls) (x : Nat × List Nat) : ccode (l ++ [x]) = ccode l ++ mk1 x := by
  induction l with
  | nil => simp [ccode]
  | cons y l ih => show mk1 y ++ ccode (l ++ [x]) = _; rw [ih, ← List.append_assoc]; rfl
theorem told_app (l : Cls) (x : Nat × List Nat) (w : Nat) : told (l ++ [x]) w = (told l w || x.1 == w) := by
  unfold told; rw [List.any_append]; simp
/-- between clauses -/
def RC (σ υ : St) (K : Nat → Nat) (k p : Nat) (cl : Cls) (nr ps : Nat) : Prop :=
  Eqx (PL k) σ υ ∧ gR υ 42 9 = some (30 + 2 * k) ∧ gI υ 42 1 = gI σ 42 1 ∧ gI υ 42 7 = II p ∧ gI υ 42 8 = II (K p) ∧ gI υ 42 2 = II 0 ∧ gI υ 42 3 = II (-1) ∧
  (∃ b : Nat, b < 131072 ∧ gI υ 42 10 = II b ∧ b.testBit 15 = false ∧ ∀ w, (w = 0 ∨ w = 14 ∨ w = 16) → b.testBit w = told cl w) ∧ gI υ (30 + 2 * k) 2 = II nr ∧ gI υ (30 + 2 * k) 3 = II ps ∧ CdC υ k (ccode cl)
/-- in halt, between clauses -/
def HC (σ υ : St) (S : Nat → Nat) (N k : Nat) (e : Nat × Nat) : Prop := Eqx (PL k) σ υ ∧ gI υ 42 1 = gI σ 42 1 ∧ gI υ 42 8 = II 39 ∧ gI υ 42 2 = II e.1 ∧ gI υ 42 3 = II (S e.2) ∧ 1 ≤ e.1 ∧ e.1 ≤ 5
theorem HS_HC {σ ρ υ : St} {S : Nat → Nat} {N k : Nat} {e : Nat × Nat} (h1 : Eqx (PL k) σ ρ) (h2 : gI ρ 42 1 = gI σ 42 1) (h : HS ρ υ S N k e) : HC σ υ S N k e := by
  obtain ⟨p, hp, _⟩ := h.2.1
  exact ⟨Eqx.trans h1 h.1.1, by rw [h.1.2.2.1]; exact h2, h.2.2.1, h.2.2.2.1, h.2.2.2.2.1, hp.2.1, hp.2.2⟩
theorem HK_x {σ τ : St} {K V S : Nat → Nat} {N k : Nat} (h : HK σ K V S N) (hk : k < 6) (e : Eqx (PL k) σ τ) : HK τ K V S N :=
  ⟨fun j hj => by rw [PL_g e hk (by omega), PL_g e hk (by omega)]; exact h.1 j hj, fun j hj hj2 => by rw [PL_g e hk (by omega)]; exact h.2 j hj hj2⟩
theorem c151H {σ υ : St} {S : Nat → Nat} {N k : Nat} {e : Nat × Nat} {post : St → Prop} (h : HS σ υ S N k e) (hq : post υ) : wbX8_clause_151 post υ := by
  unfold wbX8_clause_151
  simp (disch := omega) only [wpX8_expect, h.2.2.1, I_lit, I_eq]
  exact ⟨fun _ => failH_ok h hq, fun z => by omega⟩
theorem c93H {σ υ : St} {K V S : Nat → Nat} {N k : Nat} {e : Nat × Nat} {v2 s0 s1 : Int32} {post : St → Prop} (hk : k < 6) (hT : Tk K N) (hK : HK σ K V S N) (h : HS σ υ S N k e) (h0 : s1 ||| s0 = gI υ 42 10) (hq : ∀ τ, HS σ τ S N k e → post τ) : wbX8_clause_93 post v2 s0 s1 υ := by
  have n3 := hT.2.1
  unfold wbX8_clause_93
  simp only [fe]
  rw [h0]
  have h' : HS σ (sI υ 42 10 (gI υ 42 10)) S N k e := by
    obtain ⟨⟨f1, f2, f3, f4, f5, f6⟩, ⟨p, hp, h2⟩, h3, h4, h5, L, hL, h6⟩ := h
    refine ⟨⟨Eqx_tI f1 (by simp [PL]), ?_, ?_, ?_, ?_, ?_⟩, ⟨p, hp, ?_⟩, ?_, ?_, ?_, L, hL, ?_⟩
    · rw [gR_sI]; exact f2
    · rw [rI3 (by omega)]; exact f3
    · rw [rI1]; exact f4
    · rw [rI2 (by omega)]; exact f5
    · rw [rI2 (by omega)]; exact f6
    · rw [rI3 (by omega)]; exact h2
    · rw [rI3 (by omega)]; exact h3
    · rw [rI3 (by omega)]; exact h4
    · rw [rI3 (by omega)]; exact h5
    · rw [rI2 (by omega)]; exact h6
  refine advH_ok h' ?_
  refine ⟨fun _ => ⟨fun _ => ?_, fun _ => ?_⟩, fun _ => ?_⟩
  · unfold wpX8_window
    obtain ⟨p, hp, e7⟩ := h'.2.1
    refine ⟨by rw [e7]; exact of_eq_true (I_in (by omega)), ?_⟩
    simp only [fe]
    rw [h'.2.2.1]
    refine ⟨fun z => absurd z (by decide), fun _ => failH_ok h' ?_⟩
    unfold wbX8_window_78
    exact advH_ok h' (c151H h' (hq _ h'))
  · refine (either_ok hk hT hK).2 _ e _ h' (fun τ hτ => ?_)
    exact putH_ok hk hτ (fun ρ hρ => c151H hρ (hq ρ hρ))
  · refine sumH h' ?_
    exact putH_ok hk h' (fun ρ hρ => c151H hρ (hq ρ hρ))
theorem RC_RS {σ υ : St} {K : Nat → Nat} {k p : Nat} {cl : Cls} {nr ps : Nat} (h : RC σ υ K k p cl nr ps) : RS υ υ K k p (ccode cl) :=
  ⟨⟨Eqx.refl _ _, h.2.1, rfl, rfl, rfl, rfl⟩, h.2.2.2.1, h.2.2.2.2.1, rfl, rfl, h.2.2.2.2.2.2.2.2.2.2⟩
theorem clauseF_ok {σ υ : St} {K V S : Nat → Nat} {N k p f : Nat} {cl : Cls} {nr ps : Nat} {post : St → Prop} (hk : k < 6) (hT : Tk K N) (hK : HK σ K V S N) (h : RC σ υ K k p cl nr ps) (hp : p ≤ N) (hc : (ccode cl).length ≤ p) (hf : 1 ≤ f ∧ f ≤ 5) (hq : ∀ τ, HC σ τ S N k (f, p) → post τ) : wpX8_fail (II f) υ (fun τ => wbX8_clause_66 post (II (K p)) τ) := by
  have n3 := hT.2.1
  have k38 := Tk_le hT hp
  have hK' := HK_x hK hk h.1
  refine fail_ok hk hT hK' (RC_RS h) hp (by omega) ?_ hf
  intro τ hτ
  have o0 : ∀ x : Int32, x ||| 0 = x := fun x => by
    apply Int32.toBitVec_inj.mp
    show x.toBitVec ||| 0#32 = x.toBitVec
    simp
  have fin := c93H (v2 := II (K p)) (s0 := 0) (s1 := gI τ 42 10) (post := post) hk hT hK' hτ (o0 _) (fun ρ hρ => hq ρ (HS_HC h.1 h.2.2.1 hρ))
  unfold wbX8_clause_66
  rw [hτ.2.2.1]
  exact ⟨fun _ => fin, fun _ => ⟨fun z => absurd rfl z, fun _ => fin⟩⟩
def RD (σ ρ : St) (K : Nat → Nat) (k p : Nat) (cl : Cls) (nr ps b' : Nat) : Prop := Eqx (PL k) σ ρ ∧ gI ρ 42 1 = gI σ 42 1 ∧ gI ρ 42 10 = II b' ∧ gI ρ 42 2 = II 0 ∧ gI ρ 42 3 = II (-1) ∧ gI ρ (30 + 2 * k) 2 = II nr ∧ gI ρ (30 + 2 * k) 3 = II ps ∧ RS ρ ρ K k p (ccode cl)
theorem win_ok {σ ρ τ : St} {K V S : Nat → Nat} {N k p b' : Nat} {cl : Cls} {nr ps : Nat} {post : St → Prop} (hk : k < 6) (hT : Tk K N) (hK : HK σ K V S N) (hp : p < N) (hc : (ccode cl).length ≤ p) (hR : RD σ ρ K k p cl nr ps b') (c1 : b' < 131072) (c15 : b'.testBit 15 = false) (c2 : ∀ w, (w = 0 ∨ w = 14 ∨ w = 16) → b'.testBit w = (told cl w || K p == w)) (hτ : RS ρ τ K k (p + 1) (ccode cl))
    (q1 : ∀ r, pCl K V p = .inl r → ∀ τ, RC σ τ K k r.1 (cl ++ [(K p, r.2)]) (if K p = 0 then V (p + 1) else nr) (if K p = 16 then V (p + 1) else ps) → (ccode (cl ++ [(K p, r.2)])).length ≤ r.1 → r.1 ≤ N → post τ) (q2 : ∀ e, pCl K V p = .inr e → ∀ τ, HC σ τ S N k e → post τ) (y : K p ≠ 14) (y2 : K p ≠ 15) (e0 : K p = 0 ∨ K p = 16) : wpX8_window (II (K p)) τ (fun σ_5 => wbX8_clause_151 post σ_5) := by
  have n3 := hT.2.1
  obtain ⟨rE, r1, r10, r2, r3, rn, rp, hρ⟩ := hR
  have hKρ := HK_x hK hk rE
  have epc : pCl K V p = bd (pWn K V (if K p = 0 then 20 else 60) (p + 1)) (exT K 35) := by unfold pCl; rw [if_neg (by omega), if_neg (by omega)]
  rw [epc] at q1 q2
  have k39 := Tk_le hT (show p + 1 ≤ N by omega)
  have bad : ∀ f, pWn K V (if K p = 0 then 20 else 60) (p + 1) = .inr (f, p + 1) → (1 ≤ f ∧ f ≤ 5) → wpX8_fail (II f) τ (fun σ_2 => wbX8_window_78 (fun σ_5 => wbX8_clause_151 post σ_5) σ_2) := by
    intro f ef hf
    rw [ef] at q2
    refine fail_ok hk hT hKρ hτ (by omega) (by omega) ?_ hf
    intro α hα
    unfold wbX8_window_78
    exact advH_ok hα (c151H hα (q2 _ rfl α (HS_HC rE r1 hα)))
  have good : 1 ≤ V (p + 1) ∧ V (p + 1) ≤ (if K p = 0 then 20 else 60) → K (p + 1) = 36 → (K p = 0 → wbX8_window_78 (fun σ_5 => wbX8_clause_151 post σ_5) (sI τ (30 + 2 * k) 2 (II (V (p + 1))))) ∧ (K p = 16 → wbX8_window_78 (fun σ_5 => wbX8_clause_151 post σ_5) (sI τ (30 + 2 * k) 3 (II (V (p + 1))))) := by
    intro hv h36
    have ew : pWn K V (if K p = 0 then 20 else 60) (p + 1) = .inl (p + 2, []) := by unfold pWn; rw [if_pos h36, if_pos hv]
    rw [ew] at q1 q2
    have hN : p + 1 ≠ N := fun e => by rw [e, hT.1] at h36; omega
    have core : ∀ (fld : Nat) (α : St), (fld = 2 ∨ fld = 3) → α = sI τ (30 + 2 * k) fld (II (V (p + 1))) → (fld = 2 ↔ K p = 0) → wbX8_window_78 (fun σ_5 => wbX8_clause_151 post σ_5) α := by
      intro fld α hfld eα hiff
      obtain ⟨⟨f1, f2, f3, f4, f5, f6⟩, g2, g3, g4, g5, g6⟩ := hτ
      have aE : Eqx (PL k) ρ α := by rw [eα]; exact Eqx_tI f1 (by simp [PL])
      have hα : RS α α K k (p + 1) (ccode cl) := by
        refine ⟨⟨Eqx.refl _ _, ?_, rfl, rfl, rfl, rfl⟩, ?_, ?_, rfl, rfl, ?_, ?_⟩
        · rw [eα, gR_sI]; exact f2
        · rw [eα, rI2 (by omega)]; exact g2
        · rw [eα, rI2 (by omega)]; exact g3
        · rw [eα, rI3 (by omega)]; exact g6.1
        · intro j hj; rw [eα, rI2 (by omega)]; exact g6.2 j hj
      have a1 : gI α 42 1 = gI σ 42 1 := by rw [eα, rI2 (by omega), f3]; exact r1
      have a10 : gI α 42 10 = II b' := by rw [eα, rI2 (by omega), f4]; exact r10
      have a2 : gI α 42 2 = II 0 := by rw [eα, rI2 (by omega), g4]; exact r2
      have a3 : gI α 42 3 = II (-1) := by rw [eα, rI2 (by omega), g5]; exact r3
      have an : gI α (30 + 2 * k) 2 = II (if K p = 0 then V (p + 1) else nr : Nat) := by
        rcases hfld with rfl | rfl
        · rw [eα, rI1, if_pos (hiff.mp rfl)]
        · rw [eα, rI3 (by omega), f5, if_neg (fun z => by have := hiff.mpr z; omega)]; exact rn
      have ap : gI α (30 + 2 * k) 3 = II (if K p = 16 then V (p + 1) else ps : Nat) := by
        rcases hfld with rfl | rfl
        · rw [eα, rI3 (by omega), f6, if_neg (by have := hiff.mp rfl; omega)]; exact rp
        · rw [eα, rI1, if_pos (by
            rcases e0 with e0 | e0
            · have := hiff.mpr e0; omega
            · exact e0)]
      have sE : Eqx (PL k) σ α := Eqx.trans rE aE
      have hKα := HK_x hK hk sE
      clear eα
      unfold wbX8_window_78
      refine adv_ok hk hT hKα hα (by omega) ?_
      intro β hβ
      unfold wbX8_clause_151
      refine (expect_ok (K := K) (V := V) (S := S) (N := N) (x := 35) hk hT hKα (by omega)).1 β (p + 2) (ccode cl) post hβ (by omega) (by omega) ?_
      intro γ hγ
      have ebd : bd (.inl (p + 2, [])) (exT K 35) = exT K 35 (p + 2) := by
        unfold bd
        simp only
        cases exT K 35 (p + 2) with
        | inl x => simp
        | inr x => rfl
      rw [ebd] at q1 q2
      cases hr : exT K 35 (p + 2) with
      | inl x =>
        rw [hr] at hγ q1
        have ex : x.2 = [] := by
          unfold exT at hr
          split at hr
          · simp only [Sum.inl.injEq] at hr; rw [← hr]
          · exact absurd hr (by simp)
        have hx := Ln_exT (k := 35) hT (by omega) (p + 2) (by omega) x.1 x.2 hr
        have ecc : ccode (cl ++ [(K p, x.2)]) = ccode cl := by rw [ccode_app]; unfold mk1; rw [if_neg (by simp only; omega), List.append_nil]
        have hγ : RS α γ K k x.1 (ccode cl ++ x.2) := hγ
        rw [ex, List.append_nil] at hγ
        obtain ⟨⟨u1, u2, u3, u4, u5, u6⟩, v2, v3, v4, v5, v6⟩ := hγ
        refine q1 x rfl γ ⟨Eqx.trans sE u1, u2, by rw [u3]; exact a1, v2, v3, by rw [v4]; exact a2, by rw [v5]; exact a3, ⟨b', c1, by rw [u4]; exact a10, c15, fun w hw => by rw [told_app]; exact c2 w hw⟩, by rw [u5]; exact an, by rw [u6]; exact ap, by rw [ecc]; exact v6⟩ (by rw [ecc]; omega) hx.1
      | inr x =>
        rw [hr] at hγ q2
        exact q2 x rfl γ (HS_HC sE a1 hγ)
    exact ⟨fun e => core 2 _ (Or.inl rfl) rfl ⟨fun _ => e, fun _ => rfl⟩, fun e => core 3 _ (Or.inr rfl) rfl ⟨fun y => by omega, fun y => by omega⟩⟩
  simp (disch := omega) only [wpX8_window, hτ.2.1, hτ.2.2.1, I_lit, I_eq, fe, I_cl, Int.toNat_natCast]
  refine ⟨of_eq_true (I_in (by omega)), fun y3 => ?_, fun y3 => ?_⟩
  · have e46 : gI τ 46 (p + 1) = II (V (p + 1)) := by rw [PL_g hτ.1.1 hk (by omega)]; exact (hKρ.2 (p + 1) (by omega) (by omega)).1
    have v4 := (hKρ.2 (p + 1) (by omega) (by omega)).2
    have bad2 : ¬ (1 ≤ V (p + 1) ∧ V (p + 1) ≤ (if K p = 0 then 20 else 60)) → wbX8_window_47 (wbX8_window_78 (fun σ_5 => wbX8_clause_151 post σ_5)) (fun σ_5 => wbX8_clause_151 post σ_5) τ := fun y4 => by
      unfold wbX8_window_47
      exact bad 2 (by unfold pWn; rw [if_pos (by omega), if_neg y4]) (by omega)
    simp (disch := omega) only [e46, I_lt, I_le, wbX8_window_44, I_lit, I_eq, fe]
    refine ⟨fun y4 => bad2 (by omega), fun y4 => ⟨fun y5 => ⟨fun y6 => ?_, fun y6 => bad2 (by rw [if_neg (by omega)]; omega)⟩, fun y5 => ⟨fun y6 => ?_, fun y6 => bad2 (by rw [if_pos (by omega)]; omega)⟩⟩⟩
    · refine ⟨fun _ => ⟨k, hτ.1.2.1, hk, ?_⟩, fun y7 => absurd y7 y5⟩
      exact (good (by rw [if_neg (by omega)]; omega) (by omega)).2 (by omega)
    · refine ⟨fun y7 => absurd y5 y7, fun _ => ⟨k, hτ.1.2.1, hk, ?_⟩⟩
      exact (good (by rw [if_pos (by omega)]; omega) (by omega)).1 (by omega)
  · exact bad 1 (by unfold pWn; rw [if_neg (by omega)]) (by omega)
theorem bar_ok {σ ρ τ : St} {K V S : Nat → Nat} {N k p b' : Nat} {cl : Cls} {nr ps : Nat} {post : St → Prop} (hk : k < 6) (hT : Tk K N) (hK : HK σ K V S N) (hp : p < N) (hc : (ccode cl).length ≤ p) (hR : RD σ ρ K k p cl nr ps b') (c1 : b' < 131072) (c15 : b'.testBit 15 = false) (c2 : ∀ w, (w = 0 ∨ w = 14 ∨ w = 16) → b'.testBit w = (told cl w || K p == w)) (hτ : RS ρ τ K k (p + 1) (ccode cl))
    (q1 : ∀ r, pCl K V p = .inl r → ∀ τ, RC σ τ K k r.1 (cl ++ [(K p, r.2)]) (if K p = 0 then V (p + 1) else nr) (if K p = 16 then V (p + 1) else ps) → (ccode (cl ++ [(K p, r.2)])).length ≤ r.1 → r.1 ≤ N → post τ) (q2 : ∀ e, pCl K V p = .inr e → ∀ τ, HC σ τ S N k e → post τ) (y2 : K p = 15) : wpX8_either τ (fun σ_7 => ∃ k_8, gR σ_7 42 9 = some (30 + 2 * k_8) ∧ k_8 < 6 ∧ (wpX9_put k_8 15 σ_7 (fun σ_10 => wbX8_clause_151 post σ_10))) := by
  have n3 := hT.2.1
  obtain ⟨rE, r1, r10, r2, r3, rn, rp, hρ⟩ := hR
  have hKρ := HK_x hK hk rE
  have back : ∀ (τ : St) (a : Nat × List Nat) (c : List Nat), RS ρ τ K k a.1 c → c = ccode (cl ++ [(K p, a.2)]) → K p ≠ 0 → K p ≠ 16 → RC σ τ K k a.1 (cl ++ [(K p, a.2)]) nr ps := by
    intro τ a c hτ ec e0 e16
    obtain ⟨⟨f1, f2, f3, f4, f5, f6⟩, g2, g3, g4, g5, g6⟩ := hτ
    refine ⟨Eqx.trans rE f1, f2, by rw [f3]; exact r1, g2, g3, by rw [g4]; exact r2, by rw [g5]; exact r3, ⟨b', c1, by rw [f4]; exact r10, c15, fun w hw => by rw [told_app]; exact c2 w hw⟩, by rw [f5]; exact rn, by rw [f6]; exact rp, by rw [← ec]; exact g6⟩
  have LE := Ln_pEi (V := V) hT
  have X35 := expect_ok (K := K) (V := V) (S := S) (N := N) (x := 35) hk hT hKρ (by omega)
  have epc : pCl K V p = bd (pEi K V (p + 1)) (exT K 35) := by unfold pCl; rw [if_neg (by omega), if_pos (by omega)]
  rw [epc] at q1 q2
  refine (either_ok hk hT hKρ).1 τ (p + 1) (ccode cl) _ hτ (by omega) (by omega) (by omega) ?_
  intro α hα
  refine put_ok (x := 15) hk hα (fun a ea => ?_) ?_
  · have := LE (p + 1) (by omega) a.1 a.2 ea
    rw [List.length_append]; omega
  · intro β hβ
    unfold wbX8_clause_151
    refine CP_seq X35 hβ (fun a ea => ?_) ?_
    · obtain ⟨a2, e1, e2⟩ := em_inl (show em 15 (pEi K V (p + 1)) = .inl (a.1, a.2) from ea)
      have := LE (p + 1) (by omega) a.1 a2 e1
      rw [e2, List.length_append, List.length_append, List.length_singleton]; omega
    · intro γ hγ
      cases hr : pEi K V (p + 1) with
      | inr e => rw [hr] at hγ q2; exact q2 e rfl γ (HS_HC rE r1 hγ)
      | inl a =>
        rw [hr] at hγ q1 q2
        have hl := LE (p + 1) (by omega) a.1 a.2 hr
        cases hx : exT K 35 a.1 with
        | inr e =>
          have eb : bd (.inl a) (exT K 35) = .inr e := by unfold bd; simp only; rw [hx]
          have eb2 : bd (em 15 (.inl a)) (exT K 35) = .inr e := by unfold bd em; simp only; rw [hx]
          rw [eb2] at hγ
          exact q2 e eb γ (HS_HC rE r1 hγ)
        | inl x =>
          have ex : x.2 = [] := by
            unfold exT at hx
            split at hx
            · simp only [Sum.inl.injEq] at hx; rw [← hx]
            · exact absurd hx (by simp)
          have lx := Ln_exT (k := 35) hT (by omega) a.1 hl.1 x.1 x.2 hx
          have lx1 : x.1 = a.1 + 1 := by
            unfold exT at hx
            split at hx
            · simp only [Sum.inl.injEq] at hx; rw [← hx]
            · exact absurd hx (by simp)
          have eb : bd (.inl a) (exT K 35) = .inl (x.1, a.2) := by unfold bd; simp only; rw [hx]; simp only; rw [ex, List.append_nil]
          have eb2 : bd (em 15 (.inl a)) (exT K 35) = .inl (x.1, a.2 ++ [15]) := by unfold bd em; simp only; rw [hx]; simp only; rw [ex, List.append_nil]
          rw [eb2] at hγ
          have hγ : RS ρ γ K k x.1 (ccode cl ++ (a.2 ++ [15])) := hγ
          have ecc : ccode cl ++ (a.2 ++ [15]) = ccode (cl ++ [(K p, a.2)]) := by rw [ccode_app]; unfold mk1; rw [if_pos (by simp only; omega)]; simp only; rw [show K p = 15 by omega]
          have := back γ (x.1, a.2) _ hγ ecc (by omega) (by omega)
          have q := q1 (x.1, a.2) eb γ
          rw [if_neg (by omega), if_neg (by omega)] at q
          refine q this ?_ lx.1
          rw [← ecc, List.length_append, List.length_append, List.length_singleton]; simp only; omega
theorem wor_ok {σ ρ τ : St} {K V S : Nat → Nat} {N k p b' : Nat} {cl : Cls} {nr ps : Nat} {post : St → Prop} (hk : k < 6) (hT : Tk K N) (hK : HK σ K V S N) (hp : p < N) (hc : (ccode cl).length ≤ p) (hR : RD σ ρ K k p cl nr ps b') (c1 : b' < 131072) (c15 : b'.testBit 15 = false) (c2 : ∀ w, (w = 0 ∨ w = 14 ∨ w = 16) → b'.testBit w = (told cl w || K p == w)) (hτ : RS ρ τ K k (p + 1) (ccode cl))
    (q1 : ∀ r, pCl K V p = .inl r → ∀ τ, RC σ τ K k r.1 (cl ++ [(K p, r.2)]) (if K p = 0 then V (p + 1) else nr) (if K p = 16 then V (p + 1) else ps) → (ccode (cl ++ [(K p, r.2)])).length ≤ r.1 → r.1 ≤ N → post τ) (q2 : ∀ e, pCl K V p = .inr e → ∀ τ, HC σ τ S N k e → post τ) (y : K p = 14) : wpX8_sum (wrX8_around 12) 0 τ (fun σ_12 => ∃ k_13, gR σ_12 42 9 = some (30 + 2 * k_13) ∧ k_13 < 6 ∧ (wpX9_put k_13 14 σ_12 (fun σ_15 => wbX8_clause_151 post σ_15))) := by
  have n3 := hT.2.1
  obtain ⟨rE, r1, r10, r2, r3, rn, rp, hρ⟩ := hR
  have hKρ := HK_x hK hk rE
  have back : ∀ (τ : St) (a : Nat × List Nat) (c : List Nat), RS ρ τ K k a.1 c → c = ccode (cl ++ [(K p, a.2)]) → K p ≠ 0 → K p ≠ 16 → RC σ τ K k a.1 (cl ++ [(K p, a.2)]) nr ps := by
    intro τ a c hτ ec e0 e16
    obtain ⟨⟨f1, f2, f3, f4, f5, f6⟩, g2, g3, g4, g5, g6⟩ := hτ
    refine ⟨Eqx.trans rE f1, f2, by rw [f3]; exact r1, g2, g3, by rw [g4]; exact r2, by rw [g5]; exact r3, ⟨b', c1, by rw [f4]; exact r10, c15, fun w hw => by rw [told_app]; exact c2 w hw⟩, by rw [f5]; exact rn, by rw [f6]; exact rp, by rw [← ec]; exact g6⟩
  have LS := Ln_pSm hT (Ln_pOne (V := V) hT 8)
  have X35 := expect_ok (K := K) (V := V) (S := S) (N := N) (x := 35) hk hT hKρ (by omega)
  have epc : pCl K V p = bd (pSm K (pOne K V 8) (p + 1)) (exT K 35) := by unfold pCl; rw [if_pos (by omega)]
  rw [epc] at q1 q2
  refine (sumC hk hT hKρ 8 (by omega)).1 τ (p + 1) (ccode cl) _ hτ (by omega) (by omega) ?_
  intro α hα
  refine put_ok (x := 14) hk hα (fun a ea => ?_) ?_
  · have := LS (p + 1) (by omega) a.1 a.2 ea
    rw [List.length_append]; omega
  · intro β hβ
    unfold wbX8_clause_151
    refine CP_seq X35 hβ (fun a ea => ?_) ?_
    · obtain ⟨a2, e1, e2⟩ := em_inl (show em 14 (pSm K (pOne K V 8) (p + 1)) = .inl (a.1, a.2) from ea)
      have := LS (p + 1) (by omega) a.1 a2 e1
      rw [e2, List.length_append, List.length_append, List.length_singleton]; omega
    · intro γ hγ
      cases hr : pSm K (pOne K V 8) (p + 1) with
      | inr e => rw [hr] at hγ q2; exact q2 e rfl γ (HS_HC rE r1 hγ)
      | inl a =>
        rw [hr] at hγ q1 q2
        have hl := LS (p + 1) (by omega) a.1 a.2 hr
        cases hx : exT K 35 a.1 with
        | inr e =>
          have eb : bd (.inl a) (exT K 35) = .inr e := by unfold bd; simp only; rw [hx]
          have eb2 : bd (em 14 (.inl a)) (exT K 35) = .inr e := by unfold bd em; simp only; rw [hx]
          rw [eb2] at hγ
          exact q2 e eb γ (HS_HC rE r1 hγ)
        | inl x =>
          have ex : x.2 = [] := by
            unfold exT at hx
            split at hx
            · simp only [Sum.inl.injEq] at hx; rw [← hx]
            · exact absurd hx (by simp)
          have lx := Ln_exT (k := 35) hT (by omega) a.1 hl.1 x.1 x.2 hx
          have lx1 : x.1 = a.1 + 1 := by
            unfold exT at hx
            split at hx
            · simp only [Sum.inl.injEq] at hx; rw [← hx]
            · exact absurd hx (by simp)
          have eb : bd (.inl a) (exT K 35) = .inl (x.1, a.2) := by unfold bd; simp only; rw [hx]; simp only; rw [ex, List.append_nil]
          have eb2 : bd (em 14 (.inl a)) (exT K 35) = .inl (x.1, a.2 ++ [14]) := by unfold bd em; simp only; rw [hx]; simp only; rw [ex, List.append_nil]
          rw [eb2] at hγ
          have hγ : RS ρ γ K k x.1 (ccode cl ++ (a.2 ++ [14])) := hγ
          have ecc : ccode cl ++ (a.2 ++ [14]) = ccode (cl ++ [(K p, a.2)]) := by rw [ccode_app]; unfold mk1; rw [if_pos (by simp only; omega)]; simp only; rw [show K p = 14 by omega]
          have := back γ (x.1, a.2) _ hγ ecc (by omega) (by omega)
          have q := q1 (x.1, a.2) eb γ
          rw [if_neg (by omega), if_neg (by omega)] at q
          refine q this ?_ lx.1
          rw [← ecc, List.length_append, List.length_append, List.length_singleton]; simp only; omega
