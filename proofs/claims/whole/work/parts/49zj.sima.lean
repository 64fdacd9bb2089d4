/-! taste: all clauses, in the machine -/
def Kd (cl : Cls) : Prop := ∀ x, x ∈ cl → x.1 = 14 ∨ x.1 = 15 ∨ x.1 = 0 ∨ x.1 = 16
def AF (A B : CS) (cl : Cls) : Prop := ∀ i, i < cl.length → A.1 i = II (tO (cl.getD i (0, [])).1 : Nat) ∧ B.1 i = II ((ords (cl.take i)).length : Nat)
theorem tk_s {α : Type} (l : List α) (d : α) : ∀ i, i < l.length → l.take (i + 1) = l.take i ++ [l.getD i d] := by
  induction l with
  | nil => intro i hi; exact absurd hi (by simp)
  | cons x l ih =>
    intro i hi
    cases i with
    | zero => simp
    | succ i =>
      have := ih i (by simpa using hi)
      rw [List.take_succ_cons, this, List.take_succ_cons]
      simp
theorem upC_at (c : CS) (k : Nat) (v : Int32) (j : Nat) : (upC c k v).1 j = if j = k then v else c.1 j := by
  have e : upC c k v = (sI (fun _ => c) 92 k v) 92 := (sI_cell (fun _ => c) 92 k v).symm
  rw [e]
  show gI (sI (fun _ => c) 92 k v) 92 j = _
  by_cases h : j = k
  · rw [h, rI1, if_pos rfl]
  · rw [rI3 h, if_neg h]; rfl
theorem tO_22 : ∀ a, a < 22 → ∀ b, b < 22 → tO a = tO b → a = b := by decide
theorem wasTold_ok {υ : St} {cl : Cls} {w : Nat} {post : Int32 → St → Prop} (h30 : gI υ 75 30 = II (cl.length : Nat)) (hl : cl.length ≤ 12) (h92 : ∀ i, i < cl.length → gI υ 92 i = II (tO (cl.getD i (0, [])).1 : Nat)) (hk : ∀ i, i < cl.length → (cl.getD i (0, [])).1 < 22) (hw : w < 22) (hq : post (II (if told cl w = true then 1 else 0)) υ) : wpX12_wasTold (II (tO w : Nat)) υ post := by
  have key := up (P := fun f i => wbX12_wasTold_4 post f (II (tO w : Nat)) (II (if told (cl.take i) w = true then 1 else 0)) (II i) υ) cl.length ?_ ?_ 0 (by omega)
  · exact key
  · intro f
    rw [List.take_length]
    simp (disch := omega) only [wbX12_wasTold_4, h30, I_le]
    refine ⟨fun _ => ⟨?_, hq⟩, fun z => absurd (Int.le_refl _) z⟩
    by_cases c : told cl w = true
    · rw [if_pos c]; exact Or.inr rfl
    · rw [if_neg c]; exact Or.inl rfl
  · intro f i hi ih
    have e1 := tk_s cl (0, []) i hi
    rw [e1, told_app] at ih
    have b1 := tO_b w (by omega)
    have b2 := tO_b (cl.getD i (0, [])).1 (by have := hk i hi; omega)
    by_cases c : told (cl.take i) w = true
    · rw [if_pos c]
      rw [c, Bool.true_or, if_pos rfl] at ih
      simp (disch := omega) only [wbX12_wasTold_4, h30, I_le, I_lit, I_eq, fe, I_add]
      exact ⟨fun z => absurd z (by omega), fun _ => ⟨fun _ => ih, fun z => by omega⟩⟩
    · rw [if_neg c]
      have c' : told (cl.take i) w = false := by simpa using c
      rw [c', Bool.false_or] at ih
      simp (disch := omega) only [wbX12_wasTold_4, h30, I_le, I_lit, I_eq, fe, I_add, I_in, true_and, I_cl, Int.toNat_natCast, h92 i hi]
      refine ⟨fun z => absurd z (by omega), fun _ => ⟨fun z => absurd trivial z, fun _ => ⟨fun z => ?_, fun z => ?_⟩⟩⟩
      · have : ((cl.getD i (0, [])).1 == w) = false := by
          simp only [beq_eq_false_iff_ne]
          intro e; exact z (by rw [e])
        rw [this] at ih; exact ih
      · have : ((cl.getD i (0, [])).1 == w) = true := by
          rw [beq_iff_eq]; exact tO_22 _ (hk i hi) w hw (by omega)
        rw [this, if_pos rfl] at ih; exact ih
theorem goC_ok {σ : St} {A B : CS} {K V S E : Nat → Nat} {N p : Nat} {cl : Cls} {nr ps : Nat} {post : Int32 → St → Prop} (hT : Tk K N) (hp : p ≤ N) (h37 : K p ≠ 37) (n : Nat) (h : ∀ υ, RCk σ A B υ K V S E p cl nr ps → wpX12_clause υ (fun τ => wbX12_taste_86 post n τ)) : GoC σ A B K V S E post p cl nr ps := by
  refine ⟨n + 1, fun υ hυ => ?_⟩
  have k38 := Tk_le hT hp
  have e19 := hυ.2.2.2.2.1
  have e29 := hυ.2.2.2.2.2.2.2.2.2.1
  have t := hυ.2.2.2.2.2.2.2.2.2.2.2.2.2.2.2
  have s0 : sO (K p) ≠ 0 := by
    have : ∀ k, k ≤ 38 → k ≠ 37 → sO k ≠ 0 := by decide
    exact this _ k38 h37
  have sb := sO_b (K p) k38
  have c108 : wbX12_taste_108 (wbX12_taste_86 post n) post υ := by
    simp (disch := omega) only [wbX12_taste_108, e29, I_lit, I_eq, fe]
    exact ⟨fun z => by omega, fun _ => ⟨fun z => by omega, fun _ => ⟨fun z => by omega, fun _ => ⟨fun z => by omega, fun _ => h υ hυ⟩⟩⟩⟩
  simp (disch := omega) only [wbX12_taste_86, e19, e29, t.1, I_lit, I_eq]
  exact ⟨fun z => absurd trivial z, fun _ => ⟨fun z => absurd trivial z, fun _ => ⟨fun z => by omega, fun _ => c108⟩⟩⟩
theorem errs2_ok {σ υ : St} {S : Nat → Nat} {e : Nat × Nat} {f : Int32} {post : St → Prop} (h : RF σ υ S e) (hq : post υ) : wpX12_errs f υ post := by
  unfold wpX12_errs
  rw [h.2.2.1, show (0 : Int32) = II 0 from rfl, I_eq (by have := h.2.2.2.2; omega)]
  exact ⟨fun _ => hq, fun z => by have := h.2.2.2.2; omega⟩
/-- near, past -/
theorem win_sim {σ : St} {A B : CS} {K V S E : Nat → Nat} {N p nr ps w : Nat} {cl : Cls} {post : Int32 → St → Prop} (hX : ∀ σ' : St, σ' 79 = σ 79 → gI σ' 75 14 = gI σ 75 14 → NX σ' K V S E N) (hT : Tk K N) (hp : p ≤ N) (hl : (ords cl).length ≤ p) (hw : w = 0 ∨ w = 16)
    (hS : ∀ q c, bd (pWn K V (if w = 0 then 20 else 60) p) (exT K 35) = .inl (q, c) → GoC σ A B K V S E post q (cl ++ [(w, c)]) (if w = 0 then V p else nr) (if w = 16 then V p else ps)) (hE : ∀ e, bd (pWn K V (if w = 0 then 20 else 60) p) (exT K 35) = .inr e → GoE σ S post e) : ∃ n, ∀ υ, RA (bs92 σ A B cl.length nr ps) υ K V S E 4 p [] [] 0 (ords cl) → wbX12_clause_107 (fun τ => wbX12_taste_86 post n τ) (II (tO w : Nat)) υ := by
  have n3 := hT.2.1
  have hXb : NX (bs92 σ A B cl.length nr ps) K V S E N := hX _ (bs_q (by omega)) (bs_f (by omega))
  have k38 := Tk_le hT hp
  obtain ⟨mx, emx⟩ : ∃ mx : Nat, mx = if w = 0 then 20 else 60 := ⟨_, rfl⟩
  have mxb : mx ≤ 60 := by rw [emx]; split <;> omega
  rw [← emx] at hS hE
  have tw : tO w = if w = 0 then 2 else 3 := by rcases hw with e | e <;> rw [e] <;> decide
  have to121 : ∀ {n : Nat} {υ : St}, wbX12_clause_121 (fun τ => wbX12_taste_86 post n τ) (II (tO w : Nat)) (II mx) 1 υ → wbX12_clause_107 (fun τ => wbX12_taste_86 post n τ) (II (tO w : Nat)) υ := fun {n υ} h => by
    unfold wbX12_clause_107
    rcases hw with e | e
    · rw [e] at h tw emx ⊢
      rw [emx] at h
      exact ⟨fun z => absurd rfl z, fun _ => h⟩
    · rw [e] at h tw emx ⊢
      rw [emx] at h
      exact ⟨fun _ => h, fun z => absurd z (by decide)⟩
  by_cases k36 : K p = 36
  · have hN : p ≠ N := fun e => by rw [e, hT.1] at k36; omega
    have s2 : sO (K p) = 2 := by rw [k36]; rfl
    by_cases cv : 1 ≤ V p ∧ V p ≤ mx
    · have ew : pWn K V mx p = .inl (p + 1, []) := by unfold pWn; rw [if_pos k36, if_pos cv]
      rw [ew] at hS hE
      have k39 := Tk_le hT (show p + 1 ≤ N by omega)
      by_cases k35 : K (p + 1) = 35
      · have hN2 : p + 1 ≠ N := fun e => by rw [e, hT.1] at k35; omega
        obtain ⟨n, hn⟩ := hS (p + 2) ([] ++ []) (by unfold bd exT; simp only; rw [if_pos k35])
        refine ⟨n, fun υ h => to121 ?_⟩
        have t := RA_TA h
        obtain ⟨r, hr, e18, ev⟩ := t.2.2.1 k36
        have er : r = V p := by omega
        rw [er] at e18
        unfold wbX12_clause_121 wpX12_number
        rw [h.2.2.1, t.1, s2, e18]
        refine ⟨fun z => absurd z (by decide), fun _ => ⟨fun _ => ?_, fun z => absurd rfl z⟩⟩
        refine in_ok (b := 1) (by omega) (fun _ => ⟨fun _ => ?_, fun z => absurd z i10⟩) (fun z => absurd (by omega) z)
        simp only [fe]
        rw [e18]
        refine hXb υ 4 p 0 [] [] _ _ (by omega) h ?_
        intro τ hτ
        rw [hτ.2.2.1]
        refine ⟨fun z => absurd rfl z, fun _ => ?_⟩
        refine isSign_ok 35 (RA_TA hτ) k39 (by omega) (by omega) (fun _ => ⟨fun z => absurd z i10, fun _ => ?_⟩) (fun z => absurd k35 z)
        have e31 : gI τ 75 31 = II nr := by rw [hτ.2.1 31 (by omega)]; exact bs_30.2.1
        have e32 : gI τ 75 32 = II ps := by rw [hτ.2.1 32 (by omega)]; exact bs_30.2.2
        have fin : ∀ nr' ps' : Nat, nr' = (if w = 0 then V p else nr) → ps' = (if w = 16 then V p else ps) → wpX12_clauseIsOver (sI (sI τ 75 31 (II nr')) 75 32 (II ps')) (fun σ_3 => wbX12_taste_86 post n σ_3) := by
          intro nr' ps' e1 e2
          have hR : RA (bs92 σ A B cl.length nr' ps') (sI (sI τ 75 31 (II nr')) 75 32 (II ps')) K V S E 4 (p + 1) [] [] 0 (ords cl) := by
            obtain ⟨h1, h2, h3, h4, h5, h6, h7, h8, h9, h10, h11, h12, t1, t2, t3, t4, t5⟩ := hτ
            have ge : ∀ q, q ≠ 75 → (sI (sI τ 75 31 (II nr')) 75 32 (II ps')) q = τ q := fun q a => (Eqx_tI (Eqx_tI (Eqx.refl [75] τ) (by simp)) (by simp) q (by simp; omega)).symm
            have g : ∀ f, f ≠ 31 → f ≠ 32 → gI (sI (sI τ 75 31 (II nr')) 75 32 (II ps')) 75 f = gI τ 75 f := fun f a b => by rw [rI3 b, rI3 a]
            obtain ⟨u1, u2, u3⟩ := bs_E h1
            refine ⟨fun q hq => ?_, fun f hf => ?_, by rw [g 19 (by omega) (by omega)]; exact h3, by rw [g 20 (by omega) (by omega)]; exact h4, by rw [g 21 (by omega) (by omega)]; exact h5, by rw [g 22 (by omega) (by omega)]; exact h6, by rw [g 26 (by omega) (by omega)]; exact h7, by rw [g 29 (by omega) (by omega)]; exact h8, by rw [g 35 (by omega) (by omega)]; exact h9, fun i hi => absurd hi (by simp), fun i hi => absurd hi (by simp), PrA_eq h12 (ge 94 (by omega)) (ge 95 (by omega)), by rw [g 17 (by omega) (by omega)]; exact t1, fun z => by rw [g 18 (by omega) (by omega)]; exact t2 z, fun z => by rw [g 18 (by omega) (by omega)]; exact t3 z, by rw [g 16 (by omega) (by omega)]; exact t4, by rw [g 15 (by omega) (by omega)]; exact t5⟩
            · rw [ge q (fun z => hq (by rw [z]; simp [ML]))]
              by_cases a : q = 92
              · rw [a, bs_92.1, u2]
              · by_cases b : q = 93
                · rw [b, bs_92.2, u3]
                · rw [bs_q (by refine ⟨fun z => hq (by rw [z]; simp [ML]), a, b⟩)]
                  exact u1 q (fun z => hq (by simp [MC] at z; simp [ML]; omega))
            · by_cases a : f = 31
              · rw [a, rI3 (by omega), rI1, bs_30.2.1]
              · by_cases b : f = 32
                · rw [b, rI1, bs_30.2.2]
                · rw [g f a b, h2 f hf]
                  by_cases c : f = 30
                  · rw [c, bs_30.1, bs_30.1]
                  · rw [bs_f ⟨c, a, b⟩, bs_f ⟨c, a, b⟩]
          refine over_sim (w := w) (c := []) (fr := []) (pd := []) hX (by omega) (by simp) rfl (fun x hx => absurd hx (by simp)) (by simp) (L' := ords cl) (by simp [opsR, roL]) (by simp [roL]; omega) hR (fun α hα => ?_)
          have := hn α
          rw [← e1, ← e2] at this
          exact this hα
        rcases hw with e | e
        · rw [e] at tw ⊢
          refine ⟨fun z => absurd rfl z, fun _ => ?_⟩
          unfold wbX12_clause_155
          simp only [fe]
          refine ⟨fun _ => ?_, fun z => absurd z (by decide)⟩
          unfold wbX12_clause_172
          simp only [fe]
          rw [rI3 (by omega), e32]
          exact fin (V p) ps (by rw [if_pos e]) (by rw [if_neg (by omega)])
        · rw [e] at tw ⊢
          refine ⟨fun _ => ?_, fun z => absurd z (by decide)⟩
          unfold wbX12_clause_155
          simp only [fe]
          refine ⟨fun z => absurd rfl z, fun _ => ?_⟩
          unfold wbX12_clause_172
          simp only [fe]
          rw [e31]
          exact fin nr (V p) (by rw [if_neg (by omega)]) (by rw [if_pos e])
      · obtain ⟨n, hn⟩ := GoE_F (A := A) (B := B) (n := cl.length) (nr := nr) (ps := ps) (hE (1, p + 1) (by unfold bd exT; simp only; rw [if_neg k35]))
        refine ⟨n, fun υ h => to121 ?_⟩
        have t := RA_TA h
        obtain ⟨r, hr, e18, ev⟩ := t.2.2.1 k36
        have er : r = V p := by omega
        rw [er] at e18
        unfold wbX12_clause_121 wpX12_number
        rw [h.2.2.1, t.1, s2, e18]
        refine ⟨fun z => absurd z (by decide), fun _ => ⟨fun _ => ?_, fun z => absurd rfl z⟩⟩
        refine in_ok (b := 1) (by omega) (fun _ => ⟨fun _ => ?_, fun z => absurd z i10⟩) (fun z => absurd (by omega) z)
        simp only [fe]
        refine hXb υ 4 p 0 [] [] _ _ (by omega) h ?_
        intro τ hτ
        rw [hτ.2.2.1]
        refine ⟨fun z => absurd rfl z, fun _ => ?_⟩
        refine isSign_ok 35 (RA_TA hτ) k39 (by omega) (by omega) (fun z => absurd z k35) (fun _ => ⟨fun _ => ?_, fun z => absurd rfl z⟩)
        exact errs_ok (f := 1) hτ (by omega) (fun ρ hρ => hn ρ hρ)
    · obtain ⟨n, hn⟩ := GoE_F (A := A) (B := B) (n := cl.length) (nr := nr) (ps := ps) (hE (2, p) (by
        have : pWn K V mx p = .inr (2, p) := by unfold pWn; rw [if_pos k36, if_neg cv]
        rw [this]; rfl))
      refine ⟨n, fun υ h => to121 ?_⟩
      have t := RA_TA h
      obtain ⟨r, hr, e18, ev⟩ := t.2.2.1 k36
      unfold wbX12_clause_121 wpX12_number
      rw [h.2.2.1, t.1, s2, e18]
      refine ⟨fun z => absurd z (by decide), fun _ => ⟨fun _ => ?_, fun z => absurd rfl z⟩⟩
      refine in_ok (b := 1) (by omega) (fun z => absurd (by omega) cv) (fun _ => ⟨fun z => absurd rfl z, fun _ => ?_⟩)
      refine errs_ok (f := 2) h (by omega) ?_
      intro ρ hρ
      have z0 : ¬ gI ρ 75 19 = 0 := by rw [hρ.2.2.1]; show ¬ II 2 = 0; decide
      exact ⟨fun _ => errs2_ok hρ (hn ρ hρ), fun z => absurd z z0⟩
  · obtain ⟨n, hn⟩ := GoE_F (A := A) (B := B) (n := cl.length) (nr := nr) (ps := ps) (hE (1, p) (by
      have : pWn K V mx p = .inr (1, p) := by unfold pWn; rw [if_neg k36]
      rw [this]; rfl))
    have s2 : sO (K p) ≠ 2 := by
      have : ∀ k, k ≤ 38 → k ≠ 36 → sO k ≠ 2 := by decide
      exact this _ k38 k36
    have sb := sO_b (K p) k38
    refine ⟨n, fun υ h => to121 ?_⟩
    have t := RA_TA h
    unfold wbX12_clause_121 wpX12_number
    have ne2 : ¬ II ((sO (K p) : Nat) : Int) = 2 := by rw [show (2 : Int32) = II 2 from rfl, I_eq (by omega)]; omega
    rw [h.2.2.1, t.1]
    refine ⟨fun z => absurd z (by decide), fun _ => ⟨fun z => absurd z ne2, fun _ => ?_⟩⟩
    unfold wbX12_number_15
    refine errs_ok (f := 1) h (by omega) ?_
    intro ρ hρ
    have z0 : ¬ gI ρ 75 19 = 0 := by rw [hρ.2.2.1]; show ¬ II 1 = 0; decide
    exact ⟨fun _ => errs2_ok hρ (hn ρ hρ), fun z => absurd z z0⟩
