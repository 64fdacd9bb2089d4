/-! taste: clauses, in the machine -/
def upC (c : CS) (k : Nat) (v : Int32) : CS := (upd c.1 k v, c.2)
theorem sI_cell (υ : St) (q k : Nat) (v : Int32) : (sI υ q k v) q = upC (υ q) k v := by unfold sI va_up upC; simp
def MC : List Nat := [75, 87, 88, 89, 90, 91, 92, 93, 94, 95]
def bs92 (σ : St) (A B : CS) (n nr ps : Nat) : St := sI (sI (sI (fun q => if q = 92 then A else if q = 93 then B else σ q) 75 30 (II n)) 75 31 (II nr)) 75 32 (II ps)
theorem bs_q {σ : St} {A B : CS} {n nr ps q : Nat} (h : q ≠ 75 ∧ q ≠ 92 ∧ q ≠ 93) : bs92 σ A B n nr ps q = σ q := by
  have : ∀ τ : St, (sI (sI (sI τ 75 30 (II n)) 75 31 (II nr)) 75 32 (II ps)) q = τ q := fun τ => (Eqx_tI (Eqx_tI (Eqx_tI (Eqx.refl [75] τ) (by simp)) (by simp)) (by simp) q (by simp; omega)).symm
  unfold bs92
  rw [this]; simp [h.2.1, h.2.2]
theorem bs_92 {σ : St} {A B : CS} {n nr ps : Nat} : bs92 σ A B n nr ps 92 = A ∧ bs92 σ A B n nr ps 93 = B := by
  have : ∀ (τ : St) q, q ≠ 75 → (sI (sI (sI τ 75 30 (II n)) 75 31 (II nr)) 75 32 (II ps)) q = τ q := fun τ q h => (Eqx_tI (Eqx_tI (Eqx_tI (Eqx.refl [75] τ) (by simp)) (by simp)) (by simp) q (by simp; omega)).symm
  unfold bs92
  rw [this _ 92 (by omega), this _ 93 (by omega)]; simp
theorem bs_f {σ : St} {A B : CS} {n nr ps f : Nat} (h : f ≠ 30 ∧ f ≠ 31 ∧ f ≠ 32) : gI (bs92 σ A B n nr ps) 75 f = gI σ 75 f := by
  unfold bs92
  rw [rI3 (by omega), rI3 (by omega), rI3 (by omega)]
  unfold gI; simp
theorem bs_30 {σ : St} {A B : CS} {n nr ps : Nat} : gI (bs92 σ A B n nr ps) 75 30 = II n ∧ gI (bs92 σ A B n nr ps) 75 31 = II nr ∧ gI (bs92 σ A B n nr ps) 75 32 = II ps := by
  unfold bs92
  exact ⟨by rw [rI3 (by omega), rI3 (by omega), rI1], by rw [rI3 (by omega), rI1], rI1⟩
def ords : Cls → List (Nat × Nat)
  | [] => []
  | x :: l => roL x.2 ++ [(408, 0)] ++ ords l
theorem ords_app (l : Cls) (x : Nat × List Nat) : ords (l ++ [x]) = ords l ++ (roL x.2 ++ [(408, 0)]) := by
  induction l with
  | nil => simp [ords]
  | cons y l ih => show roL y.2 ++ [(408, 0)] ++ ords (l ++ [x]) = _; rw [ih]; simp [ords]
/-- between clauses -/
def RCk (σ : St) (A B : CS) (υ : St) (K V S E : Nat → Nat) (p : Nat) (cl : Cls) (nr ps : Nat) : Prop :=
  Eqx MC σ υ ∧ υ 92 = A ∧ υ 93 = B ∧ (∀ f, f < 15 → gI υ 75 f = gI σ 75 f) ∧ gI υ 75 19 = II 0 ∧ gI υ 75 20 = II (-1) ∧ gI υ 75 21 = II 0 ∧ gI υ 75 22 = II 0 ∧ gI υ 75 26 = II 0 ∧ gI υ 75 29 = II 4 ∧ gI υ 75 30 = II (cl.length : Nat) ∧ gI υ 75 31 = II nr ∧ gI υ 75 32 = II ps ∧ gI υ 75 35 = II ((ords cl).length : Nat) ∧ PrA υ 94 95 (ords cl) ∧ TA υ K V S E p
def RFk (σ υ : St) (S : Nat → Nat) (e : Nat × Nat) : Prop := Eqx MC σ υ ∧ (∀ f, f < 15 → gI υ 75 f = gI σ 75 f) ∧ gI υ 75 19 = II e.1 ∧ gI υ 75 20 = II (S e.2) ∧ 1 ≤ e.1 ∧ e.1 ≤ 5
theorem bs_E {σ υ : St} {A B : CS} {n nr ps : Nat} (h : Eqx ML (bs92 σ A B n nr ps) υ) : Eqx MC σ υ ∧ υ 92 = A ∧ υ 93 = B := by
  refine ⟨fun q hq => ?_, ?_, ?_⟩
  · have hq2 : q ∉ ML := fun z => hq (by simp [ML] at z; simp [MC]; omega)
    rw [← h q hq2]
    exact (bs_q (by simp [MC] at hq; omega)).symm
  · rw [← h 92 (by simp [ML])]; exact bs_92.1
  · rw [← h 93 (by simp [ML])]; exact bs_92.2
theorem RF_k {σ υ : St} {A B : CS} {n nr ps : Nat} {S : Nat → Nat} {e : Nat × Nat} (h : RF (bs92 σ A B n nr ps) υ S e) : RFk σ υ S e := by
  obtain ⟨h1, h2, h3, h4, h5⟩ := h
  exact ⟨(bs_E h1).1, fun f hf => by rw [h2 f (by omega), bs_f (by omega)], h3, h4, h5⟩
/-- into the machine -/
theorem RCk_RA {σ υ : St} {A B : CS} {K V S E : Nat → Nat} {p : Nat} {cl : Cls} {nr ps : Nat} (h : RCk σ A B υ K V S E p cl nr ps) : RA (bs92 σ A B cl.length nr ps) υ K V S E 4 p [] [] 0 (ords cl) := by
  obtain ⟨h1, h2, h3, h4, h5, h6, h7, h8, h9, h10, h11, h12, h13, h14, h15, h16⟩ := h
  have b30 := bs_30 (σ := σ) (A := A) (B := B) (n := cl.length) (nr := nr) (ps := ps)
  refine ⟨fun q hq => ?_, fun f hf => ?_, h5, h6, h7, h8, h9, h10, h14, fun i hi => absurd hi (by simp), fun i hi => absurd hi (by simp), h15, h16⟩
  · by_cases a : q = 92
    · rw [a, bs_92.1, h2]
    · by_cases b : q = 93
      · rw [b, bs_92.2, h3]
      · rw [bs_q (by refine ⟨fun z => hq (by rw [z]; simp [ML]), a, b⟩)]
        exact h1 q (fun z => hq (by simp [MC] at z; simp [ML]; omega))
  · by_cases a : f < 15
    · rw [bs_f (by omega)]; exact h4 f a
    · have : f = 30 ∨ f = 31 ∨ f = 32 := by omega
      rcases this with rfl | rfl | rfl
      · rw [b30.1]; exact h11
      · rw [b30.2.1]; exact h12
      · rw [b30.2.2]; exact h13
theorem over_sim {σ υ : St} {A B : CS} {K V S E : Nat → Nat} {N st q n nr ps : Nat} {cl : Cls} {w : Nat} {c : List Nat} {fr : List (Nat × Int)} {pd L' : List (Nat × Nat)} {post : St → Prop} (hX : ∀ σ' : St, σ' 79 = σ 79 → gI σ' 75 14 = gI σ 75 14 → NX σ' K V S E N) (hq : q < N) (hfl : fr.length ≤ 30) (hn : n = cl.length) (hpd : WkW pd fr.length 1) (hpl : pd.length ≤ 2) (hL : L' ++ opsR pd = ords cl ++ roL c) (hl : (ords cl ++ roL c).length < 400)
    (h : RA (bs92 σ A B n nr ps) υ K V S E st q fr pd 0 L') (hp : ∀ τ, RCk σ A B τ K V S E (q + 1) (cl ++ [(w, c)]) nr ps → post τ) : wpX12_clauseIsOver υ post := by
  have ll := congrArg List.length hL
  rw [List.length_append, opsR_len] at ll
  unfold wpX12_clauseIsOver
  refine works_ok (ws := []) (L := L') (r := 1) (by omega) (by omega) (fun ws' x e => absurd e (by simp)) hpd (by rw [List.nil_append]; omega) (by omega) (by rw [List.nil_append]; exact h) ?_
  intro τ hτ
  rw [hL] at hτ
  simp only [fe]
  have h0 : RA (bs92 σ A B n nr ps) (sI τ 75 22 0) K V S E st q [] [] 0 (ords cl ++ roL c) := by
    obtain ⟨h1, h2, h3, h4, h5, h6, h7, h8, h9, h10, h11, h12, t1, t2, t3, t4, t5⟩ := hτ
    have ge : ∀ q, q ≠ 75 → (sI τ 75 22 0) q = τ q := fun q a => (Eqx_tI (Eqx.refl [75] τ) (by simp) q (by simp; omega)).symm
    exact ⟨Eqx_tI h1 (by simp [ML]), fun f hf => by rw [rI3 (by omega)]; exact h2 f hf, by rw [rI3 (by omega)]; exact h3, by rw [rI3 (by omega)]; exact h4, by rw [rI3 (by omega)]; exact h5, rI1, by rw [rI3 (by omega)]; exact h7, by rw [rI3 (by omega)]; exact h8, by rw [rI3 (by omega)]; exact h9, fun i hi => absurd hi (by simp), PrA_eq h11 (ge 90 (by omega)) (ge 91 (by omega)), PrA_eq h12 (ge 94 (by omega)) (ge 95 (by omega)), by rw [rI3 (by omega)]; exact t1, fun z => by rw [rI3 (by omega)]; exact t2 z, fun z => by rw [rI3 (by omega)]; exact t3 z, by rw [rI3 (by omega)]; exact t4, by rw [rI3 (by omega)]; exact t5⟩
  refine emits_ok (a := 408) (b := 0) h0 (by omega) ?_
  intro ρ hρ
  have e30 : gI ρ 75 30 = II n := by rw [hρ.2.1 30 (by omega)]; exact bs_30.1
  rw [e30, show (1 : Int32) = II 1 from rfl, I_add]
  have hl2 : ords cl ++ roL c ++ [(408, 0)] = ords (cl ++ [(w, c)]) := by rw [ords_app, List.append_assoc]
  rw [hl2] at hρ
  -- the number of clauses is one more: another ground
  have h1' : RA (bs92 σ A B (n + 1) nr ps) (sI ρ 75 30 (II ((n : Int) + 1))) K V S E st q [] [] 0 (ords (cl ++ [(w, c)])) := by
    obtain ⟨h1, h2, h3, h4, h5, h6, h7, h8, h9, h10, h11, h12, t1, t2, t3, t4, t5⟩ := hρ
    have ge : ∀ q, q ≠ 75 → (sI ρ 75 30 (II ((n : Int) + 1))) q = ρ q := fun q a => (Eqx_tI (Eqx.refl [75] ρ) (by simp) q (by simp; omega)).symm
    obtain ⟨u1, u2, u3⟩ := bs_E h1
    refine ⟨fun q hq => ?_, fun f hf => ?_, by rw [rI3 (by omega)]; exact h3, by rw [rI3 (by omega)]; exact h4, by rw [rI3 (by omega)]; exact h5, by rw [rI3 (by omega)]; exact h6, by rw [rI3 (by omega)]; exact h7, by rw [rI3 (by omega)]; exact h8, by rw [rI3 (by omega)]; exact h9, fun i hi => absurd hi (by simp), PrA_eq h11 (ge 90 (by omega)) (ge 91 (by omega)), PrA_eq h12 (ge 94 (by omega)) (ge 95 (by omega)), by rw [rI3 (by omega)]; exact t1, fun z => by rw [rI3 (by omega)]; exact t2 z, fun z => by rw [rI3 (by omega)]; exact t3 z, by rw [rI3 (by omega)]; exact t4, by rw [rI3 (by omega)]; exact t5⟩
    · rw [ge q (fun z => hq (by rw [z]; simp [ML]))]
      by_cases a : q = 92
      · rw [a, bs_92.1, u2]
      · by_cases b : q = 93
        · rw [b, bs_92.2, u3]
        · rw [bs_q (by refine ⟨fun z => hq (by rw [z]; simp [ML]), a, b⟩)]
          exact u1 q (fun z => hq (by simp [MC] at z; simp [ML]; omega))
    · by_cases a : f = 30
      · rw [a, rI1, bs_30.1]; rfl
      · rw [rI3 a, h2 f hf]
        by_cases b : f = 31
        · rw [b, bs_30.2.1, bs_30.2.1]
        · by_cases c : f = 32
          · rw [c, bs_30.2.2, bs_30.2.2]
          · rw [bs_f ⟨a, b, c⟩, bs_f ⟨a, b, c⟩]
  refine hX (bs92 σ A B (n + 1) nr ps) (bs_q (by omega)) (bs_f (by omega)) _ st q 0 [] [] _ _ hq h1' ?_
  intro α hα
  obtain ⟨h1, h2, h3, h4, h5, h6, h7, h8, h9, h10, h11, h12, t1, t2, t3, t4, t5⟩ := RA_st 4 hα
  obtain ⟨u1, u2, u3⟩ := bs_E h1
  have b30 := bs_30 (σ := σ) (A := A) (B := B) (n := n + 1) (nr := nr) (ps := ps)
  exact hp (sI α 75 29 (II ((4 : Nat) : Int))) ⟨u1, u2, u3, fun f hf => by rw [h2 f (by omega), bs_f (by omega)], h3, h4, h5, h6, h7, h8, by rw [h2 30 (by omega), b30.1, len1, hn], by rw [h2 31 (by omega), b30.2.1], by rw [h2 32 (by omega), b30.2.2], h9, h12, t1, t2, t3, t4, t5⟩
