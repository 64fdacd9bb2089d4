/-! taste: the bodies of clauses -/
def GoC (σ : St) (A B : CS) (K V S E : Nat → Nat) (post : Int32 → St → Prop) (p : Nat) (cl : Cls) (nr ps : Nat) : Prop := ∃ f, ∀ υ, RCk σ A B υ K V S E p cl nr ps → wbX12_taste_86 post f υ
def GoE (σ : St) (S : Nat → Nat) (post : Int32 → St → Prop) (e : Nat × Nat) : Prop := ∃ f, ∀ υ, RFk σ υ S e → wbX12_taste_86 post f υ
theorem GoE_F {σ : St} {A B : CS} {n nr ps : Nat} {S : Nat → Nat} {post : Int32 → St → Prop} {e : Nat × Nat} (h : GoE σ S post e) : GoF (bs92 σ A B n nr ps) S post e := by
  obtain ⟨f, hf⟩ := h
  exact ⟨f, fun υ hυ => hf υ (RF_k hυ)⟩
/-- worth -/
theorem worth_sim {σ : St} {A B : CS} {K V S E : Nat → Nat} {N p nr ps : Nat} {cl : Cls} {post : Int32 → St → Prop} (hX : ∀ σ' : St, σ' 79 = σ 79 → gI σ' 75 14 = gI σ 75 14 → NX σ' K V S E N) (hT : Tk K N) (hp : p ≤ N) (hl : (ords cl).length ≤ p)
    (hS : ∀ q c, bd (pSm K (pOne K V 8) p) (exT K 35) = .inl (q, c) → GoC σ A B K V S E post q (cl ++ [(14, c)]) nr ps) (hE : ∀ e, bd (pSm K (pOne K V 8) p) (exT K 35) = .inr e → GoE σ S post e) : Gos (bs92 σ A B cl.length nr ps) K V S E post 1 p [(1, 0)] [] 0 (ords cl) := by
  have n3 := hT.2.1
  have hXb : NX (bs92 σ A B cl.length nr ps) K V S E N := hX _ (bs_q (by omega)) (bs_f (by omega))
  have hLo := Ln_pOne (V := V) hT 8
  have hLs := Ln_pSm hT hLo
  have opd : OpS (bs92 σ A B cl.length nr ps) K V S E N post (pOne K V 8) 1 2 ([] ++ [(1, 0)]) (8 - 8) := by
    intro p' ws' L' hp' hw' hl' hL' hS' hE'
    refine one_sim hXb hT 8 (by omega) p' [] (1, 0) ws' L' hp' (by decide) (by simp) (by simpa using hw') (by simpa using hl') hL' (fun q c e => ?_) hE'
    exact V2 (by simp) (by decide) (by decide) (hS' q c e)
  refine sum_sim (x := (1, 0)) (p := p) (fr := []) (ws := []) (Lb := ords cl) hXb hT hLo opd (fun x hx => absurd hx (by simp)) (by simp) (by simp) hp hl ?_ (fun e e2 => GoE_F (hE e (by rw [e2]; rfl)))
  intro q c e m1 m2 pd L' hpd hpl hL'
  obtain ⟨z1, z2⟩ := hLs p hp q c e
  have k38 := Tk_le hT z1
  rw [e] at hS hE
  have s65 : ∀ {n : Nat} {υ : St}, wbX12_goesOn_268 (fun τ => wbX12_taste_86 post n τ) (II ((1 : Nat) : Int)) υ → wbX12_goesOn_65 (fun τ => wbX12_taste_86 post n τ) (II ((1 : Nat) : Int)) υ := fun {n υ} h => by
    simp (disch := omega) only [wbX12_goesOn_65, wbX12_goesOn_158, wbX12_goesOn_203, I_lit, I_eq]
    exact ⟨fun z => by omega, fun _ => ⟨fun _ => ⟨fun _ => ⟨fun _ => h, fun z => by omega⟩, fun z => by omega⟩, fun z => by omega⟩⟩
  by_cases k35 : K q = 35
  · have hN : q ≠ N := fun e => by rw [e, hT.1] at k35; omega
    obtain ⟨n, hn⟩ := hS (q + 1) (c ++ []) (by unfold bd exT; simp only; rw [if_pos k35])
    rw [List.append_nil] at hn
    refine goes65 n hT z1 (by simp) m1 m2 ?_
    intro υ h
    refine s65 ?_
    unfold wbX12_goesOn_268
    refine ⟨fun _ => ⟨fun z => absurd rfl z, fun _ => ?_⟩, fun z => absurd z (by decide)⟩
    refine isSign_ok 35 (RA_TA h) k38 (by omega) (by omega) (fun _ => ⟨fun z => absurd z i10, fun _ => ?_⟩) (fun z => absurd k35 z)
    refine over_sim (w := 14) (c := c) (pd := pd) hX (by omega) (by simp) rfl ?_ hpl hL' (by rw [List.length_append, roL_len]; omega) h (fun τ hτ => hn τ hτ)
    intro x hx
    have := hpd x hx
    exact ⟨this.1, this.2.1, by omega⟩
  · obtain ⟨n, hn⟩ := GoE_F (A := A) (B := B) (n := cl.length) (nr := nr) (ps := ps) (hE (1, q) (by unfold bd exT; simp only; rw [if_neg k35]))
    refine goes65 n hT z1 (by simp) m1 m2 ?_
    intro υ h
    refine s65 ?_
    have c332 : wbX12_goesOn_332 (fun τ => wbX12_taste_86 post n τ) υ := errs_ok (f := 1) h (by omega) (fun τ hτ => hn τ hτ)
    unfold wbX12_goesOn_268
    refine ⟨fun _ => ⟨fun z => absurd rfl z, fun _ => ?_⟩, fun z => absurd z (by decide)⟩
    exact isSign_ok 35 (RA_TA h) k38 (by omega) (by omega) (fun z => absurd z k35) (fun _ => ⟨fun _ => c332, fun z => absurd rfl z⟩)
theorem onw_ok {σ : St} {K V S E : Nat → Nat} {N : Nat} {post : Int32 → St → Prop} {op : Nat → Bool} {r : Nat} (hX : NX σ K V S E N) (hT : Tk K N) (hop : ∀ k, op k = true → (k = 17 ∨ k = 18) ∧ rk (onK k) = r) : OtS σ K V S E N post op onK r 0 3 [(2, 0)] 0 := by
  intro p wb pd L hp ho hs hk hl1 hl2 hL hG
  obtain ⟨hk4, hrk⟩ := hop _ ho
  obtain ⟨f, hf⟩ := hG
  have k38 := Tk_le hT (show p ≤ N by omega)
  simp at hl1
  refine go_ok (by omega) f (fun z => by omega) (fun z => by omega) (fun z => by omega) (fun _ υ h => ?_)
  have t := RA_TA h
  have c34 : wbX12_asksOn_34 (fun τ => wbX12_taste_86 post f τ) (II (onK (K p) : Nat)) υ := by
    unfold wbX12_asksOn_34
    refine waits_ok hX hp (by rcases hk4 with e | e <;> rw [e] <;> decide) (by simp) (by rw [hrk]; exact hs) (by rw [hrk]; exact hk) (by rw [List.length_append]; omega) (by omega) h ?_
    intro τ hτ
    simp only [fe]
    exact hf _ (RA_st 0 hτ)
  have c16 : wbX12_asksOn_16 (fun τ => wbX12_taste_86 post f τ) υ := by
    unfold wbX12_asksOn_16
    refine isWord_ok 17 t k38 (by omega) (fun y => ⟨fun z => absurd z i10, fun _ => ?_⟩) (fun y => ⟨fun _ => ?_, fun z => absurd rfl z⟩)
    · rw [y] at c34; exact c34
    · rw [show K p = 18 by omega] at c34; exact c34
  unfold wpX12_asksOn
  refine isWord_ok 17 t k38 (by omega) (fun y => ⟨fun _ => c16, fun z => absurd z i10⟩) (fun y => ⟨fun z => absurd rfl z, fun _ => ?_⟩)
  exact isWord_ok 18 t k38 (by omega) (fun y2 => ⟨fun z => absurd z i10, fun _ => c16⟩) (fun y2 => by omega)
/-- bar -/
theorem bar_sim {σ : St} {A B : CS} {K V S E : Nat → Nat} {N p nr ps : Nat} {cl : Cls} {post : Int32 → St → Prop} (hX : ∀ σ' : St, σ' 79 = σ 79 → gI σ' 75 14 = gI σ 75 14 → NX σ' K V S E N) (hT : Tk K N) (hp : p ≤ N) (hl : (ords cl).length ≤ p)
    (hS : ∀ q c, bd (pEi K V p) (exT K 35) = .inl (q, c) → GoC σ A B K V S E post q (cl ++ [(15, c)]) nr ps) (hE : ∀ e, bd (pEi K V p) (exT K 35) = .inr e → GoE σ S post e) : Gos (bs92 σ A B cl.length nr ps) K V S E post 0 p [(2, 0)] [] 0 (ords cl) := by
  have n3 := hT.2.1
  have hXb : NX (bs92 σ A B cl.length nr ps) K V S E N := hX _ (bs_q (by omega)) (bs_f (by omega))
  have hLa := Ln_pAsk (V := V) hT 8
  have hLe := Ln_pEi (V := V) hT
  have opd : OpS (bs92 σ A B cl.length nr ps) K V S E N post (pAsk K V 8) 0 3 [(2, 0)] 0 := by
    intro p' ws' L' hp' hw' hl' hL' hS' hE'
    have := ask_sim (post := post) hXb hT 8 (by omega) p' [] (2, 0) ws' L' hp' (by decide) (by simp) (by simpa using hw') (by simpa using hl') hL' (fun q c e => A3 (by simp) (by decide) (by decide) (hS' q c e)) hE'
    exact this
  have hand : OtS (bs92 σ A B cl.length nr ps) K V S E N post isAnd onK 2 0 3 [(2, 0)] 0 := onw_ok hXb hT (fun k hk => by
    have : k = 18 := by unfold isAnd at hk; simpa using hk
    rw [this]; exact ⟨by omega, by decide⟩)
  have hor : OtS (bs92 σ A B cl.length nr ps) K V S E N post isOr onK 1 0 3 [(2, 0)] 0 := onw_ok hXb hT (fun k hk => by
    have : k = 17 := by unfold isOr at hk; simpa using hk
    rw [this]; exact ⟨by omega, by decide⟩)
  refine two_sim (op1 := isAnd) (op2 := isOr) (on := onK) (r1 := 2) (r2 := 1) (ws := []) hT hLa ⟨rfl, rfl⟩ opd hand hor and_r or_r (by omega) (fun ws' x e => absurd e (by simp)) (fun x hx => absurd hx (by simp)) (by simp) (by simp) hp hl ?_ (fun e e2 => GoE_F (hE e (by rw [show pEi K V p = .inr e from e2]; rfl)))
  intro q c e m1 m2 pd L' hpd hpl hL'
  have e : pEi K V p = .inl (q, c) := e
  obtain ⟨z1, z2⟩ := hLe p hp q c e
  have k38 := Tk_le hT z1
  have n18 : K q ≠ 18 := by unfold isAnd at m1; simpa using m1
  have n17 : K q ≠ 17 := by unfold isOr at m2; simpa using m2
  rw [e] at hS hE
  by_cases k35 : K q = 35
  · have hN : q ≠ N := fun e => by rw [e, hT.1] at k35; omega
    obtain ⟨n, hn⟩ := hS (q + 1) (c ++ []) (by unfold bd exT; simp only; rw [if_pos k35])
    rw [List.append_nil] at hn
    refine go_ok (by omega) n (fun z => by omega) (fun z => by omega) (fun z => by omega) (fun _ υ h => ?_)
    have t := RA_TA h
    unfold wpX12_asksOn
    refine isWord_ok 17 t k38 (by omega) (fun y => absurd y n17) (fun _ => ⟨fun z => absurd rfl z, fun _ => ?_⟩)
    refine isWord_ok 18 t k38 (by omega) (fun y => absurd y n18) (fun _ => ⟨fun _ => ?_, fun z => absurd rfl z⟩)
    refine rtop_ok (fr := []) (x := (2, 0)) h (by simp) ?_
    refine ⟨fun z => absurd rfl z, fun _ => ?_⟩
    refine isSign_ok 35 t k38 (by omega) (by omega) (fun _ => ⟨fun z => absurd z i10, fun _ => ?_⟩) (fun z => absurd k35 z)
    exact over_sim (w := 15) (c := c) (pd := pd) hX (by omega) (by simp) rfl hpd hpl hL' (by rw [List.length_append, roL_len]; omega) h (fun τ hτ => hn τ hτ)
  · obtain ⟨n, hn⟩ := GoE_F (A := A) (B := B) (n := cl.length) (nr := nr) (ps := ps) (hE (1, q) (by unfold bd exT; simp only; rw [if_neg k35]))
    refine go_ok (by omega) n (fun z => by omega) (fun z => by omega) (fun z => by omega) (fun _ υ h => ?_)
    have t := RA_TA h
    have c69 : wbX12_asksOn_69 (fun τ => wbX12_taste_86 post n τ) υ := errs_ok (f := 1) h (by omega) (fun τ hτ => hn τ hτ)
    unfold wpX12_asksOn
    refine isWord_ok 17 t k38 (by omega) (fun y => absurd y n17) (fun _ => ⟨fun z => absurd rfl z, fun _ => ?_⟩)
    refine isWord_ok 18 t k38 (by omega) (fun y => absurd y n18) (fun _ => ⟨fun _ => ?_, fun z => absurd rfl z⟩)
    refine rtop_ok (fr := []) (x := (2, 0)) h (by simp) ?_
    refine ⟨fun z => absurd rfl z, fun _ => ?_⟩
    exact isSign_ok 35 t k38 (by omega) (by omega) (fun z => absurd z k35) (fun _ => ⟨fun _ => c69, fun z => absurd rfl z⟩)
