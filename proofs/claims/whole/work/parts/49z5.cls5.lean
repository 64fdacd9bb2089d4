/-! taste: the class's reading of clauses -/
theorem lp_fuel {K : Nat → Nat} {N : Nat} {f : Nat → Res} {op : Nat → Bool} (hT : Tk K N) (ho : op 37 = false) (hf : Ln N f) : ∀ n p, p ≤ N → N ≤ p + n → lpL K f op (n + 1) p = lpL K f op n p := by
  intro n
  induction n with
  | zero =>
    intro p h1 h2
    have e : p = N := by omega
    simp only [lpL]
    rw [e, hT.1, ho]; simp
  | succ n ih =>
    intro p h1 h2
    have e : ∀ m, lpL K f op (m + 1) p = if op (K p) = true then bd (em (K p) (f (p + 1))) (lpL K f op m) else .inl (p, []) := fun m => rfl
    rw [e, e]
    by_cases o : op (K p) = true
    · rw [if_pos o, if_pos o]
      have hN : p ≠ N := fun z => by rw [z, hT.1, ho] at o; exact absurd o (by decide)
      cases hr : f (p + 1) with
      | inl a =>
        obtain ⟨x1, x2⟩ := hf (p + 1) (by omega) a.1 a.2 hr
        show bd (.inl (a.1, a.2 ++ [K p])) _ = bd (.inl (a.1, a.2 ++ [K p])) _
        unfold bd
        simp only
        rw [ih a.1 x1 (by omega)]
      | inr e => rfl
    · rw [if_neg o, if_neg o]
theorem and_lp {σ : St} {K V S : Nat → Nat} {N k : Nat} {K4 : Int32 → Int32 → St → Prop} {v1 v2 : Int32} {post : St → Prop} (hk : k < 6) (hT : Tk K N) (hK : HK σ K V S N) : ∀ n, n ≤ 300 →
    (∀ υ p c, RS σ υ K k p c → p ≤ N → c.length ≤ p → (∀ τ, Ot σ τ K S N k c (lpL K (pAsk K V 8) isAnd n p) → wbX8_either_77 K4 post v1 v2 τ) → wbX8_either_38 K4 post (n + 1) v1 v2 (II (300 - (n : Int))) υ) ∧ (∀ υ e, HS σ υ S N k e → wbX8_either_77 K4 post v1 v2 υ → wbX8_either_38 K4 post (n + 1) v1 v2 (II (300 - (n : Int))) υ) := by
  have hL := Ln_pAsk (V := V) hT 8
  have hf := ask_ok hk hT hK
  intro n
  induction n with
  | zero =>
    intro _
    refine ⟨fun υ p c h hp hc hq => ?_, fun υ e h hq => ?_⟩
    · simp (disch := omega) only [wbX8_either_38, I_lit, I_le]
      exact ⟨fun _ => hq υ (RS_nil h), fun z => absurd (by omega) z⟩
    · simp (disch := omega) only [wbX8_either_38, I_lit, I_le]
      exact ⟨fun _ => hq, fun z => absurd (by omega) z⟩
  | succ n ih =>
    intro hn
    obtain ⟨ih1, ih2⟩ := ih (by omega)
    generalize hm : n + 1 = m at ih1 ih2
    refine ⟨fun υ p c h hp hc hq => ?_, fun υ e h hq => ?_⟩
    · have n3 := hT.2.1
      have k38 := Tk_le hT hp
      rw [← hm] at hq
      simp (disch := omega) only [wbX8_either_38, h.2.2.1, I_lit, I_le, I_eq]
      refine ⟨fun z => absurd z (by omega), fun _ => ⟨fun z => hq υ ?_, fun z => ?_⟩⟩
      · have ho : isAnd (K p) = false := by unfold isAnd; simp; omega
        simp only [lpL, ho, Bool.false_eq_true, if_false]
        exact RS_nil h
      · have ho : isAnd (K p) = true := by unfold isAnd; simp; omega
        have hN : p ≠ N := fun e => by rw [e, hT.1] at z; omega
        simp only [lpL, ho, if_true] at hq
        refine adv_ok hk hT hK h (by omega) ?_
        intro τ hτ
        refine hf.1 τ (p + 1) c _ hτ (by omega) (by omega) ?_
        intro ρ hρ
        refine put_ok (x := 18) hk hρ (fun a ea => ?_) ?_
        · have := hL (p + 1) (by omega) a.1 a.2 ea
          rw [List.length_append]; omega
        · intro ω hω
          have e18 : K p = 18 := by omega
          rw [e18] at hq
          simp only [fe, I_add]
          rw [show 300 - (m : Int) + 1 = 300 - (n : Int) by omega]
          cases hr : em 18 (pAsk K V 8 (p + 1)) with
          | inl a =>
            rw [hr] at hω hq
            obtain ⟨a2, e1, e2⟩ := em_inl (show em 18 (pAsk K V 8 (p + 1)) = .inl (a.1, a.2) from hr)
            obtain ⟨x1, x2⟩ := hL (p + 1) (by omega) a.1 a2 e1
            refine ih1 ω a.1 (c ++ a.2) hω x1 (by rw [e2, List.length_append, List.length_append, List.length_singleton]; omega) ?_
            intro α hα
            exact hq α (Ot_bd hα)
          | inr e =>
            rw [hr] at hω hq
            exact ih2 ω e hω (hq ω hω)
    · simp (disch := omega) only [wbX8_either_38, h.2.2.1, I_lit, I_le, I_eq]
      exact ⟨fun z => absurd z (by omega), fun _ => ⟨fun _ => hq, fun z => by omega⟩⟩
theorem ei32_ok {σ υ : St} {K V S : Nat → Nat} {N k p : Nat} {c : List Nat} {K4 : Int32 → Int32 → St → Prop} {v1 v2 : Int32} {post : St → Prop} (hk : k < 6) (hT : Tk K N) (hK : HK σ K V S N) (h : RS σ υ K k p c) (hp : p ≤ N) (hc : c.length ≤ p) (hq : ∀ τ, Ot σ τ K S N k c (chn K (pAsk K V 8) isAnd p) → wbX8_either_77 K4 post v1 v2 τ) : wbX8_either_32 K4 post v1 v2 υ := by
  have hL := Ln_pAsk (V := V) hT 8
  unfold wbX8_either_32
  refine (ask_ok hk hT hK).1 υ p c _ h hp hc ?_
  intro τ hτ
  have key := and_lp (K4 := K4) (v1 := v1) (v2 := v2) (post := post) hk hT hK 300 (Nat.le_refl _)
  unfold chn at hq
  cases hr : pAsk K V 8 p with
  | inl a =>
    rw [hr] at hτ hq
    obtain ⟨x1, x2⟩ := hL p hp a.1 a.2 hr
    exact ⟨301, key.1 τ a.1 (c ++ a.2) hτ x1 (by rw [List.length_append]; omega) (fun α hα => hq α (Ot_bd hα))⟩
  | inr e =>
    rw [hr] at hτ hq
    exact ⟨301, key.2 τ e hτ (hq τ hτ)⟩
theorem ei32H {σ υ : St} {K V S : Nat → Nat} {N k : Nat} {e : Nat × Nat} {K4 : Int32 → Int32 → St → Prop} {v1 v2 : Int32} {post : St → Prop} (hk : k < 6) (hT : Tk K N) (hK : HK σ K V S N) (h : HS σ υ S N k e) (hq : ∀ τ, HS σ τ S N k e → wbX8_either_77 K4 post v1 v2 τ) : wbX8_either_32 K4 post v1 v2 υ := by
  unfold wbX8_either_32
  refine (ask_ok hk hT hK).2 υ e _ h ?_
  intro τ hτ
  exact ⟨301, (and_lp (K4 := K4) (v1 := v1) (v2 := v2) (post := post) hk hT hK 300 (Nat.le_refl _)).2 τ e hτ (hq τ hτ)⟩
theorem or_lp {σ : St} {K V S : Nat → Nat} {N k : Nat} {post : St → Prop} (hk : k < 6) (hT : Tk K N) (hK : HK σ K V S N) : ∀ n, n ≤ 299 →
    (∀ υ p c, RS σ υ K k p c → p ≤ N → c.length ≤ p → (∀ τ, Ot σ τ K S N k c (lpL K (chn K (pAsk K V 8) isAnd) isOr n p) → post τ) → wbX8_either_4 post (n + 1) 1 (II (300 - (n : Int))) υ) ∧ (∀ υ e, HS σ υ S N k e → (∀ τ, HS σ τ S N k e → post τ) → wbX8_either_4 post (n + 1) 1 (II (300 - (n : Int))) υ) := by
  have hL := Ln_chn (op := isAnd) hT rfl (Ln_pAsk (V := V) hT 8)
  intro n
  induction n with
  | zero =>
    intro _
    refine ⟨fun υ p c h hp hc hq => ?_, fun υ e h hq => ?_⟩
    · simp (disch := omega) only [wbX8_either_4, I_lit, I_le]
      exact ⟨fun _ => hq υ (RS_nil h), fun z => absurd (by omega) z⟩
    · simp (disch := omega) only [wbX8_either_4, I_lit, I_le]
      exact ⟨fun _ => hq υ h, fun z => absurd (by omega) z⟩
  | succ n ih =>
    intro hn
    obtain ⟨ih1, ih2⟩ := ih (by omega)
    generalize hm : n + 1 = m at ih1 ih2
    refine ⟨fun υ p c h hp hc hq => ?_, fun υ e h hq => ?_⟩
    · have n3 := hT.2.1
      have k38 := Tk_le hT hp
      rw [← hm] at hq
      simp (disch := omega) only [wbX8_either_4, h.2.2.1, I_lit, I_le, I_eq]
      refine ⟨fun z => absurd z (by omega), fun _ => ⟨fun z => by omega, fun _ => ⟨fun z => hq υ ?_, fun z => ?_⟩⟩⟩
      · have ho : isOr (K p) = false := by unfold isOr; simp; omega
        simp only [lpL, ho, Bool.false_eq_true, if_false]
        exact RS_nil h
      · have ho : isOr (K p) = true := by unfold isOr; simp; omega
        have hN : p ≠ N := fun e => by rw [e, hT.1] at z; omega
        have e17 : K p = 17 := by omega
        simp only [lpL, ho, if_true, e17] at hq
        unfold wbX8_either_24
        refine ⟨fun y => absurd y (by decide), fun _ => ?_⟩
        refine adv_ok hk hT hK h (by omega) ?_
        intro τ hτ
        refine ei32_ok hk hT hK hτ (by omega) (by omega) ?_
        intro ρ hρ
        unfold wbX8_either_77
        refine ⟨fun y => absurd y (by decide), fun _ => ?_⟩
        refine put_ok (x := 17) hk hρ (fun a ea => ?_) ?_
        · have := hL (p + 1) (by omega) a.1 a.2 ea
          rw [List.length_append]; omega
        · intro ω hω
          simp only [fe]
          rw [show (1 : Int32) = II 1 from rfl, I_add, show 300 - (m : Int) + 1 = 300 - (n : Int) by omega]
          cases hr : em 17 (chn K (pAsk K V 8) isAnd (p + 1)) with
          | inl a =>
            rw [hr] at hω hq
            obtain ⟨a2, e1, e2⟩ := em_inl (show em 17 (chn K (pAsk K V 8) isAnd (p + 1)) = .inl (a.1, a.2) from hr)
            obtain ⟨x1, x2⟩ := hL (p + 1) (by omega) a.1 a2 e1
            refine ih1 ω a.1 (c ++ a.2) hω x1 (by rw [e2, List.length_append, List.length_append, List.length_singleton]; omega) ?_
            intro α hα
            exact hq α (Ot_bd hα)
          | inr e =>
            rw [hr] at hω hq
            exact ih2 ω e hω (fun α hα => hq α hα)
    · simp (disch := omega) only [wbX8_either_4, h.2.2.1, I_lit, I_le, I_eq]
      exact ⟨fun z => absurd z (by omega), fun _ => ⟨fun z => by omega, fun _ => ⟨fun _ => hq υ h, fun z => by omega⟩⟩⟩
theorem either_ok {σ : St} {K V S : Nat → Nat} {N k : Nat} (hk : k < 6) (hT : Tk K N) (hK : HK σ K V S N) : (∀ υ p c post, RS σ υ K k p c → p ≤ N → 1 ≤ p → c.length ≤ p → (∀ τ, Ot σ τ K S N k c (pEi K V p) → post τ) → wpX8_either υ post) ∧ (∀ υ e post, HS σ υ S N k e → (∀ τ, HS σ τ S N k e → post τ) → wpX8_either υ post) := by
  have n3 := hT.2.1
  have hL := Ln_chn (op := isAnd) hT rfl (Ln_pAsk (V := V) hT 8)
  refine ⟨fun υ p c post h hp hp1 hc hq => ?_, fun υ e post h hq => ?_⟩
  · obtain ⟨m, hm⟩ : ∃ m, m = 299 + 1 := ⟨_, rfl⟩
    refine ⟨m + 1, ?_⟩
    simp (disch := omega) only [wbX8_either_4, I_lit, I_le]
    refine ⟨fun z => by omega, fun _ => ⟨fun _ => ?_, fun z => absurd trivial z⟩⟩
    unfold wbX8_either_24
    refine ⟨fun _ => ?_, fun z => absurd rfl z⟩
    refine ei32_ok hk hT hK h hp hc ?_
    intro τ hτ
    unfold wbX8_either_77
    refine ⟨fun _ => ?_, fun z => absurd rfl z⟩
    simp only [fe]
    rw [hm]
    have key := or_lp (post := post) hk hT hK 299 (Nat.le_refl _)
    unfold pEi at hq
    unfold chn at hq
    rw [show (bd (pAsk K V 8 p) (lpL K (pAsk K V 8) isAnd 300)) = chn K (pAsk K V 8) isAnd p from rfl] at hq
    cases hr : chn K (pAsk K V 8) isAnd p with
    | inl a =>
      rw [hr] at hτ hq
      obtain ⟨x1, x2⟩ := hL p hp a.1 a.2 hr
      refine key.1 τ a.1 (c ++ a.2) hτ x1 (by rw [List.length_append]; omega) (fun α hα => hq α (Ot_bd ?_))
      have := lp_fuel (op := isOr) hT rfl hL 299 a.1 x1 (by omega)
      show Ot σ α K S N k (c ++ a.2) (lpL K (chn K (pAsk K V 8) isAnd) isOr (299 + 1) a.1)
      rw [this]; exact hα
    | inr e =>
      rw [hr] at hτ hq
      exact key.2 τ e hτ (fun α hα => hq α hα)
  · obtain ⟨m, hm⟩ : ∃ m, m = 299 + 1 := ⟨_, rfl⟩
    refine ⟨m + 1, ?_⟩
    simp (disch := omega) only [wbX8_either_4, I_lit, I_le]
    refine ⟨fun z => by omega, fun _ => ⟨fun _ => ?_, fun z => absurd trivial z⟩⟩
    unfold wbX8_either_24
    refine ⟨fun _ => ?_, fun z => absurd rfl z⟩
    refine ei32H hk hT hK h ?_
    intro τ hτ
    unfold wbX8_either_77
    refine ⟨fun _ => ?_, fun z => absurd rfl z⟩
    simp only [fe]
    rw [hm]
    exact (or_lp (post := post) hk hT hK 299 (Nat.le_refl _)).2 τ e hτ hq
