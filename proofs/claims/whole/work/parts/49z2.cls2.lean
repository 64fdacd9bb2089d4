/-! taste: the class's reading of sums -/
theorem Tk_le {K : Nat → Nat} {N p : Nat} (hT : Tk K N) (hp : p ≤ N) : K p ≤ 38 := by
  by_cases e : p = N
  · rw [e, hT.1]; omega
  · exact (hT.2.2 p (by omega)).1
def CP (σ : St) (K S : Nat → Nat) (N k : Nat) (wp : St → (St → Prop) → Prop) (f : Nat → Res) : Prop :=
  (∀ υ p c post, RS σ υ K k p c → p ≤ N → c.length ≤ p → (∀ τ, Ot σ τ K S N k c (f p) → post τ) → wp υ post) ∧
  (∀ υ e post, HS σ υ S N k e → (∀ τ, HS σ τ S N k e → post τ) → wp υ post)
theorem Ot_bd {σ τ : St} {K S : Nat → Nat} {N k : Nat} {c : List Nat} {a : Nat × List Nat} {f : Nat → Res} (h : Ot σ τ K S N k (c ++ a.2) (f a.1)) : Ot σ τ K S N k c (bd (.inl a) f) := by
  unfold bd
  simp only
  cases hr : f a.1 with
  | inl b =>
    rw [hr] at h
    show RS σ τ K k b.1 (c ++ (a.2 ++ b.2))
    rw [← List.append_assoc]; exact h
  | inr e => rw [hr] at h; exact h
theorem CP_seq {σ υ : St} {K S : Nat → Nat} {N k : Nat} {c : List Nat} {r : Res} {wp : St → (St → Prop) → Prop} {f : Nat → Res} {post : St → Prop} (hf : CP σ K S N k wp f) (h : Ot σ υ K S N k c r) (hl : ∀ a, r = .inl a → a.1 ≤ N ∧ (c ++ a.2).length ≤ a.1) (hq : ∀ τ, Ot σ τ K S N k c (bd r f) → post τ) : wp υ post := by
  cases r with
  | inl a => exact hf.1 υ a.1 (c ++ a.2) post h (hl a rfl).1 (hl a rfl).2 (fun τ hτ => hq τ (Ot_bd hτ))
  | inr e => exact hf.2 υ e post h (fun τ hτ => hq τ hτ)
theorem expect_ok {σ : St} {K V S : Nat → Nat} {N k x : Nat} (hk : k < 6) (hT : Tk K N) (hK : HK σ K V S N) (hx : x < 37) : CP σ K S N k (fun υ post => wpX8_expect (II x) υ post) (exT K x) := by
  refine ⟨fun υ p c post h hp hc hq => ?_, fun υ e post h hq => ?_⟩
  · have k38 := Tk_le hT hp
    have n3 := hT.2.1
    show wpX8_expect (II x) υ post
    unfold exT at hq
    simp (disch := omega) only [wpX8_expect, h.2.2.1, I_eq]
    refine ⟨fun z => ?_, fun z => ?_⟩
    · rw [if_neg (by omega)] at hq
      exact fail_ok (f := 1) hk hT hK h hp (by omega) (fun τ hτ => hq τ hτ)
    · rw [if_pos (by omega)] at hq
      have hN : p ≠ N := fun e => by rw [e, hT.1] at z; omega
      refine adv_ok hk hT hK h (by omega) (fun τ hτ => hq τ ?_)
      show RS σ τ K k (p + 1) (c ++ [])
      rw [List.append_nil]; exact hτ
  · show wpX8_expect (II x) υ post
    simp (disch := omega) only [wpX8_expect, h.2.2.1, I_eq]
    exact ⟨fun _ => failH_ok h (hq υ h), fun z => by omega⟩

theorem product_lp {σ : St} {K V S : Nat → Nat} {N k : Nat} {F : Int32 → Int32 → St → (St → Prop) → Prop} {o : Int32} {f : Nat → Res} {post : St → Prop} (hk : k < 6) (hT : Tk K N) (hK : HK σ K V S N) (hL : Ln N f) (hf : CP σ K S N k (fun υ post => wpX8_one F o υ post) f) : ∀ n, n ≤ 300 →
    (∀ υ p c, RS σ υ K k p c → p ≤ N → c.length ≤ p → (∀ τ, Ot σ τ K S N k c (lpL K f isMul n p) → post τ) → wbX8_product_7 F post (n + 1) o (II (300 - (n : Int))) υ) ∧ (∀ υ e, HS σ υ S N k e → (∀ τ, HS σ τ S N k e → post τ) → wbX8_product_7 F post (n + 1) o (II (300 - (n : Int))) υ) := by
  intro n
  induction n with
  | zero =>
    intro _
    refine ⟨fun υ p c h hp hc hq => ?_, fun υ e h hq => ?_⟩
    · simp (disch := omega) only [wbX8_product_7, I_lit, I_le]
      exact ⟨fun _ => hq υ (by show RS σ υ K k p (c ++ []); rw [List.append_nil]; exact h), fun z => absurd (by omega) z⟩
    · simp (disch := omega) only [wbX8_product_7, I_lit, I_le]
      exact ⟨fun _ => hq υ h, fun z => absurd (by omega) z⟩
  | succ n ih =>
    intro hn
    obtain ⟨ih1, ih2⟩ := ih (by omega)
    refine ⟨fun υ p c h hp hc hq => ?_, fun υ e h hq => ?_⟩
    · have n3 := hT.2.1
      have k38 := Tk_le hT hp
      have go : isMul (K p) = true → wbX8_product_32 F (wbX8_product_7 F post (n + 1)) post o (II (300 - ((n + 1 : Nat) : Int))) υ := fun ho => by
        have hN : p ≠ N := fun e => by rw [e, hT.1] at ho; exact absurd ho (by decide)
        simp only [lpL, ho, if_true] at hq
        unfold wbX8_product_32
        simp only [fe]
        rw [h.2.2.1]
        refine adv_ok hk hT hK h (by omega) ?_
        intro τ hτ
        refine hf.1 τ (p + 1) c _ hτ (by omega) (by omega) ?_
        intro ρ hρ
        refine put_ok hk hρ (fun a ea => ?_) ?_
        · have := hL (p + 1) (by omega) a.1 a.2 ea
          rw [List.length_append]; omega
        · intro ω hω
          rw [show (1 : Int32) = II 1 from rfl, I_add, show 300 - ((n + 1 : Nat) : Int) + 1 = 300 - (n : Int) by omega]
          cases hr : em (K p) (f (p + 1)) with
          | inl a =>
            rw [hr] at hω hq
            obtain ⟨a2, e1, e2⟩ := em_inl (show em (K p) (f (p + 1)) = .inl (a.1, a.2) from hr)
            obtain ⟨x1, x2⟩ := hL (p + 1) (by omega) a.1 a2 e1
            refine ih1 ω a.1 (c ++ a.2) hω x1 (by rw [e2, List.length_append, List.length_append, List.length_singleton]; omega) ?_
            intro α hα
            exact hq α (Ot_bd hα)
          | inr e =>
            rw [hr] at hω hq
            exact ih2 ω e hω (fun α hα => hq α hα)
      have no : isMul (K p) = false → post υ := fun ho => by
        simp only [lpL, ho, Bool.false_eq_true, if_false] at hq
        exact hq υ (by show RS σ υ K k p (c ++ []); rw [List.append_nil]; exact h)
      simp (disch := omega) only [wbX8_product_7, h.2.2.1, I_lit, I_le, I_eq]
      refine ⟨fun z => absurd z (by omega), fun _ => ⟨fun z => go ?_, fun z => ⟨fun z2 => no ?_, fun z2 => go ?_⟩⟩⟩
      · rw [show K p = 30 by omega]; decide
      · unfold isMul; simp; omega
      · rw [show K p = 31 by omega]; decide
    · simp (disch := omega) only [wbX8_product_7, h.2.2.1, I_lit, I_le, I_eq]
      exact ⟨fun z => absurd z (by omega), fun _ => ⟨fun z => by omega, fun _ => ⟨fun _ => hq υ h, fun z => by omega⟩⟩⟩
theorem product_ok {σ : St} {K V S : Nat → Nat} {N k : Nat} {F : Int32 → Int32 → St → (St → Prop) → Prop} {o : Int32} {f : Nat → Res} (hk : k < 6) (hT : Tk K N) (hK : HK σ K V S N) (hL : Ln N f) (hf : CP σ K S N k (fun υ post => wpX8_one F o υ post) f) : CP σ K S N k (fun υ post => wpX8_product F o υ post) (chn K f isMul) := by
  refine ⟨fun υ p c post h hp hc hq => ?_, fun υ e post h hq => ?_⟩
  · show wpX8_product F o υ post
    unfold wpX8_product
    refine hf.1 υ p c _ h hp hc ?_
    intro τ hτ
    have key := product_lp (post := post) hk hT hK hL hf 300 (Nat.le_refl _)
    unfold chn at hq
    cases hr : f p with
    | inl a =>
      rw [hr] at hτ hq
      obtain ⟨x1, x2⟩ := hL p hp a.1 a.2 hr
      exact ⟨301, key.1 τ a.1 (c ++ a.2) hτ x1 (by rw [List.length_append]; omega) (fun α hα => hq α (Ot_bd hα))⟩
    | inr e =>
      rw [hr] at hτ hq
      exact ⟨301, key.2 τ e hτ (fun α hα => hq α hα)⟩
  · show wpX8_product F o υ post
    unfold wpX8_product
    refine hf.2 υ e _ h ?_
    intro τ hτ
    exact ⟨301, (product_lp (post := post) hk hT hK hL hf 300 (Nat.le_refl _)).2 τ e hτ hq⟩

theorem sum_lp {σ : St} {K V S : Nat → Nat} {N k : Nat} {F : Int32 → Int32 → St → (St → Prop) → Prop} {o : Int32} {f : Nat → Res} {post : St → Prop} (hk : k < 6) (hT : Tk K N) (hK : HK σ K V S N) (hL : Ln N f) (hf : CP σ K S N k (fun υ post => wpX8_product F o υ post) f) : ∀ n, n ≤ 300 →
    (∀ υ p c, RS σ υ K k p c → p ≤ N → c.length ≤ p → (∀ τ, Ot σ τ K S N k c (lpL K f isAdd n p) → post τ) → wbX8_sum_7 F post (n + 1) o (II (300 - (n : Int))) υ) ∧ (∀ υ e, HS σ υ S N k e → (∀ τ, HS σ τ S N k e → post τ) → wbX8_sum_7 F post (n + 1) o (II (300 - (n : Int))) υ) := by
  intro n
  induction n with
  | zero =>
    intro _
    refine ⟨fun υ p c h hp hc hq => ?_, fun υ e h hq => ?_⟩
    · simp (disch := omega) only [wbX8_sum_7, I_lit, I_le]
      exact ⟨fun _ => hq υ (by show RS σ υ K k p (c ++ []); rw [List.append_nil]; exact h), fun z => absurd (by omega) z⟩
    · simp (disch := omega) only [wbX8_sum_7, I_lit, I_le]
      exact ⟨fun _ => hq υ h, fun z => absurd (by omega) z⟩
  | succ n ih =>
    intro hn
    obtain ⟨ih1, ih2⟩ := ih (by omega)
    refine ⟨fun υ p c h hp hc hq => ?_, fun υ e h hq => ?_⟩
    · have n3 := hT.2.1
      have k38 := Tk_le hT hp
      have go : isAdd (K p) = true → wbX8_sum_32 F (wbX8_sum_7 F post (n + 1)) post o (II (300 - ((n + 1 : Nat) : Int))) υ := fun ho => by
        have hN : p ≠ N := fun e => by rw [e, hT.1] at ho; exact absurd ho (by decide)
        simp only [lpL, ho, if_true] at hq
        unfold wbX8_sum_32
        simp only [fe]
        rw [h.2.2.1]
        refine adv_ok hk hT hK h (by omega) ?_
        intro τ hτ
        refine hf.1 τ (p + 1) c _ hτ (by omega) (by omega) ?_
        intro ρ hρ
        refine put_ok hk hρ (fun a ea => ?_) ?_
        · have := hL (p + 1) (by omega) a.1 a.2 ea
          rw [List.length_append]; omega
        · intro ω hω
          rw [show (1 : Int32) = II 1 from rfl, I_add, show 300 - ((n + 1 : Nat) : Int) + 1 = 300 - (n : Int) by omega]
          cases hr : em (K p) (f (p + 1)) with
          | inl a =>
            rw [hr] at hω hq
            obtain ⟨a2, e1, e2⟩ := em_inl (show em (K p) (f (p + 1)) = .inl (a.1, a.2) from hr)
            obtain ⟨x1, x2⟩ := hL (p + 1) (by omega) a.1 a2 e1
            refine ih1 ω a.1 (c ++ a.2) hω x1 (by rw [e2, List.length_append, List.length_append, List.length_singleton]; omega) ?_
            intro α hα
            exact hq α (Ot_bd hα)
          | inr e =>
            rw [hr] at hω hq
            exact ih2 ω e hω (fun α hα => hq α hα)
      have no : isAdd (K p) = false → post υ := fun ho => by
        simp only [lpL, ho, Bool.false_eq_true, if_false] at hq
        exact hq υ (by show RS σ υ K k p (c ++ []); rw [List.append_nil]; exact h)
      simp (disch := omega) only [wbX8_sum_7, h.2.2.1, I_lit, I_le, I_eq]
      refine ⟨fun z => absurd z (by omega), fun _ => ⟨fun z => go ?_, fun z => ⟨fun z2 => no ?_, fun z2 => go ?_⟩⟩⟩
      · rw [show K p = 28 by omega]; decide
      · unfold isAdd; simp; omega
      · rw [show K p = 29 by omega]; decide
    · simp (disch := omega) only [wbX8_sum_7, h.2.2.1, I_lit, I_le, I_eq]
      exact ⟨fun z => absurd z (by omega), fun _ => ⟨fun z => by omega, fun _ => ⟨fun _ => hq υ h, fun z => by omega⟩⟩⟩
theorem sum_ok {σ : St} {K V S : Nat → Nat} {N k : Nat} {F : Int32 → Int32 → St → (St → Prop) → Prop} {o : Int32} {f : Nat → Res} (hk : k < 6) (hT : Tk K N) (hK : HK σ K V S N) (hL : Ln N f) (hf : CP σ K S N k (fun υ post => wpX8_product F o υ post) f) : CP σ K S N k (fun υ post => wpX8_sum F o υ post) (chn K f isAdd) := by
  refine ⟨fun υ p c post h hp hc hq => ?_, fun υ e post h hq => ?_⟩
  · show wpX8_sum F o υ post
    unfold wpX8_sum
    refine hf.1 υ p c _ h hp hc ?_
    intro τ hτ
    have key := sum_lp (post := post) hk hT hK hL hf 300 (Nat.le_refl _)
    unfold chn at hq
    cases hr : f p with
    | inl a =>
      rw [hr] at hτ hq
      obtain ⟨x1, x2⟩ := hL p hp a.1 a.2 hr
      exact ⟨301, key.1 τ a.1 (c ++ a.2) hτ x1 (by rw [List.length_append]; omega) (fun α hα => hq α (Ot_bd hα))⟩
    | inr e =>
      rw [hr] at hτ hq
      exact ⟨301, key.2 τ e hτ (fun α hα => hq α hα)⟩
  · show wpX8_sum F o υ post
    unfold wpX8_sum
    refine hf.2 υ e _ h ?_
    intro τ hτ
    exact ⟨301, (sum_lp (post := post) hk hT hK hL hf 300 (Nat.le_refl _)).2 τ e hτ hq⟩
