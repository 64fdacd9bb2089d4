/-! taste: the class weighs a code -/
theorem ist {c : Nat} (v : Nat) {X Y : Prop} (hc : c < 2 ^ 20) (hv : v < 2 ^ 20) (hx : c = v → X) (hy : c ≠ v → Y) : ((II (c : Int) = (OfNat.ofNat v : Int32) → X) ∧ (¬ II (c : Int) = (OfNat.ofNat v : Int32) → Y)) := by
  have e : (II (c : Int) = (OfNat.ofNat v : Int32)) ↔ c = v := by
    have l : (OfNat.ofNat v : Int32) = II ((v : Nat) : Int) := I_lit v
    rw [l, I_eq (by omega)]; omega
  exact ⟨fun z => hx (e.mp z), fun z => hy (fun y => z (e.mpr y))⟩
theorem isn {c : Nat} (v : Nat) {X Y : Prop} (hc : c < 2 ^ 20) (hv : v < 2 ^ 20) (hy : c ≠ v → Y) (hx : c = v → X) : ((¬ II (c : Int) = (OfNat.ofNat v : Int32) → Y) ∧ (II (c : Int) = (OfNat.ofNat v : Int32) → X)) := (ist v hc hv hx hy).symm
def bn9 (a : Int) : Prop := -1000000000 ≤ a ∧ a ≤ 1000000000
def BS (s : List Int) : Prop := ∀ v, v ∈ s → bn9 v
theorem clp_b (a : Int) : bn9 (clp a) := by unfold clp bn9; split <;> (try split) <;> omega
theorem mul_b {a b : Int} (ha : bn9 a) (hb : bn9 b) : -1000000000000000000 ≤ a * b ∧ a * b ≤ 1000000000000000000 := by
  unfold bn9 at ha hb
  have h : (a * b).natAbs ≤ 1000000000 * 1000000000 := by rw [Int.natAbs_mul]; exact Nat.mul_le_mul (by omega) (by omega)
  omega
theorem b01_iff (a : Int) : b01 a = true ↔ a = 0 ∨ a = 1 := by unfold b01; simp
theorem jn_b {x : Nat} {a b v : Int} (ha : bn9 a) (hb : bn9 b) (h : jn x a b = some v) : bn9 v := by
  have p : ∀ (P : Prop) [Decidable P], bn9 (if P then 1 else 0) ∧ bn9 (if P then 0 else 1) := fun P _ => by constructor <;> split <;> (unfold bn9; omega)
  have q : ∀ (P : Prop) [Decidable P], bn9 (if P then a else b) ∧ bn9 (if P then b else a) := fun P _ => by constructor <;> split <;> assumption
  unfold jn at h
  by_cases c : x = 17
  · rw [if_pos c] at h
    split at h
    · rw [Option.some.injEq] at h; rw [← h]; exact (p _).2
    · exact absurd h (by simp)
  rw [if_neg c] at h; clear c
  by_cases c : x = 18
  · rw [if_pos c] at h
    split at h
    · rename_i g
      rw [Bool.and_eq_true, b01_iff, b01_iff] at g
      rw [Option.some.injEq] at h; rw [← h]
      unfold bn9
      rcases g.1 with e | e <;> rcases g.2 with e2 | e2 <;> rw [e, e2] <;> decide
    · exact absurd h (by simp)
  rw [if_neg c] at h; clear c
  by_cases c : x = 20
  · rw [if_pos c, Option.some.injEq] at h; rw [← h]; exact (q _).2
  rw [if_neg c] at h; clear c
  by_cases c : x = 21
  · rw [if_pos c, Option.some.injEq] at h; rw [← h]; exact (q _).2
  rw [if_neg c] at h; clear c
  by_cases c : x = 22
  · rw [if_pos c, Option.some.injEq] at h; rw [← h]; exact (p _).1
  rw [if_neg c] at h; clear c
  by_cases c : x = 23
  · rw [if_pos c, Option.some.injEq] at h; rw [← h]; exact (p _).1
  rw [if_neg c] at h; clear c
  by_cases c : x = 24
  · rw [if_pos c, Option.some.injEq] at h; rw [← h]; exact (p _).1
  rw [if_neg c] at h; clear c
  by_cases c : x = 25
  · rw [if_pos c, Option.some.injEq] at h; rw [← h]; exact (p _).1
  rw [if_neg c] at h; clear c
  by_cases c : x = 26
  · rw [if_pos c, Option.some.injEq] at h; rw [← h]; exact (p _).1
  rw [if_neg c] at h; clear c
  by_cases c : x = 27
  · rw [if_pos c, Option.some.injEq] at h; rw [← h]; exact (p _).2
  rw [if_neg c] at h; clear c
  by_cases c : x = 28
  · rw [if_pos c, Option.some.injEq] at h; rw [← h]; exact clp_b _
  rw [if_neg c] at h; clear c
  by_cases c : x = 29
  · rw [if_pos c, Option.some.injEq] at h; rw [← h]; exact clp_b _
  rw [if_neg c] at h; clear c
  by_cases c : x = 30
  · rw [if_pos c, Option.some.injEq] at h; rw [← h]; exact clp_b _
  rw [if_neg c] at h; clear c
  by_cases c : x = 31
  · rw [if_pos c, Option.some.injEq] at h; rw [← h]
    split
    · unfold bn9; omega
    · have h1 : (a.tdiv b).natAbs ≤ a.natAbs := by rw [Int.natAbs_tdiv]; exact Nat.div_le_self _ _
      unfold bn9 at *; omega
  rw [if_neg c] at h; exact absurd h (by simp)
theorem jn_x {x : Nat} {a b v : Int} (h : jn x a b = some v) : x = 17 ∨ x = 18 ∨ (20 ≤ x ∧ x ≤ 31) := by
  by_cases c : x = 17 ∨ x = 18 ∨ (20 ≤ x ∧ x ≤ 31)
  · exact c
  · unfold jn at h
    rw [if_neg (by omega), if_neg (by omega), if_neg (by omega), if_neg (by omega), if_neg (by omega), if_neg (by omega), if_neg (by omega), if_neg (by omega), if_neg (by omega), if_neg (by omega), if_neg (by omega), if_neg (by omega), if_neg (by omega), if_neg (by omega)] at h
    exact absurd h (by simp)
/-- the three ways of a step -/
theorem stp_i {w : Nat → Int} {x : Nat} {s s' : List Int} (h : stp w x s = some s') :
    ((100 ≤ x ∧ x ≤ 10099) ∧ s.length < 60 ∧ s' = ((x : Int) - 100) :: s) ∨ (x < 14 ∧ s.length < 60 ∧ s' = w x :: s) ∨ (x = 40 ∧ ∃ b s1, s = b :: s1 ∧ s' = -b :: s1) ∨ (x = 19 ∧ ∃ b s1, b01 b = true ∧ s = b :: s1 ∧ s' = (1 - b) :: s1) ∨ (∃ a b v s2, (x = 17 ∨ x = 18 ∨ (20 ≤ x ∧ x ≤ 31)) ∧ jn x a b = some v ∧ s = b :: a :: s2 ∧ s' = v :: s2) := by
  unfold stp at h
  by_cases c1 : 100 ≤ x
  · rw [if_pos c1] at h
    split at h
    · rename_i g
      rw [Option.some.injEq] at h
      exact Or.inl ⟨⟨c1, g.2⟩, g.1, h.symm⟩
    · exact absurd h (by simp)
  rw [if_neg c1] at h
  by_cases c2 : x < 14
  · rw [if_pos c2] at h
    split at h
    · rename_i g
      rw [Option.some.injEq] at h
      exact Or.inr (Or.inl ⟨c2, g, h.symm⟩)
    · exact absurd h (by simp)
  rw [if_neg c2] at h
  split at h
  · exact absurd h (by simp)
  rename_i b s1
  by_cases c3 : x = 40
  · rw [if_pos c3, Option.some.injEq] at h
    exact Or.inr (Or.inr (Or.inl ⟨c3, b, s1, rfl, h.symm⟩))
  rw [if_neg c3] at h
  by_cases c4 : x = 19
  · rw [if_pos c4] at h
    split at h
    · rename_i g
      rw [Option.some.injEq] at h
      exact Or.inr (Or.inr (Or.inr (Or.inl ⟨c4, b, s1, g, rfl, h.symm⟩)))
    · exact absurd h (by simp)
  rw [if_neg c4] at h
  split at h
  · exact absurd h (by simp)
  rename_i a s2
  split at h
  · rename_i v hv
    rw [Option.some.injEq] at h
    exact Or.inr (Or.inr (Or.inr (Or.inr ⟨a, b, v, s2, jn_x hv, hv, rfl, h.symm⟩)))
  · exact absurd h (by simp)
theorem stp_b {w : Nat → Int} {x : Nat} {s s' : List Int} (hw : WB w) (hs : BS s) (hl : s.length ≤ 60) (h : stp w x s = some s') : BS s' ∧ s'.length ≤ 60 := by
  rcases stp_i h with ⟨h1, h2, h3⟩ | ⟨h1, h2, h3⟩ | ⟨h1, b, s1, h2, h3⟩ | ⟨h1, b, s1, h0, h2, h3⟩ | ⟨a, b, v, s2, h1, h2, h3, h4⟩
  · subst h3
    refine ⟨fun v hv => ?_, by simp only [List.length_cons]; omega⟩
    rcases List.mem_cons.mp hv with e | e
    · rw [e]; unfold bn9; omega
    · exact hs v e
  · subst h3
    refine ⟨fun v hv => ?_, by simp only [List.length_cons]; omega⟩
    rcases List.mem_cons.mp hv with e | e
    · rw [e]; exact hw x h1
    · exact hs v e
  · subst h3; subst h2
    refine ⟨fun v hv => ?_, hl⟩
    rcases List.mem_cons.mp hv with e | e
    · have := hs b (by simp); rw [e]; unfold bn9 at *; omega
    · exact hs v (List.mem_cons_of_mem _ e)
  · subst h3; subst h2
    refine ⟨fun v hv => ?_, hl⟩
    rcases List.mem_cons.mp hv with e | e
    · have := (b01_iff b).mp h0; rw [e]; unfold bn9; omega
    · exact hs v (List.mem_cons_of_mem _ e)
  · subst h3; subst h4
    refine ⟨fun u hv => ?_, by simp only [List.length_cons] at hl ⊢; omega⟩
    rcases List.mem_cons.mp hv with e | e
    · rw [e]; exact jn_b (hs a (by simp)) (hs b (by simp)) h2
    · exact hs u (List.mem_cons_of_mem _ (List.mem_cons_of_mem _ e))
theorem cbounded_ok {υ : St} {z : Int} {post : Int32 → St → Prop} (hz : -1000000000000000000 ≤ z ∧ z ≤ 1000000000000000000) (h : post (II (clp z)) υ) : wpX3_bounded (LL z) υ post := by
  unfold clp at h
  unfold wpX3_bounded
  simp only [L_lit, I_lit, L_neg, I_neg, L_thin]
  rw [L_le (by omega), L_le (by omega)]
  refine ⟨fun a => ⟨fun b => ?_, fun b => ?_⟩, fun a => ?_⟩
  · rw [if_pos a, if_pos b] at h; exact h
  · rw [if_pos a, if_neg b] at h; exact h
  · rw [if_neg a] at h; exact h
theorem cjoin_ok {υ : St} {x : Nat} {a b v : Int} {post : Int32 → St → Prop} (ha : bn9 a) (hb : bn9 b) (h : jn x a b = some v) (hq : post (II v) υ) : wpX3_join (II x) (II a) (II b) υ post := by
  have hx : x < 2 ^ 20 := by have := jn_x h; omega
  have mb := mul_b ha hb
  unfold bn9 at ha hb
  have yn : ∀ (P : Prop) [Decidable P], some (if P then (1 : Int) else 0) = some v → (¬ P → post 0 υ) ∧ (P → post 1 υ) := fun P _ e => by
    rw [Option.some.injEq] at e
    refine ⟨fun z => ?_, fun z => ?_⟩
    · rw [if_neg z] at e; rw [← e] at hq; exact hq
    · rw [if_pos z] at e; rw [← e] at hq; exact hq
  have ny : ∀ (P : Prop) [Decidable P], some (if P then (0 : Int) else 1) = some v → (P → post 0 υ) ∧ (¬ P → post 1 υ) := fun P _ e => by
    rw [Option.some.injEq] at e
    refine ⟨fun z => ?_, fun z => ?_⟩
    · rw [if_pos z] at e; rw [← e] at hq; exact hq
    · rw [if_neg z] at e; rw [← e] at hq; exact hq
  unfold jn at h
  unfold wpX3_join
  refine ist 17 hx (by decide) (fun c => ?_) (fun c => ?_)
  · rw [if_pos c] at h
    split at h
    · rename_i g
      rw [Bool.and_eq_true, b01_iff, b01_iff] at g
      rw [Option.some.injEq] at h; rw [← h] at hq
      rcases g.1 with e | e <;> rcases g.2 with e2 | e2 <;> rw [e, e2] at hq ⊢ <;> exact hq
    · exact absurd h (by simp)
  rw [if_neg c] at h; clear c
  refine ist 18 hx (by decide) (fun c => ?_) (fun c => ?_)
  · rw [if_pos c] at h
    split at h
    · rename_i g
      rw [Bool.and_eq_true, b01_iff, b01_iff] at g
      rw [Option.some.injEq] at h; rw [← h] at hq
      rcases g.1 with e | e <;> rcases g.2 with e2 | e2 <;> rw [e, e2] at hq ⊢ <;> exact hq
    · exact absurd h (by simp)
  rw [if_neg c] at h; clear c
  refine ist 19 hx (by decide) (fun c => ?_) (fun _ => ?_)
  · rw [if_neg (by omega), if_neg (by omega), if_neg (by omega), if_neg (by omega), if_neg (by omega), if_neg (by omega), if_neg (by omega), if_neg (by omega), if_neg (by omega), if_neg (by omega), if_neg (by omega), if_neg (by omega)] at h
    exact absurd h (by simp)
  refine ist 20 hx (by decide) (fun c => ?_) (fun c => ?_)
  · rw [if_pos c, Option.some.injEq] at h
    rw [← h] at hq
    by_cases z : b < a
    · rw [if_pos z] at hq; rw [if_pos (by rw [I_lt (by omega)]; exact z)]; exact hq
    · rw [if_neg z] at hq; rw [if_neg (by rw [I_lt (by omega)]; exact z)]; exact hq
  rw [if_neg c] at h; clear c
  refine ist 21 hx (by decide) (fun c => ?_) (fun c => ?_)
  · rw [if_pos c, Option.some.injEq] at h
    rw [← h] at hq
    by_cases z : a < b
    · rw [if_pos z] at hq; rw [if_pos (by rw [I_lt (by omega)]; exact z)]; exact hq
    · rw [if_neg z] at hq; rw [if_neg (by rw [I_lt (by omega)]; exact z)]; exact hq
  rw [if_neg c] at h; clear c
  refine ist 22 hx (by decide) (fun c => ?_) (fun c => ?_)
  · rw [if_pos c] at h
    have := yn _ h
    rw [I_le (by omega)]
    exact ⟨fun z => this.1 (by omega), fun z => this.2 (by omega)⟩
  rw [if_neg c] at h; clear c
  refine ist 23 hx (by decide) (fun c => ?_) (fun c => ?_)
  · rw [if_pos c] at h
    have := yn _ h
    rw [I_lt (by omega)]
    exact ⟨fun z => this.1 (by omega), fun z => this.2 (by omega)⟩
  rw [if_neg c] at h; clear c
  refine ist 24 hx (by decide) (fun c => ?_) (fun c => ?_)
  · rw [if_pos c] at h
    have := yn _ h
    rw [I_le (by omega)]
    exact ⟨fun z => this.1 (by omega), fun z => this.2 (by omega)⟩
  rw [if_neg c] at h; clear c
  refine ist 25 hx (by decide) (fun c => ?_) (fun c => ?_)
  · rw [if_pos c] at h
    have := yn _ h
    rw [I_lt (by omega)]
    exact ⟨fun z => this.1 (by omega), fun z => this.2 (by omega)⟩
  rw [if_neg c] at h; clear c
  refine ist 26 hx (by decide) (fun c => ?_) (fun c => ?_)
  · rw [if_pos c] at h
    have := yn _ h
    rw [I_eq (by omega)]
    exact ⟨fun z => this.1 z, fun z => this.2 z⟩
  rw [if_neg c] at h; clear c
  refine ist 27 hx (by decide) (fun c => ?_) (fun c => ?_)
  · rw [if_pos c] at h
    have := ny _ h
    rw [I_eq (by omega)]
    exact ⟨fun z => this.1 z, fun z => this.2 z⟩
  rw [if_neg c] at h; clear c
  refine ist 28 hx (by decide) (fun c => ?_) (fun c => ?_)
  · rw [if_pos c, Option.some.injEq] at h
    rw [I_wide (by omega), I_wide (by omega), L_add]
    exact cbounded_ok (by omega) (by rw [h]; exact hq)
  rw [if_neg c] at h; clear c
  refine ist 29 hx (by decide) (fun c => ?_) (fun c => ?_)
  · rw [if_pos c, Option.some.injEq] at h
    rw [I_wide (by omega), I_wide (by omega), L_sub]
    exact cbounded_ok (by omega) (by rw [h]; exact hq)
  rw [if_neg c] at h; clear c
  refine ist 30 hx (by decide) (fun c => ?_) (fun c => ?_)
  · rw [if_pos c, Option.some.injEq] at h
    rw [I_wide (by omega), I_wide (by omega), L_mul]
    exact cbounded_ok mb (by rw [h]; exact hq)
  rw [if_neg c] at h; clear c
  refine ist 31 hx (by decide) (fun c => ?_) (fun c => ?_)
  · rw [if_pos c, Option.some.injEq] at h
    rw [show (0 : Int32) = II 0 from rfl, I_eq (by omega)]
    refine ⟨fun z => ⟨z, ?_⟩, fun z => ?_⟩
    · rw [I_tdiv ha hb]; rw [if_neg z] at h; rw [h]; exact hq
    · rw [if_pos z] at h; rw [← h] at hq; exact hq
  rw [if_neg c] at h; exact absurd h (by simp)
