/-! room: sums over classes -/
def hl (w : Nat → Int) (A : Nat → Nat → Bool) : List Nat → Nat → (Nat → Bool) → Int
  | [], k, _ => if k = 0 then 1 else 0
  | n :: l, k, S => hl w A l k S + (if k = 0 ∨ S n = true then 0 else w n * hl w A l (k - 1) (fun j => S j || A n j))
theorem hl_cons (w : Nat → Int) (A : Nat → Nat → Bool) (n : Nat) (l : List Nat) (k : Nat) (S : Nat → Bool) : hl w A (n :: l) k S = hl w A l k S + (if k = 0 ∨ S n = true then 0 else w n * hl w A l (k - 1) (fun j => S j || A n j)) := rfl
theorem hl_nil (w : Nat → Int) (A : Nat → Nat → Bool) (k : Nat) (S : Nat → Bool) : hl w A [] k S = if k = 0 then 1 else 0 := rfl
theorem hl_short {w : Nat → Int} {A : Nat → Nat → Bool} {l : List Nat} : ∀ {k : Nat} {S : Nat → Bool}, l.length < k → hl w A l k S = 0 := by
  induction l with
  | nil => intro k S h; rw [hl_nil, if_neg]; simp at h; omega
  | cons n l ih =>
    intro k S h
    simp at h
    rw [hl_cons, ih (by omega), ih (by omega)]
    split <;> simp
theorem hl_snoc {w : Nat → Int} {A : Nat → Nat → Bool} (hA : ∀ i j, A i j = A j i) (t : Nat) (l : List Nat) : ∀ (k : Nat) (S : Nat → Bool), hl w A (l ++ [t]) k S = hl w A l k S + (if k = 0 ∨ S t = true then 0 else w t * hl w A l (k - 1) (fun j => S j || A t j)) := by
  induction l with
  | nil =>
    intro k S
    rw [List.nil_append, hl_cons]
  | cons n l ih =>
    intro k S
    rw [List.cons_append, hl_cons, ih, ih, hl_cons, hl_cons]
    have eS : (fun j => (S j || A n j) || A t j) = (fun j => (S j || A t j) || A n j) := funext (fun j => by cases S j <;> cases A n j <;> cases A t j <;> rfl)
    rw [eS, hA t n]
    generalize hl w A l k S = X0
    generalize hl w A l (k - 1) (fun j => S j || A t j) = X1
    generalize hl w A l (k - 1) (fun j => S j || A n j) = X2
    generalize hl w A l (k - 1 - 1) (fun j => (S j || A t j) || A n j) = X3
    by_cases k0 : k = 0
    · rw [if_pos (Or.inl k0), if_pos (Or.inl k0), if_pos (Or.inl k0)]
      omega
    · cases c1 : S t <;> cases c2 : S n <;> cases c3 : A n t <;> by_cases k1 : k - 1 = 0 <;> simp [k0, k1] <;> (try rw [Int.mul_add]) <;> (try rw [Int.mul_add]) <;> (try rw [Int.mul_left_comm (w n) (w t) X3]) <;> omega
theorem hl_filter {w : Nat → Int} {A : Nat → Nat → Bool} (l : List Nat) : ∀ (k : Nat) (S : Nat → Bool), hl w A (l.filter (fun n => decide (w n ≠ 0))) k S = hl w A l k S := by
  induction l with
  | nil => intro k S; rfl
  | cons n l ih =>
    intro k S
    by_cases c : w n ≠ 0
    · rw [List.filter_cons_of_pos (by simpa using c), hl_cons, hl_cons, ih, ih]
    · rw [List.filter_cons_of_neg (by simpa using c), hl_cons, ih, show w n = 0 by omega]
      split <;> simp
def pc (x : Nat) : Nat → Nat
  | 0 => 0
  | i + 1 => pc x i + (if x.testBit i = true then 1 else 0)
def pr (w : Nat → Int) (x : Nat) : Nat → Int
  | 0 => 1
  | i + 1 => if x.testBit i = true then pr w x i * w i else pr w x i
def apb (A : Nat → Nat → Bool) (x : Nat) : Nat → (Nat → Bool) → Bool
  | 0, _ => true
  | i + 1, S => if x.testBit i = true then (!S i && apb A x i (fun j => S j || A i j)) else apb A x i S
theorem pc_congr {x y i : Nat} (h : ∀ j, j < i → x.testBit j = y.testBit j) : pc x i = pc y i := by
  induction i with
  | zero => rfl
  | succ i ih => simp only [pc]; rw [ih (fun j hj => h j (by omega)), h i (by omega)]
theorem pr_congr {w : Nat → Int} {x y i : Nat} (h : ∀ j, j < i → x.testBit j = y.testBit j) : pr w x i = pr w y i := by
  induction i with
  | zero => rfl
  | succ i ih => simp only [pr]; rw [ih (fun j hj => h j (by omega)), h i (by omega)]
theorem apb_congr {A : Nat → Nat → Bool} {x y i : Nat} (h : ∀ j, j < i → x.testBit j = y.testBit j) : ∀ S, apb A x i S = apb A y i S := by
  induction i with
  | zero => intro S; rfl
  | succ i ih => intro S; simp only [apb]; rw [ih (fun j hj => h j (by omega)), ih (fun j hj => h j (by omega)), h i (by omega)]
def mF (w : Nat → Int) (A : Nat → Nat → Bool) (M k : Nat) (S : Nat → Bool) (x : Nat) : Int := if pc x M = k ∧ apb A x M S = true then pr w x M else 0
theorem mF_hl {w : Nat → Int} {A : Nat → Nat → Bool} (hA : ∀ i j, A i j = A j i) (M : Nat) : ∀ (k : Nat) (S : Nat → Bool), sm (mF w A M k S) (2 ^ M) = hl w A (List.range M) k S := by
  induction M with
  | zero =>
    intro k S
    show sm (mF w A 0 k S) 1 = _
    simp only [sm, mF, pc, apb, pr, List.range_zero, hl_nil]
    by_cases c : k = 0
    · rw [if_pos ⟨c.symm, trivial⟩, if_pos c]; rfl
    · rw [if_neg (fun z => c z.1.symm), if_neg c]; rfl
  | succ M ih =>
    intro k S
    rw [List.range_succ, hl_snoc hA, ← ih, ← ih, show 2 ^ (M + 1) = 2 ^ M + 2 ^ M by rw [Nat.pow_succ]; omega, sm_split]
    congr 1
    · refine sm_congr (fun x hx => ?_)
      have hb : x.testBit M = false := Nat.testBit_lt_two_pow hx
      simp only [mF, pc, pr, apb, hb, Bool.false_eq_true, if_false, Nat.add_zero]
    · have hb : ∀ x, x < 2 ^ M → (2 ^ M + x).testBit M = true := fun x hx => by
        rw [Nat.testBit_two_pow_add_eq, Nat.testBit_lt_two_pow hx]; rfl
      have hl' : ∀ x j, j < M → (2 ^ M + x).testBit j = x.testBit j := fun x j hj => Nat.testBit_two_pow_add_gt hj x
      by_cases c : k = 0 ∨ S M = true
      · rw [if_pos c]
        refine sm_zero (fun x hx => ?_)
        unfold mF
        refine if_neg (fun z => ?_)
        have z1 := z.1
        have z2 := z.2
        simp only [pc, apb, hb x hx, if_true, Bool.and_eq_true] at z1 z2
        rcases c with c | c
        · omega
        · rw [c] at z2; exact absurd z2.1 (by decide)
      · rw [if_neg c, ← sm_mul]
        refine sm_congr (fun x hx => ?_)
        have c2 : S M = false := by cases h : S M with | false => rfl | true => exact absurd (Or.inr h) c
        have c1 : k ≠ 0 := fun z => c (Or.inl z)
        unfold mF
        simp only [pc, apb, pr, hb x hx, if_true, c2, Bool.not_false, Bool.true_and, pc_congr (hl' x), pr_congr (hl' x), apb_congr (hl' x)]
        by_cases d : pc x M = k - 1 ∧ apb A x M (fun j => S j || A M j) = true
        · rw [if_pos d, if_pos ⟨by omega, d.2⟩, Int.mul_comm]
        · rw [if_neg d, if_neg (fun z => d ⟨by omega, z.2⟩), Int.mul_zero]
theorem apb_iff {A : Nat → Nat → Bool} {x : Nat} (M : Nat) : ∀ S : Nat → Bool, apb A x M S = true ↔ ((∀ i, i < M → x.testBit i = true → S i = false) ∧ (∀ j, j < M → ∀ i, i < j → x.testBit j = true → x.testBit i = true → A j i = false)) := by
  induction M with
  | zero => intro S; exact ⟨fun _ => ⟨fun i hi => absurd hi (by omega), fun j hj => absurd hj (by omega)⟩, fun _ => rfl⟩
  | succ M ih =>
    intro S
    simp only [apb]
    by_cases c : x.testBit M = true
    · rw [if_pos c, Bool.and_eq_true, ih]
      constructor
      · rintro ⟨h1, h2, h3⟩
        have h1 : S M = false := by simpa using h1
        refine ⟨fun i hi hx => ?_, fun j hj i hi jx ix => ?_⟩
        · by_cases e : i = M
          · rw [e]; exact h1
          · have := h2 i (by omega) hx
            simp at this; exact this.1
        · by_cases e : j = M
          · have := h2 i (by omega) ix
            simp at this; rw [e]; exact this.2
          · exact h3 j (by omega) i hi jx ix
      · rintro ⟨h1, h2⟩
        refine ⟨by simpa using h1 M (by omega) c, fun i hi hx => ?_, fun j hj i hi jx ix => h2 j (by omega) i hi jx ix⟩
        rw [h1 i (by omega) hx, h2 M (by omega) i hi c hx]; rfl
    · rw [if_neg c, ih]
      constructor
      · rintro ⟨h1, h2⟩
        refine ⟨fun i hi hx => ?_, fun j hj i hi jx ix => ?_⟩
        · by_cases e : i = M
          · rw [e] at hx; exact absurd hx c
          · exact h1 i (by omega) hx
        · by_cases e : j = M
          · rw [e] at jx; exact absurd jx c
          · exact h2 j (by omega) i hi jx ix
      · rintro ⟨h1, h2⟩
        exact ⟨fun i hi hx => h1 i (by omega) hx, fun j hj i hi jx ix => h2 j (by omega) i hi jx ix⟩
theorem pc_mono (x i d : Nat) : pc x i ≤ pc x (i + d) := by
  induction d with
  | zero => exact Nat.le_refl _
  | succ d ih => have : pc x (i + d + 1) = pc x (i + d) + (if x.testBit (i + d) = true then 1 else 0) := rfl
                 rw [show i + (d + 1) = i + d + 1 by omega, this]; omega
theorem pr_b {w : Nat → Int} (hw : ∀ i, 0 ≤ w i ∧ w i ≤ 24) (x i : Nat) : 0 ≤ pr w x i ∧ pr w x i ≤ ((24 ^ (pc x i) : Nat) : Int) := by
  induction i with
  | zero => exact ⟨by show (0 : Int) ≤ 1; omega, by show (1 : Int) ≤ ((24 ^ 0 : Nat) : Int); decide⟩
  | succ i ih =>
    simp only [pr, pc]
    by_cases c : x.testBit i = true
    · rw [if_pos c, if_pos c]
      have := mulb ih (hw i)
      refine ⟨this.1, ?_⟩
      rw [Nat.pow_succ, Int.natCast_mul]
      exact this.2
    · rw [if_neg c, if_neg c]; exact ih
