/-! chance: long numbers -/
def Dg (B x i : Nat) : Nat := x / B ^ i % B
def Cr (B a x b z i : Nat) : Nat := (a * (x % B ^ i) + b * (z % B ^ i)) / B ^ i
theorem mod_step (B x i : Nat) : x % B ^ (i + 1) = x % B ^ i + B ^ i * Dg B x i := by
  unfold Dg; rw [Nat.pow_succ, Nat.mod_mul]
theorem lin_step {B : Nat} (hB : 0 < B) (a x b z i : Nat) : (a * (x % B ^ (i + 1)) + b * (z % B ^ (i + 1))) / B ^ i = Cr B a x b z i + (a * Dg B x i + b * Dg B z i) := by
  have hp : 0 < B ^ i := Nat.pow_pos hB
  unfold Cr
  rw [mod_step, mod_step, ← Nat.add_mul_div_left _ _ hp]
  congr 1
  rw [Nat.mul_add, Nat.mul_add, Nat.mul_add, Nat.mul_left_comm a (B ^ i), Nat.mul_left_comm b (B ^ i)]
  omega
theorem Cr_succ {B : Nat} (hB : 0 < B) (a x b z i : Nat) : Cr B a x b z (i + 1) = (Cr B a x b z i + (a * Dg B x i + b * Dg B z i)) / B := by
  rw [← lin_step hB]
  unfold Cr
  rw [Nat.div_div_eq_div_mul, ← Nat.pow_succ]
theorem Cr_zero (B a x b z : Nat) : Cr B a x b z 0 = 0 := by unfold Cr; simp [Nat.mod_one]
theorem Dg_lin {B : Nat} (hB : 0 < B) (a x b z i : Nat) : Dg B (a * x + b * z) i = (Cr B a x b z i + (a * Dg B x i + b * Dg B z i)) % B := by
  rw [← lin_step hB]
  have hp : 0 < B ^ i := Nat.pow_pos hB
  have ex : a * x + b * z = (a * (x % B ^ (i + 1)) + b * (z % B ^ (i + 1))) + B ^ i * (B * (a * (x / B ^ (i + 1)) + b * (z / B ^ (i + 1)))) := by
    have h1 := Nat.mod_add_div x (B ^ (i + 1))
    have h2 := Nat.mod_add_div z (B ^ (i + 1))
    have e : B ^ i * (B * (a * (x / B ^ (i + 1)) + b * (z / B ^ (i + 1)))) = a * (B ^ (i + 1) * (x / B ^ (i + 1))) + b * (B ^ (i + 1) * (z / B ^ (i + 1))) := by
      rw [← Nat.mul_assoc, ← Nat.pow_succ, Nat.mul_add, Nat.mul_left_comm, Nat.mul_left_comm (B ^ (i + 1)) b]
    rw [e]
    have e1 : a * x = a * (x % B ^ (i + 1)) + a * (B ^ (i + 1) * (x / B ^ (i + 1))) := by rw [← Nat.mul_add, h1]
    have e2 : b * z = b * (z % B ^ (i + 1)) + b * (B ^ (i + 1) * (z / B ^ (i + 1))) := by rw [← Nat.mul_add, h2]
    omega
  unfold Dg
  rw [ex, Nat.add_mul_div_left _ _ hp, Nat.add_mul_mod_self_left]
theorem Dg_lt {B : Nat} (hB : 0 < B) (x i : Nat) : Dg B x i < B := Nat.mod_lt _ hB
theorem Cr_le {B : Nat} (hB : 0 < B) (a x b z i : Nat) : Cr B a x b z i ≤ a + b := by
  have hp : 0 < B ^ i := Nat.pow_pos hB
  unfold Cr
  apply Nat.div_le_of_le_mul
  have h1 := Nat.mod_lt x hp
  have h2 := Nat.mod_lt z hp
  have e1 := Nat.mul_le_mul_left a (Nat.le_of_lt h1)
  have e2 := Nat.mul_le_mul_left b (Nat.le_of_lt h2)
  rw [Nat.mul_add, Nat.mul_comm (B ^ i) a, Nat.mul_comm (B ^ i) b]
  omega
theorem Dg_one {B : Nat} (hB : 1 < B) (i : Nat) : Dg B 1 i = if i = 0 then 1 else 0 := by
  unfold Dg
  by_cases c : i = 0
  · rw [if_pos c, c, Nat.pow_zero, Nat.div_one, Nat.mod_eq_of_lt hB]
  · rw [if_neg c, Nat.div_eq_of_lt (Nat.one_lt_pow c hB), Nat.zero_mod]
theorem Dg_zero (B i : Nat) : Dg B 0 i = 0 := by unfold Dg; simp
/-- division from the top -/
theorem Dg_div {B a x i : Nat} (ha : 0 < a) (hB : 0 < B) : Dg B (x / a) i = ((x / B ^ (i + 1) % a) * B + Dg B x i) / a ∧ x / B ^ i % a = ((x / B ^ (i + 1) % a) * B + Dg B x i) % a := by
  have e0 : x / B ^ i = B * (x / B ^ (i + 1)) + Dg B x i := by
    have := Nat.div_add_mod (x / B ^ i) B
    rw [Nat.div_div_eq_div_mul, ← Nat.pow_succ] at this
    exact this.symm
  have e1 := Nat.div_add_mod (x / B ^ (i + 1)) a
  have e2 : x / B ^ i = a * (B * (x / B ^ (i + 1) / a)) + ((x / B ^ (i + 1) % a) * B + Dg B x i) := by
    rw [e0]
    have : B * (x / B ^ (i + 1)) = a * (B * (x / B ^ (i + 1) / a)) + (x / B ^ (i + 1) % a) * B := by
      conv => lhs; rw [← e1]
      rw [Nat.mul_add, Nat.mul_left_comm, Nat.mul_comm B (x / B ^ (i + 1) % a)]
    omega
  have hd := Dg_lt hB x i
  have hm := Nat.mod_lt (x / B ^ (i + 1)) ha
  have hv : (x / B ^ (i + 1) % a) * B + Dg B x i < a * B := by
    have := Nat.mul_le_mul_right B (Nat.succ_le_of_lt hm)
    rw [Nat.succ_mul] at this
    omega
  constructor
  · have : Dg B (x / a) i = x / B ^ i / a % B := by
      unfold Dg; rw [Nat.div_div_eq_div_mul, Nat.div_div_eq_div_mul, Nat.mul_comm]
    rw [this, e2, Nat.mul_add_div ha, Nat.mul_add_mod, Nat.mod_eq_of_lt (Nat.div_lt_of_lt_mul hv)]
  · rw [e2, Nat.mul_add_mod]
/-- comparing from the top -/
theorem top_eq {B x y i : Nat} (h : x / B ^ (i + 1) = y / B ^ (i + 1)) (hd : Dg B x i = Dg B y i) : x / B ^ i = y / B ^ i := by
  have e : ∀ x, x / B ^ i = B * (x / B ^ (i + 1)) + Dg B x i := fun x => by
    have := Nat.div_add_mod (x / B ^ i) B
    rw [Nat.div_div_eq_div_mul, ← Nat.pow_succ] at this
    exact this.symm
  rw [e x, e y, h, hd]
theorem top_lt {B x y i : Nat} (hB : 0 < B) (h : x / B ^ (i + 1) = y / B ^ (i + 1)) (hd : Dg B x i < Dg B y i) : x < y := by
  have e : ∀ x, x / B ^ i = B * (x / B ^ (i + 1)) + Dg B x i := fun x => by
    have := Nat.div_add_mod (x / B ^ i) B
    rw [Nat.div_div_eq_div_mul, ← Nat.pow_succ] at this
    exact this.symm
  have h2 : x / B ^ i < y / B ^ i := by rw [e x, e y, h]; omega
  have hp : 0 < B ^ i := Nat.pow_pos hB
  exact Nat.lt_of_not_le (fun z => absurd (Nat.div_le_div_right (c := B ^ i) z) (by omega))
/-! the row of chances -/
def cf (o e : Nat) : Nat → Nat → Nat
  | 0, j => if j = 0 then 1 else 0
  | n + 1, j => cf o e n j * o + (if j = 0 then 0 else cf o e n (j - 1) * e)
theorem cf_zero (o e n j : Nat) (h : n < j) : cf o e n j = 0 := by
  induction n generalizing j with
  | zero => simp only [cf]; rw [if_neg (by omega)]
  | succ n ih => simp only [cf]; rw [ih j (by omega), ih (j - 1) (by omega)]; split <;> simp
theorem cf_next (o e n : Nat) : ∀ j : Nat, j ≤ n → cf o e n j * ((n - j) * e) = cf o e n (j + 1) * ((j + 1) * o) := by
  induction n with
  | zero => intro j hj; rw [cf_zero o e 0 (j + 1) (by omega), show 0 - j = 0 by omega]; simp
  | succ n ih =>
    intro j hj
    have s1 : cf o e (n + 1) (j + 1) = cf o e n (j + 1) * o + cf o e n j * e := by
      simp only [cf]; rw [if_neg (by omega), show j + 1 - 1 = j by omega]
    by_cases c : j = n + 1
    · subst c
      rw [cf_zero o e (n + 1) (n + 1 + 1) (by omega)]; simp
    · have h1 := ih j (by omega)
      cases j with
      | zero =>
        have s0 : cf o e (n + 1) 0 = cf o e n 0 * o := by simp [cf]
        rw [s0, s1]
        rw [Nat.sub_zero] at h1 ⊢
        generalize cf o e n 0 = A at *
        generalize cf o e n (0 + 1) = C at *
        grind
      | succ j =>
        have h2 := ih j (by omega)
        have s0 : cf o e (n + 1) (j + 1) = cf o e n (j + 1) * o + cf o e n j * e := by simp [cf]
        rw [s0, s1]
        obtain ⟨d, hd⟩ : ∃ d, n = j + 1 + d := ⟨n - j - 1, by omega⟩
        rw [show n + 1 - (j + 1) = d + 1 by omega]
        rw [show n - (j + 1) = d by omega] at h1
        rw [show n - j = d + 1 by omega] at h2
        generalize cf o e n j = A at *
        generalize cf o e n (j + 1) = C at *
        generalize cf o e n (j + 1 + 1) = D at *
        clear s0 s1 ih hj hd c
        grind
def cs (o e n : Nat) : Nat → Nat
  | 0 => 0
  | k + 1 => cs o e n k + cf o e n k
theorem cs_succ (o e n k : Nat) : cs o e (n + 1) (k + 1) = cs o e n (k + 1) * o + cs o e n k * e := by
  induction k with
  | zero => simp [cs, cf]
  | succ k ih =>
    have a1 : cs o e (n + 1) (k + 1 + 1) = cs o e (n + 1) (k + 1) + cf o e (n + 1) (k + 1) := rfl
    have a2 : cs o e n (k + 1 + 1) = cs o e n (k + 1) + cf o e n (k + 1) := rfl
    have a3 : cs o e n (k + 1) = cs o e n k + cf o e n k := rfl
    have a4 : cf o e (n + 1) (k + 1) = cf o e n (k + 1) * o + cf o e n k * e := by simp only [cf]; rw [if_neg (by omega), show k + 1 - 1 = k by omega]
    rw [a1, ih, a4, a2, a3]
    generalize cs o e n k = X
    generalize cf o e n k = Y
    generalize cf o e n (k + 1) = Z
    grind
theorem cs_all (o e n : Nat) : ∀ k, n < k → cs o e n k = (o + e) ^ n := by
  induction n with
  | zero =>
    intro k hk
    induction k with
    | zero => omega
    | succ k ihk =>
      by_cases c : k = 0
      · subst c; simp [cs, cf]
      · show cs o e 0 k + cf o e 0 k = _
        rw [ihk (by omega), cf_zero o e 0 k (by omega)]; simp
  | succ n ih =>
    intro k hk
    obtain ⟨d, rfl⟩ : ∃ d, k = d + 1 := ⟨k - 1, by omega⟩
    rw [cs_succ, ih (d + 1) (by omega), ih d (by omega), Nat.pow_succ, Nat.mul_add]
theorem cf_o0 (e n j : Nat) : cf 0 e n j = if j = n then e ^ n else 0 := by
  induction n generalizing j with
  | zero => simp [cf]
  | succ n ih =>
    simp only [cf]
    rw [ih, ih]
    by_cases c : j = n + 1
    · subst c; simp [Nat.pow_succ]
    · rw [if_neg c]
      by_cases c0 : j = 0
      · simp [c0]
      · rw [if_neg c0, if_neg (show ¬ j - 1 = n by omega)]; simp
theorem cs_mono (o e n k d : Nat) : cs o e n k ≤ cs o e n (k + d) := by
  induction d with
  | zero => exact Nat.le_refl _
  | succ d ih => exact Nat.le_trans ih (Nat.le_add_right _ _)
theorem cf_le (o e n j : Nat) : cf o e n j ≤ (o + e) ^ n := by
  have h1 := cs_all o e n (n + j + 1) (by omega)
  have h2 := cs_mono o e n (j + 1) n
  rw [show j + 1 + n = n + j + 1 by omega, h1] at h2
  have h3 : cs o e n (j + 1) = cs o e n j + cf o e n j := rfl
  omega
theorem cs_le (o e n j : Nat) : cs o e n j ≤ (o + e) ^ n := by
  have h1 := cs_all o e n (n + j + 1) (by omega)
  have h2 := cs_mono o e n j (n + 1)
  rw [show j + (n + 1) = n + j + 1 by omega, h1] at h2
  exact h2
