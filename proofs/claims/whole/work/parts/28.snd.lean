/-! digits of five bits -/
theorem p5 (a b : Nat) : 2 ^ (5 * (a + b)) = 2 ^ (5 * a) * 2 ^ (5 * b) := by rw [← Nat.pow_add]; congr 1; omega
theorem le_cat {a q k : Nat} (ha : a < 2 ^ (5 * k)) (j : Nat) : le (a + q * 2 ^ (5 * k)) j = if j < k then le a j else le q (j - k) := by
  unfold le
  split
  · rename_i h
    obtain ⟨d, rfl⟩ : ∃ d, k = j + (1 + d) := ⟨k - j - 1, by omega⟩
    rw [p5 j (1 + d), p5 1 d, show q * (2 ^ (5 * j) * (2 ^ (5 * 1) * 2 ^ (5 * d))) = 2 ^ (5 * j) * (32 * (q * 2 ^ (5 * d))) by
      rw [show 2 ^ (5 * 1) = 32 from rfl]
      rw [Nat.mul_left_comm q, Nat.mul_left_comm q 32]]
    rw [Nat.add_mul_div_left _ _ (Nat.pow_pos (by decide)), Nat.add_mul_mod_self_left]
  · rename_i h
    obtain ⟨d, rfl⟩ : ∃ d, j = k + d := ⟨j - k, by omega⟩
    rw [p5 k d, ← Nat.div_div_eq_div_mul, Nat.mul_comm q, Nat.add_mul_div_left _ _ (Nat.pow_pos (by decide)), Nat.div_eq_of_lt ha, Nat.zero_add, show k + d - k = d by omega]
theorem le_div (x m j : Nat) : le (x / 2 ^ (5 * m)) j = le x (m + j) := by
  unfold le; rw [Nat.div_div_eq_div_mul, ← p5]
theorem le_mod {x k j : Nat} (h : j < k) : le (x % 2 ^ (5 * k)) j = le x j := by
  have e := Nat.mod_add_div x (2 ^ (5 * k))
  have := le_cat (a := x % 2 ^ (5 * k)) (q := x / 2 ^ (5 * k)) (k := k) (Nat.mod_lt _ (Nat.pow_pos (by decide))) j
  rw [if_pos h, Nat.mul_comm (x / _), e] at this
  exact this.symm
theorem le_ext {N : Nat} : ∀ {a b : Nat}, a < 2 ^ (5 * N) → b < 2 ^ (5 * N) → (∀ j, j < N → le a j = le b j) → a = b := by
  induction N with
  | zero => intro a b ha hb _; simp only [Nat.mul_zero, Nat.pow_zero] at ha hb; omega
  | succ N ih =>
    intro a b ha hb h
    have h0 := h 0 (by omega)
    unfold le at h0
    simp only [Nat.mul_zero, Nat.pow_zero, Nat.div_one] at h0
    have e1 : a / 32 = b / 32 := by
      refine ih ?_ ?_ (fun j hj => ?_)
      · rw [Nat.div_lt_iff_lt_mul (by decide)]
        rw [show 5 * (N + 1) = 5 * N + 5 by omega, Nat.pow_add] at ha; exact ha
      · rw [Nat.div_lt_iff_lt_mul (by decide)]
        rw [show 5 * (N + 1) = 5 * N + 5 by omega, Nat.pow_add] at hb; exact hb
      · have a1 := le_div a 1 j
        have b1 := le_div b 1 j
        rw [show 2 ^ (5 * 1) = 32 from rfl] at a1 b1
        rw [a1, b1]; exact h (1 + j) (by omega)
    omega
def pkq (s : Nat → Nat) : Nat → Nat
  | 0 => 0
  | c + 1 => pkq s c + s c * 2 ^ (5 * c)
theorem pkq_lt {s : Nat → Nat} {c : Nat} (h : ∀ j, j < c → s j < 32) : pkq s c < 2 ^ (5 * c) := by
  induction c with
  | zero => simp [pkq]
  | succ c ih =>
    have a := ih (fun j hj => h j (by omega))
    have b := h c (by omega)
    show pkq s c + s c * 2 ^ (5 * c) < _
    rw [p5 c 1, show 2 ^ (5 * 1) = 32 from rfl]
    generalize 2 ^ (5 * c) = P at *
    have : s c * P ≤ 31 * P := Nat.mul_le_mul_right _ (by omega)
    omega
theorem le_one {x : Nat} (h : x < 32) (j : Nat) : le x j = if j = 0 then x else 0 := by
  unfold le
  by_cases e : j = 0
  · subst e; simp; omega
  · rw [if_neg e, Nat.div_eq_of_lt]
    obtain ⟨d, rfl⟩ : ∃ d, j = 1 + d := ⟨j - 1, by omega⟩
    rw [p5 1 d]
    have : 0 < 2 ^ (5 * d) := Nat.pow_pos (by decide)
    have e1 : 2 ^ (5 * 1) = 32 := rfl
    rw [e1]
    generalize 2 ^ (5 * d) = P at *
    omega
theorem le_pkq {s : Nat → Nat} {c : Nat} (h : ∀ j, j < c → s j < 32) (j : Nat) : le (pkq s c) j = if j < c then s j else 0 := by
  induction c with
  | zero => rw [if_neg (by omega)]; unfold le pkq; simp
  | succ c ih =>
    have a := pkq_lt (fun j hj => h j (by omega : j < c + 1))
    show le (pkq s c + s c * 2 ^ (5 * c)) j = _
    rw [le_cat (pkq_lt (fun j hj => h j (by omega)))]
    by_cases e : j < c
    · rw [if_pos e, ih (fun j hj => h j (by omega)), if_pos e, if_pos (by omega)]
    · rw [if_neg e, le_one (h c (by omega))]
      by_cases e2 : j = c
      · subst e2; rw [if_pos (by omega), if_pos (by omega)]
      · rw [if_neg (by omega), if_neg (by omega)]
theorem nl_pkq {s : Nat → Nat} {c : Nat} (hc : c < 12) (h : ∀ j, j < c → 1 ≤ s j ∧ s j < 32) : nl (pkq s c) = c := by
  have hl := le_pkq (s := s) (c := c) (fun j hj => (h j hj).2)
  refine nl_eq hc (fun j hj => ?_) ?_
  · rw [hl, if_pos hj]; have := h j hj; omega
  · rw [hl, if_neg (by omega)]
theorem pkq_inj {s t : Nat → Nat} {c : Nat} (hs : ∀ j, j < c → s j < 32) (ht : ∀ j, j < c → t j < 32) : pkq s c = pkq t c ↔ ∀ j, j < c → s j = t j := by
  constructor
  · intro e j hj
    have a := le_pkq hs j
    have b := le_pkq ht j
    rw [if_pos hj] at a b
    rw [← a, ← b, e]
  · intro e
    exact le_ext (pkq_lt hs) (pkq_lt ht) (fun j hj => by rw [le_pkq hs, le_pkq ht, if_pos hj, if_pos hj, e j hj])
def er (s : Nat → Nat) (k : Nat) : Nat → Nat := fun i => if i < k then s i else s (i + 1)
theorem without_ok {σ : St} {s : Nat → Nat} {c k : Nat} {post : Int64 → St → Prop} (hc : c ≤ 10) (hs : ∀ j, j < c → s j < 32) (hk : k < c) (hp : post (lN (pkq (er s k) (c - 1))) σ) : wpX12_without (lN (pkq s c)) (II k) σ post := by
  have hx := pkq_lt hs
  have hx50 : pkq s c < 2 ^ 50 := Nat.lt_of_lt_of_le hx (Nat.pow_le_pow_right (by decide) (by omega))
  generalize hX : pkq s c = x at *
  unfold wpX12_without
  have e1 : (5 : Int32) * II (k : Int) = II ((5 * k : Nat) : Int) := by rw [I_lit, I_mul]; rfl
  have e2 : (5 : Int32) * II (k : Int) + 5 = II ((5 * k + 5 : Nat) : Int) := by rw [I_lit, I_mul, I_add]; rfl
  have e3 : (1 : Int64) <<< ((II ((5 * k : Nat) : Int)).toInt64 &&& 63) - 1 = lN (2 ^ (5 * k) - 1) := by
    have := L_shl 1 (k := 5 * k) (by omega)
    rw [Nat.one_mul] at this
    have h1 : (1 : Int64) = lN 1 := rfl
    rw [h1, this, lN_sub (Nat.pow_pos (by decide))]
  have hm := wb_mask (n := x) (k := 5 * k) (by omega) (by omega)
  rw [e2, e1, e3, hm, L_shr (by omega) (by omega), L_shl _ (by omega)]
  have hq : x / 2 ^ (5 * k + 5) ≤ x := Nat.div_le_self _ _
  have hw : x % 2 ^ (5 * k) + x / 2 ^ (5 * k + 5) * 2 ^ (5 * k) ≤ x := by
    have a := Nat.mod_add_div x (2 ^ (5 * k))
    have b : x / 2 ^ (5 * k + 5) ≤ x / 2 ^ (5 * k) := by
      rw [Nat.pow_add, ← Nat.div_div_eq_div_mul]; exact Nat.div_le_self _ _
    have d := Nat.mul_le_mul_right (2 ^ (5 * k)) b
    rw [Nat.mul_comm (x / 2 ^ (5 * k))] at d
    omega
  rw [g_or' (k := 5 * k) rfl (Nat.mod_lt _ (Nat.pow_pos (by decide))) (by omega)]
  have hres : x % 2 ^ (5 * k) + x / 2 ^ (5 * k + 5) * 2 ^ (5 * k) = pkq (er s k) (c - 1) := by
    have her : ∀ j, j < c - 1 → er s k j < 32 := fun j hj => by unfold er; split; exact hs j (by omega); exact hs _ (by omega)
    have hle : ∀ j, le (x % 2 ^ (5 * k) + x / 2 ^ (5 * k + 5) * 2 ^ (5 * k)) j = if j < k then le x j else le x (j + 1) := by
      intro j
      rw [le_cat (Nat.mod_lt _ (Nat.pow_pos (by decide)))]
      split
      · rename_i h; exact le_mod h
      · rename_i h
        rw [show 5 * k + 5 = 5 * (k + 1) by omega, le_div]
        congr 1; omega
    have hl := le_pkq hs
    rw [hX] at hl
    refine le_ext (N := 12) (by omega) (Nat.lt_of_lt_of_le (pkq_lt her) (Nat.pow_le_pow_right (by decide) (by omega))) (fun j _ => ?_)
    rw [hle, le_pkq her]
    unfold er
    by_cases h1 : j < k
    · rw [if_pos h1, hl, if_pos (by omega), if_pos (by omega), if_pos h1]
    · rw [if_neg h1, hl, if_neg h1]
      by_cases h2 : j + 1 < c
      · rw [if_pos h2, if_pos (by omega)]
      · rw [if_neg h2, if_neg (by omega)]
  rw [hres]
  exact hp
/-! alike -/
def AL (s : Nat → Nat) (a : Nat) (t : Nat → Nat) (b : Nat) : Prop :=
  (a = b ∧ ∀ i, i < a → s i = t i) ∨ ∃ k, k < 10 ∧ ((a = b ∧ k < a ∧ ∀ i, i < a - 1 → er s k i = er t k i) ∨ (a = b + 1 ∧ k < a ∧ ∀ i, i < b → er s k i = t i) ∨ (b = a + 1 ∧ k < b ∧ ∀ i, i < a → er t k i = s i))
theorem AL_iff {s t : Nat → Nat} {a b f r : Nat} (ha : a ≤ 10) (hb : b ≤ 10) (hf : f ≤ min a b) (h1 : ∀ i, i < f → s i = t i) (h2 : f = min a b ∨ s f ≠ t f) (hr : r ≤ min a b - f) (h3 : ∀ j, j < r → s (a - 1 - j) = t (b - 1 - j)) (h4 : r = min a b - f ∨ s (a - 1 - r) ≠ t (b - 1 - r)) :
    max a b - f - r ≤ 1 ↔ AL s a t b := by
  constructor
  · intro h
    rcases Nat.lt_trichotomy a b with c | c | c
    · right
      have hab : b = a + 1 := by omega
      have hfr : f + r = a := by omega
      refine ⟨f, by omega, Or.inr (Or.inr ⟨hab, by omega, fun i hi => ?_⟩)⟩
      unfold er
      split
      · rename_i q; exact (h1 i q).symm
      · have := h3 (a - 1 - i) (by omega)
        rw [show a - 1 - (a - 1 - i) = i by omega, show b - 1 - (a - 1 - i) = i + 1 by omega] at this
        exact this.symm
    · by_cases hfr : f + r = a
      · left
        refine ⟨c, fun i hi => ?_⟩
        by_cases q : i < f
        · exact h1 i q
        · have := h3 (a - 1 - i) (by omega)
          rw [show a - 1 - (a - 1 - i) = i by omega, show b - 1 - (a - 1 - i) = i by omega] at this
          exact this
      · right
        refine ⟨f, by omega, Or.inl ⟨c, by omega, fun i hi => ?_⟩⟩
        unfold er
        split
        · rename_i q; exact h1 i q
        · have := h3 (a - 2 - i) (by omega)
          rw [show a - 1 - (a - 2 - i) = i + 1 by omega, show b - 1 - (a - 2 - i) = i + 1 by omega] at this
          exact this
    · right
      have hab : a = b + 1 := by omega
      have hfr : f + r = b := by omega
      refine ⟨f, by omega, Or.inr (Or.inl ⟨hab, by omega, fun i hi => ?_⟩)⟩
      unfold er
      split
      · rename_i q; exact h1 i q
      · have := h3 (b - 1 - i) (by omega)
        rw [show a - 1 - (b - 1 - i) = i + 1 by omega, show b - 1 - (b - 1 - i) = i by omega] at this
        exact this
  · intro h
    rcases h with ⟨c, h⟩ | ⟨k, hk, ⟨c, hka, h⟩ | ⟨c, hka, h⟩ | ⟨c, hkb, h⟩⟩
    · have : f = min a b := by
        rcases h2 with z | z
        · exact z
        · rcases Nat.lt_or_ge f a with q | q
          · exact absurd (h f q) z
          · omega
      omega
    · have e1 : ∀ i, i < a → i ≠ k → s i = t i := by
        intro i hi hne
        by_cases q : i < k
        · have := h i (by omega)
          unfold er at this; rw [if_pos q, if_pos q] at this; exact this
        · have := h (i - 1) (by omega)
          unfold er at this
          rw [if_neg (by omega), if_neg (by omega), show i - 1 + 1 = i by omega] at this; exact this
      have hfk : f = a ∨ f = k := by
        rcases h2 with z | z
        · omega
        · rcases Nat.lt_or_ge f a with q | q
          · right
            apply Classical.byContradiction
            intro w
            exact z (e1 f q w)
          · omega
      rcases hfk with z | z
      · omega
      · have : r = min a b - f ∨ a - 1 - r = k := by
          rcases h4 with w | w
          · exact Or.inl w
          · right
            apply Classical.byContradiction
            intro y
            apply w
            rw [show b - 1 - r = a - 1 - r by omega]
            exact e1 _ (by omega) y
        omega
    · have hfk : k ≤ f := by
        apply Classical.byContradiction
        intro z
        rcases h2 with w | w
        · omega
        · apply w
          have := h f (by omega)
          unfold er at this; rw [if_pos (by omega)] at this; exact this
      have : r = min a b - f := by
        rcases h4 with w | w
        · exact w
        · apply Classical.byContradiction
          intro y
          apply w
          have := h (b - 1 - r) (by omega)
          unfold er at this; rw [if_neg (by omega), show b - 1 - r + 1 = a - 1 - r by omega] at this; exact this
      omega
    · have hfk : k ≤ f := by
        apply Classical.byContradiction
        intro z
        rcases h2 with w | w
        · omega
        · apply w
          have := h f (by omega)
          unfold er at this; rw [if_pos (by omega)] at this; exact this.symm
      have : r = min a b - f := by
        rcases h4 with w | w
        · exact w
        · apply Classical.byContradiction
          intro y
          apply w
          have := h (a - 1 - r) (by omega)
          unfold er at this; rw [if_neg (by omega), show a - 1 - r + 1 = b - 1 - r by omega] at this; exact this.symm
      omega
noncomputable def alb (s : Nat → Nat) (a : Nat) (t : Nat → Nat) (b : Nat) : Bool := @decide (AL s a t b) (Classical.propDecidable _)
theorem alb_iff (s : Nat → Nat) (a : Nat) (t : Nat → Nat) (b : Nat) : alb s a t b = true ↔ AL s a t b := @decide_eq_true_iff _ (Classical.propDecidable _)
