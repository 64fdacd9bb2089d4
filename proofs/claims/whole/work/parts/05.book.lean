/-! sums -/
def sm (f : Nat → Int) : Nat → Int
  | 0 => 0
  | n + 1 => sm f n + f n
theorem sm_congr {f g : Nat → Int} {n : Nat} (h : ∀ k, k < n → f k = g k) : sm f n = sm g n := by
  induction n with
  | zero => rfl
  | succ n ih => show sm f n + f n = sm g n + g n; rw [ih (fun k hk => h k (by omega)), h n (by omega)]
theorem sm_add (f g : Nat → Int) (n : Nat) : sm (fun k => f k + g k) n = sm f n + sm g n := by
  induction n with
  | zero => rfl
  | succ n ih => show sm _ n + (f n + g n) = (sm f n + f n) + (sm g n + g n); rw [ih]; omega
theorem sm_zero {f : Nat → Int} {n : Nat} (h : ∀ k, k < n → f k = 0) : sm f n = 0 := by
  induction n with
  | zero => rfl
  | succ n ih => show sm f n + f n = 0; rw [ih (fun k hk => h k (by omega)), h n (by omega)]; rfl
theorem sm_nonneg {f : Nat → Int} {n : Nat} (h : ∀ k, k < n → 0 ≤ f k) : 0 ≤ sm f n := by
  induction n with
  | zero => exact Int.le_refl 0
  | succ n ih => show 0 ≤ sm f n + f n; have := ih (fun k hk => h k (by omega)); have := h n (by omega); omega
theorem sm_le {f : Nat → Int} {n : Nat} {B : Int} (h : ∀ k, k < n → f k ≤ B) : sm f n ≤ n * B := by
  induction n with
  | zero => simp [sm]
  | succ n ih =>
    show sm f n + f n ≤ _
    have := ih (fun k hk => h k (by omega)); have := h n (by omega)
    have e : ((n + 1 : Nat) : Int) * B = n * B + B := by rw [Int.natCast_succ, Int.add_mul, Int.one_mul]
    rw [e]; omega
theorem sm_one {n : Nat} (k : Nat) (v : Int) (h : k < n) : sm (fun j => if j = k then v else 0) n = v := by
  induction n with
  | zero => omega
  | succ n ih =>
    show sm _ n + (if n = k then v else 0) = v
    by_cases e : n = k
    · subst e
      rw [sm_zero (fun j hj => by simp; omega)]; simp
    · rw [ih (by omega)]; simp [e]
theorem sm_split (f : Nat → Int) (a b : Nat) : sm f (a + b) = sm f a + sm (fun k => f (a + k)) b := by
  induction b with
  | zero => simp [sm]
  | succ b ih => show sm f (a + b) + f (a + b) = sm f a + (sm _ b + f (a + b)); rw [ih]; omega
theorem sm_mono {f : Nat → Int} {a b : Nat} (hab : a ≤ b) (h : ∀ k, k < b → 0 ≤ f k) : sm f a ≤ sm f b := by
  obtain ⟨d, rfl⟩ := Nat.exists_eq_add_of_le hab
  rw [sm_split]
  have := sm_nonneg (f := fun k => f (a + k)) (n := d) (fun k hk => h _ (by omega))
  omega
def rg (f : Nat → Int) (a b : Nat) : Int := sm f (max a b) - sm f a
theorem rg_nil {f : Nat → Int} {a b : Nat} (h : b ≤ a) : rg f a b = 0 := by unfold rg; rw [Nat.max_eq_left h]; omega
theorem rg_succ {f : Nat → Int} {a b : Nat} (h : a ≤ b) : rg f a (b + 1) = rg f a b + f b := by
  unfold rg; rw [Nat.max_eq_right h, Nat.max_eq_right (by omega)]; show sm f b + f b - _ = _; omega
theorem rg_one {f : Nat → Int} {a : Nat} : rg f a (a + 1) = f a := by rw [rg_succ (Nat.le_refl a), rg_nil (Nat.le_refl a)]; omega
theorem rg_congr {f g : Nat → Int} {a b : Nat} (h : ∀ k, a ≤ k → k < b → f k = g k) : rg f a b = rg g a b := by
  by_cases hab : a ≤ b
  · induction b with
    | zero => have : a = 0 := by omega
              subst this; rfl
    | succ b ih =>
      by_cases e : a = b + 1
      · subst e; rw [rg_nil (Nat.le_refl _), rg_nil (Nat.le_refl _)]
      · rw [rg_succ (by omega), rg_succ (by omega), ih (fun k h1 h2 => h k h1 (by omega)) (by omega), h b (by omega) (by omega)]
  · rw [rg_nil (by omega), rg_nil (by omega)]
theorem rg_nonneg {f : Nat → Int} {a b : Nat} (h : ∀ k, a ≤ k → k < b → 0 ≤ f k) : 0 ≤ rg f a b := by
  by_cases hab : a ≤ b
  · obtain ⟨d, rfl⟩ := Nat.exists_eq_add_of_le hab
    unfold rg; rw [Nat.max_eq_right hab, sm_split]
    have := sm_nonneg (f := fun k => f (a + k)) (n := d) (fun k hk => h _ (by omega) (by omega))
    omega
  · rw [rg_nil (by omega)]; omega
theorem rg_le {f : Nat → Int} {a b : Nat} {B : Int} (hB : 0 ≤ B) (h : ∀ k, a ≤ k → k < b → f k ≤ B) : rg f a b ≤ b * B := by
  have hbB : 0 ≤ (b : Int) * B := Int.mul_nonneg (by omega) hB
  by_cases hab : a ≤ b
  · obtain ⟨d, rfl⟩ := Nat.exists_eq_add_of_le hab
    unfold rg; rw [Nat.max_eq_right hab, sm_split]
    have := sm_le (f := fun k => f (a + k)) (n := d) (B := B) (fun k hk => h _ (by omega) (by omega))
    have e : ((a + d : Nat) : Int) * B = a * B + d * B := by rw [Int.natCast_add, Int.add_mul]
    have : 0 ≤ (a : Int) * B := Int.mul_nonneg (by omega) hB
    rw [e]; omega
  · rw [rg_nil (by omega)]; exact hbB
theorem rg_cut {f : Nat → Int} {a b c : Nat} (hbc : b ≤ c) (h : ∀ k, b ≤ k → k < c → f k = 0) : rg f a c = rg f a b := by
  by_cases hab : a ≤ b
  · obtain ⟨d, rfl⟩ := Nat.exists_eq_add_of_le hbc
    unfold rg; rw [Nat.max_eq_right (by omega), Nat.max_eq_right hab, sm_split, sm_zero (f := fun k => f (b + k)) (fun k hk => h _ (by omega) (by omega))]
    omega
  · rw [rg_nil (by omega : b ≤ a)]
    by_cases hac : a ≤ c
    · obtain ⟨d, rfl⟩ := Nat.exists_eq_add_of_le hac
      unfold rg; rw [Nat.max_eq_right hac, sm_split, sm_zero (f := fun k => f (a + k)) (fun k hk => h _ (by omega) (by omega))]
      omega
    · rw [rg_nil (by omega)]
theorem rg_add (f g : Nat → Int) (a b : Nat) : rg (fun k => f k + g k) a b = rg f a b + rg g a b := by
  unfold rg; rw [sm_add, sm_add]; omega
/-! what was given: year (from 0 for -40), row, name -/
abbrev GV : Type := Nat → Nat → Nat → Int
def ing (g c : Nat) : Bool := if g < 3 then c / 4 == g else if g < 5 then c / 2 % 2 == g - 3 else if g = 5 then c % 2 == 0 else true
def gt (G : GV) (Y g n : Nat) : Int := sm (fun c => if ing g c then G Y c n else 0) 12
def gy (G : GV) (g n : Nat) (Y : Nat) : Int := gt G Y g n
def gadd (G : GV) (Y c n : Nat) (v : Int) : GV := fun Y' c' n' => if Y' = Y ∧ c' = c ∧ n' = n then G Y' c' n' + v else G Y' c' n'
def pk (f : Nat → Int) : Int := sm (fun n => f n * (16 ^ n : Nat)) 16
def lat (G : GV) (n : Nat) : Nat → Int
  | 0 => -1000
  | Y + 1 => if 0 < gt G Y 6 n then (Y : Int) - 40 else lat G n Y
theorem gt_gadd (G : GV) (Y c n : Nat) (v : Int) (hc : c < 12) (Y' g n' : Nat) : gt (gadd G Y c n v) Y' g n' = gt G Y' g n' + (if Y' = Y ∧ n' = n ∧ ing g c = true then v else 0) := by
  unfold gt
  by_cases h : Y' = Y ∧ n' = n
  · obtain ⟨rfl, rfl⟩ := h
    rw [show (fun c' => if ing g c' = true then gadd G Y' c n' v Y' c' n' else 0) = (fun c' => (if ing g c' = true then G Y' c' n' else 0) + (if c' = c then (if ing g c = true then v else 0) else 0)) from ?_, sm_add, sm_one c _ hc]
    · simp
    · funext c'
      unfold gadd
      by_cases e : c' = c
      · subst e; by_cases i : ing g c' = true <;> simp [i]
      · by_cases i : ing g c' = true <;> simp [i, e]
  · have : ∀ c', gadd G Y c n v Y' c' n' = G Y' c' n' := fun c' => by
      unfold gadd; rw [if_neg]; intro z; exact h ⟨z.1, z.2.2⟩
    simp only [this]
    rw [if_neg (fun z => h ⟨z.1, z.2.1⟩)]; omega
