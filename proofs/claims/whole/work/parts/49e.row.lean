/-! one row's digit -/
def pl (g : Nat → Nat) : Nat → Nat → Nat
  | _, 0 => 0
  | i, k + 1 => g i + 16 * pl g (i + 1) k
theorem pl_dig {g : Nat → Nat} (hg : ∀ n, g n < 16) : ∀ (j i k : Nat), j < k → pl g i k / 2 ^ (4 * j) % 16 = g (i + j) := by
  intro j
  induction j with
  | zero =>
    intro i k hk
    obtain ⟨k, rfl⟩ : ∃ k', k = k' + 1 := ⟨k - 1, by omega⟩
    have := hg i
    simp only [pl, Nat.mul_zero, Nat.pow_zero, Nat.div_one, Nat.add_zero]
    omega
  | succ j ih =>
    intro i k hk
    obtain ⟨k, rfl⟩ : ∃ k', k = k' + 1 := ⟨k - 1, by omega⟩
    have h := hg i
    have e : pl g i (k + 1) / 16 = pl g (i + 1) k := by simp only [pl]; omega
    rw [show 4 * (j + 1) = 4 + 4 * j by omega, Nat.pow_add, ← Nat.div_div_eq_div_mul, show 2 ^ 4 = 16 from rfl, e, ih (i + 1) k (by omega)]
    congr 1; omega
theorem pl_lt {g : Nat → Nat} (hg : ∀ n, g n < 16) : ∀ (k i : Nat), pl g i k < 2 ^ (4 * k) := by
  intro k
  induction k with
  | zero => intro i; exact Nat.one_pos
  | succ k ih =>
    intro i
    have a := ih (i + 1)
    have b := hg i
    have e : 2 ^ (4 * (k + 1)) = 16 * 2 ^ (4 * k) := by rw [show 4 * (k + 1) = 4 + 4 * k by omega, Nat.pow_add]
    simp only [pl]
    omega
theorem sm_front (h : Nat → Int) (k : Nat) : sm h (k + 1) = h 0 + sm (fun n => h (n + 1)) k := by
  induction k with
  | zero => simp only [sm]; omega
  | succ k ih =>
    have e1 : sm h (k + 1 + 1) = sm h (k + 1) + h (k + 1) := rfl
    have e2 : sm (fun n => h (n + 1)) (k + 1) = sm (fun n => h (n + 1)) k + h (k + 1) := rfl
    omega
theorem sm_mul (h : Nat → Int) (c : Int) (k : Nat) : sm (fun n => c * h n) k = c * sm h k := by
  induction k with
  | zero => simp only [sm]; omega
  | succ k ih => simp only [sm]; rw [ih, Int.mul_add]
theorem pk_pl {f : Nat → Int} (hf : ∀ n, 0 ≤ f n) : ∀ (k i : Nat), sm (fun n => f (i + n) * ((16 ^ n : Nat) : Int)) k = ((pl (fun n => (f n).toNat) i k : Nat) : Int) := by
  intro k
  induction k with
  | zero => intro i; rfl
  | succ k ih =>
    intro i
    rw [sm_front]
    have e : sm (fun n => f (i + (n + 1)) * ((16 ^ (n + 1) : Nat) : Int)) k = 16 * sm (fun n => f (i + 1 + n) * ((16 ^ n : Nat) : Int)) k := by
      rw [← sm_mul]
      refine sm_congr (fun n _ => ?_)
      rw [show i + (n + 1) = i + 1 + n by omega, Nat.pow_succ, Int.natCast_mul, Int.mul_comm ((16 ^ n : Nat) : Int), Int.mul_left_comm]
      rfl
    rw [e, ih (i + 1)]
    have := hf i
    simp only [pl]
    rw [Int.natCast_add, Int.natCast_mul]
    have : (((f i).toNat : Nat) : Int) = f i := by omega
    rw [this]
    show f (i + 0) * 1 + _ = _
    rw [Int.mul_one]
    rfl
theorem I_m15 (x : Nat) : II (x : Int) &&& 15 = II ((x % 16 : Nat) : Int) := by
  refine Int32.toBitVec_inj.mp (BitVec.eq_of_toNat_eq ?_)
  have e1 : (II (x : Int) &&& 15).toBitVec = BitVec.ofInt 32 (x : Int) &&& 15#32 := rfl
  have e2 : (II ((x % 16 : Nat) : Int)).toBitVec = BitVec.ofInt 32 ((x % 16 : Nat) : Int) := rfl
  rw [e1, e2, BitVec.ofInt_natCast, BitVec.ofInt_natCast, BitVec.toNat_and, BitVec.toNat_ofNat, BitVec.toNat_ofNat, BitVec.toNat_ofNat]
  have : 15 % 2 ^ 32 = 2 ^ 4 - 1 := by decide
  rw [this, Nat.and_two_pow_sub_one_eq_mod]
  omega
theorem row_dig {f : Nat → Int} (hf : ∀ n, 0 ≤ f n ∧ f n < 16) {n : Nat} (hn : n < 16) : (((LL (pk f)).toUInt64 >>> ((4 * II n).toInt64.toUInt64 &&& Int64.toUInt64 63)).toInt64).toInt32 &&& 15 = II (f n) := by
  have e := pk_pl (f := f) (fun n => (hf n).1) 16 0
  have e1 : pk f = sm (fun n => f (0 + n) * ((16 ^ n : Nat) : Int)) 16 := sm_congr (fun n _ => by rw [Nat.zero_add])
  have hg : ∀ n, (fun n => (f n).toNat) n < 16 := fun n => by have := hf n; show (f n).toNat < 16; omega
  have lt := pl_lt hg 16 0
  rw [e1, e, ← L_lN, I_lit, I_mul, show (4 : Int) * (n : Int) = ((4 * n : Nat) : Int) by omega, L_ushr (by omega) lt, L_lN, L_thin, I_m15, pl_dig hg n 0 16 hn]
  have := hf n
  rw [Nat.zero_add]
  show II (((f n).toNat : Nat) : Int) = _
  congr 1; omega
theorem inRow_ok {σ : St} {k0 N y c n : Nat} {G : GV} {post : Int32 → St → Prop} (hR : Rows σ k0 G N) (hG : GC G) (hy : y < N) (hy2 : y < 61) (hc : c < 12) (hn : n < 16) (hp : post (II (G (40 + y) c n)) σ) : wpX0_inRow k0 (II y) (II c) (II n) σ post := by
  have e := hR y hy c hc
  have hf : ∀ n, 0 ≤ G (40 + y) c n ∧ G (40 + y) c n < 16 := fun n => by
    refine ⟨hG.1 _ _ _, ?_⟩
    by_cases h : n < 16
    · have a := hG.2.2.1 (40 + y) c (by omega)
      have e2 := sm_mono (f := fun n => G (40 + y) c n) (a := n + 1) (b := 16) (by omega) (fun k _ => hG.1 _ _ _)
      have e3 := sm_nonneg (f := fun n => G (40 + y) c n) (n := n) (fun k _ => hG.1 _ _ _)
      have e4 : sm (fun n => G (40 + y) c n) (n + 1) = sm (fun n => G (40 + y) c n) n + G (40 + y) c n := rfl
      omega
    · rw [hG.2.2.2 _ _ _ (Or.inr (by omega))]; omega
  have d := row_dig (f := fun n => G (40 + y) c n) hf hn
  unfold wpX0_inRow
  have j : ((y : Int) * 12 + (c : Int)).toNat = y * 12 + c := by omega
  refine ⟨?_, ?_⟩
  · rw [I_lit, I_mul, I_add]; exact of_eq_true (I_in (by omega))
  · rw [show (II (y : Int) * 12 + II (c : Int)).toNatClampNeg = y * 12 + c by rw [I_lit, I_mul, I_add, I_cl (by omega), j], e, d]
    exact hp
