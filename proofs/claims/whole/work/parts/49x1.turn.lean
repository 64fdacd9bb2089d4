/-! turnover -/
theorem pc_split (a b : Nat) (ha : a < 256) : ∀ k, pc (b * 256 + a) (8 + k) = pc a 8 + pc b k := by
  intro k
  have e : ∀ j, (b * 256 + a).testBit j = if j < 8 then a.testBit j else b.testBit (j - 8) := fun j => by
    have := Nat.testBit_two_pow_mul_add b (b := a) (i := 8) (by omega) j
    rw [show 2 ^ 8 * b + a = b * 256 + a by omega] at this
    exact this
  induction k with
  | zero => exact pc_congr (fun j hj => by rw [e, if_pos hj])
  | succ k ih =>
    have e2 : (b * 256 + a).testBit (8 + k) = b.testBit k := by rw [e, if_neg (by omega), show 8 + k - 8 = k by omega]
    show pc (b * 256 + a) (8 + k) + (if (b * 256 + a).testBit (8 + k) = true then 1 else 0) = pc a 8 + (pc b k + (if b.testBit k = true then 1 else 0))
    rw [ih, e2]
    omega
theorem bcf_pc {x : Nat} (h : x < 65536) : bcf x = pc x 16 := by
  have e : x = x / 256 * 256 + x % 256 := by omega
  have h1 := bcf_split (x / 256) (by omega) (x % 256) (by omega)
  have h2 := pc_split (x % 256) (x / 256) (by omega) 8
  rw [← e] at h1 h2
  rw [h1, h2, bcf_byte _ (by omega), bcf_byte _ (by omega)]
theorem I_ush {a k : Nat} (h : a < 2147483648) (hk : k < 31) (n : Int32) (hn : (n.toUInt32 &&& Int32.toUInt32 31) = UInt32.ofNat k) : ((II (a : Int)).toUInt32 >>> (n.toUInt32 &&& Int32.toUInt32 31)).toInt32 = II ((a / 2 ^ k : Nat) : Int) := by
  rw [hn, ← I_nI, ← I_nI]
  apply Int32.toBitVec_inj.mp
  apply BitVec.eq_of_toNat_eq
  show ((nI a).toUInt32 >>> UInt32.ofNat k).toNat = (BitVec.ofNat 32 _).toNat
  have h1 : (UInt32.ofNat k).toNat = k := by
    show (BitVec.ofNat 32 k).toNat = k
    rw [BitVec.toNat_ofNat, Nat.mod_eq_of_lt (by omega)]
  have h2 : (nI a).toUInt32.toNat = a := by
    show (BitVec.ofNat 32 a).toNat = a
    rw [BitVec.toNat_ofNat, Nat.mod_eq_of_lt (by omega)]
  rw [UInt32.toNat_shiftRight, h1, h2, Nat.mod_eq_of_lt (show k < 32 by omega), Nat.shiftRight_eq_div_pow, BitVec.toNat_ofNat, Nat.mod_eq_of_lt (Nat.lt_of_le_of_lt (Nat.div_le_self _ _) (by omega))]
theorem I_and {a b : Nat} : II (a : Int) &&& II (b : Int) = II ((a &&& b : Nat) : Int) := by
  rw [← I_nI, ← I_nI, ← I_nI]
  apply Int32.toBitVec_inj.mp
  show BitVec.ofNat 32 a &&& BitVec.ofNat 32 b = BitVec.ofNat 32 (a &&& b)
  apply BitVec.eq_of_toNat_eq
  rw [BitVec.toNat_and, BitVec.toNat_ofNat, BitVec.toNat_ofNat, BitVec.toNat_ofNat]
  apply Nat.eq_of_testBit_eq
  intro i
  simp only [Nat.testBit_and, Nat.testBit_mod_two_pow]
  cases decide (i < 32) <;> simp
theorem bitCount_ok {σ : St} {x : Nat} {post : Int32 → St → Prop} (hx : x < 65536) (hp : post (II (pc x 16 : Nat)) σ) : wpJ6_bitCount_0f7a4 (II x) σ post := by
  unfold wpJ6_bitCount_0f7a4
  simp only [fe]
  have u1 : ∀ a : Nat, a < 2147483648 → ((II (a : Int)).toUInt32 >>> ((1 : Int32).toUInt32 &&& Int32.toUInt32 31)).toInt32 = II ((a / 2 ^ 1 : Nat) : Int) := fun a ha => I_ush ha (by decide) 1 (by decide)
  have u2 : ∀ a : Nat, a < 2147483648 → ((II (a : Int)).toUInt32 >>> ((2 : Int32).toUInt32 &&& Int32.toUInt32 31)).toInt32 = II ((a / 2 ^ 2 : Nat) : Int) := fun a ha => I_ush ha (by decide) 2 (by decide)
  have u4 : ∀ a : Nat, a < 2147483648 → ((II (a : Int)).toUInt32 >>> ((4 : Int32).toUInt32 &&& Int32.toUInt32 31)).toInt32 = II ((a / 2 ^ 4 : Nat) : Int) := fun a ha => I_ush ha (by decide) 4 (by decide)
  have u8 : ∀ a : Nat, a < 2147483648 → ((II (a : Int)).toUInt32 >>> ((8 : Int32).toUInt32 &&& Int32.toUInt32 31)).toInt32 = II ((a / 2 ^ 8 : Nat) : Int) := fun a ha => I_ush ha (by decide) 8 (by decide)
  have u16 : ∀ a : Nat, a < 2147483648 → ((II (a : Int)).toUInt32 >>> ((16 : Int32).toUInt32 &&& Int32.toUInt32 31)).toInt32 = II ((a / 2 ^ 16 : Nat) : Int) := fun a ha => I_ush ha (by decide) 16 (by decide)
  have k1 : (1431655765 : Int32) = II ((1431655765 : Nat) : Int) := rfl
  have k2 : (858993459 : Int32) = II ((858993459 : Nat) : Int) := rfl
  have k3 : (252645135 : Int32) = II ((252645135 : Nat) : Int) := rfl
  have k4 : (63 : Int32) = II ((63 : Nat) : Int) := rfl
  have le_and : ∀ a b : Nat, a &&& b ≤ a := fun a b => Nat.and_le_left
  obtain ⟨v1, e1⟩ : ∃ v, v = x - ((x / 2 ^ 1) &&& 1431655765) := ⟨_, rfl⟩
  obtain ⟨v2, e2⟩ : ∃ v, v = (v1 &&& 858993459) + ((v1 / 2 ^ 2) &&& 858993459) := ⟨_, rfl⟩
  obtain ⟨v3, e3⟩ : ∃ v, v = (v2 + v2 / 2 ^ 4) &&& 252645135 := ⟨_, rfl⟩
  obtain ⟨v4, e4⟩ : ∃ v, v = v3 + v3 / 2 ^ 8 := ⟨_, rfl⟩
  have b1 : v1 < 65536 := by omega
  have a1 := le_and (x / 2 ^ 1) 1431655765
  have a2 := le_and v1 858993459
  have a3 := le_and (v1 / 2 ^ 2) 858993459
  have d3 := Nat.div_le_self v1 (2 ^ 2)
  have b2 : v2 < 200000 := by omega
  have a4 := le_and (v2 + v2 / 2 ^ 4) 252645135
  have d4 := Nat.div_le_self v2 (2 ^ 4)
  have b3 : v3 < 400000 := by omega
  have d5 := Nat.div_le_self v3 (2 ^ 8)
  have b4 : v4 < 800000 := by omega
  have d1 := Nat.div_le_self x (2 ^ 1)
  rw [u1 x (by omega), k1, I_and, I_sub, show ((x : Nat) : Int) - ((x / 2 ^ 1 &&& 1431655765 : Nat) : Int) = ((v1 : Nat) : Int) by omega, u2 v1 (by omega), k2, I_and, I_and, I_add, show ((v1 &&& 858993459 : Nat) : Int) + ((v1 / 2 ^ 2 &&& 858993459 : Nat) : Int) = ((v2 : Nat) : Int) by omega, u4 v2 (by omega), I_add, ← Int.natCast_add, k3, I_and, ← e3, u8 v3 (by omega), I_add, ← Int.natCast_add, ← e4, u16 v4 (by omega), I_add, ← Int.natCast_add, k4, I_and]
  have : (v4 + v4 / 2 ^ 16) &&& 63 = bcf x := by rw [e4, e3, e2, e1]; rfl
  rw [this, bcf_pc hx]
  exact hp
theorem I_andn {a b : Nat} (ha : a < 65536) : II (a : Int) &&& (II (b : Int) ^^^ II (-1)) = II ((a &&& (b ^^^ 65535) : Nat) : Int) := by
  rw [← I_nI, ← I_nI, ← I_nI]
  apply Int32.toBitVec_inj.mp
  show BitVec.ofNat 32 a &&& (BitVec.ofNat 32 b ^^^ BitVec.ofInt 32 (-1)) = BitVec.ofNat 32 (a &&& (b ^^^ 65535))
  rw [show BitVec.ofInt 32 (-1) = BitVec.allOnes 32 by decide]
  apply BitVec.eq_of_toNat_eq
  rw [BitVec.toNat_and, BitVec.toNat_xor, BitVec.toNat_allOnes, BitVec.toNat_ofNat, BitVec.toNat_ofNat, BitVec.toNat_ofNat]
  apply Nat.eq_of_testBit_eq
  intro i
  rw [show 65535 = 2 ^ 16 - 1 from rfl]
  simp only [Nat.testBit_and, Nat.testBit_xor, Nat.testBit_mod_two_pow, Nat.testBit_two_pow_sub_one]
  by_cases c : i < 16
  · simp [c, show i < 32 by omega]
  · have : a.testBit i = false := Nat.testBit_lt_two_pow (Nat.lt_of_lt_of_le ha (show 65536 ≤ 2 ^ i from Nat.le_trans (by decide) (Nat.pow_le_pow_right (by decide) (show 16 ≤ i by omega))))
    simp [this]
