/-! bits of longs: rows of the kit's BITS, for pasting -/
theorem wb_tb (n : Nat) : (lN n).toBitVec = BitVec.ofNat 64 n := rfl
theorem wb_inj {a b : Int64} (h : a.toBitVec = b.toBitVec) : a = b := Int64.toBitVec_inj.mp h
theorem wb_tn {n : Nat} (h : n < 2 ^ 64) : (lN n).toBitVec.toNat = n := by rw [wb_tb, BitVec.toNat_ofNat, Nat.mod_eq_of_lt h]
theorem wb_of (x : Int64) : ∃ n, n < 2 ^ 64 ∧ x = lN n := ⟨x.toBitVec.toNat, x.toBitVec.isLt, wb_inj (by rw [wb_tb]; simp)⟩
theorem wb_of32 (x : Int32) : ∃ n, n < 2 ^ 32 ∧ x = nI n := ⟨x.toBitVec.toNat, x.toBitVec.isLt, Int32.toBitVec_inj.mp (by show _ = BitVec.ofNat 32 _; simp)⟩
theorem wb_c : ∀ k, k < 64 → ((nI k).toInt64 &&& 63) = lN k := by decide +kernel
theorem wb_cu : ∀ k, k < 64 → ((nI k).toInt64.toUInt64 &&& Int64.toUInt64 63) = UInt64.ofNat k := by decide +kernel
theorem wb_sm : ∀ k, k < 64 → (BitVec.ofNat 64 k).smod 64 = BitVec.ofNat 64 k := by decide +kernel
theorem wb_pw {a b : Nat} (h : a ≤ b) : 2 ^ b = 2 ^ a * 2 ^ (b - a) := by rw [← Nat.pow_add]; congr 1; omega
theorem wb_lt2 {a b : Nat} (h : a < b) : 2 ^ a < 2 ^ b := Nat.pow_lt_pow_right (by decide) h
theorem wb_mod (n : Nat) : lN n = lN (n % 2 ^ 64) := wb_inj (by rw [wb_tb, wb_tb]; apply BitVec.eq_of_toNat_eq; rw [BitVec.toNat_ofNat, BitVec.toNat_ofNat, Nat.mod_mod])
theorem wb_shr {n k : Nat} (hn : n < 2 ^ 64) (hk : k < 64) : ((lN n).toUInt64 >>> ((nI k).toInt64.toUInt64 &&& Int64.toUInt64 63)).toInt64 = lN (n / 2 ^ k) := by
  rw [wb_cu k hk]
  apply wb_inj
  apply BitVec.eq_of_toNat_eq
  show ((lN n).toUInt64 >>> UInt64.ofNat k).toNat = (BitVec.ofNat 64 _).toNat
  have h1 : (UInt64.ofNat k).toNat = k := by
    show (BitVec.ofNat 64 k).toNat = k
    rw [BitVec.toNat_ofNat, Nat.mod_eq_of_lt (by omega)]
  have h2 : (lN n).toUInt64.toNat = n := wb_tn hn
  rw [UInt64.toNat_shiftRight, h1, h2, Nat.mod_eq_of_lt hk, Nat.shiftRight_eq_div_pow, BitVec.toNat_ofNat, Nat.mod_eq_of_lt (Nat.lt_of_le_of_lt (Nat.div_le_self _ _) hn)]
theorem wb_shl (n : Nat) {k : Nat} (hk : k < 64) : lN n <<< ((nI k).toInt64 &&& 63) = lN (n * 2 ^ k) := by
  rw [wb_c k hk]
  apply wb_inj
  rw [Int64.toBitVec_shiftLeft, wb_tb, wb_tb, wb_tb, wb_sm k hk]
  apply BitVec.eq_of_toNat_eq
  rw [BitVec.shiftLeft_eq', BitVec.toNat_shiftLeft, BitVec.toNat_ofNat, BitVec.toNat_ofNat, BitVec.toNat_ofNat, Nat.mod_eq_of_lt (show k < 2 ^ 64 by omega), Nat.shiftLeft_eq, Nat.mul_mod, Nat.mod_mod, ← Nat.mul_mod]
theorem wb_and {a b : Nat} (ha : a < 2 ^ 64) (hb : b < 2 ^ 64) : lN a &&& lN b = lN (a &&& b) := by
  apply wb_inj
  rw [Int64.toBitVec_and, wb_tb, wb_tb, wb_tb]
  apply BitVec.eq_of_toNat_eq
  rw [BitVec.toNat_and, BitVec.toNat_ofNat, BitVec.toNat_ofNat, BitVec.toNat_ofNat, Nat.mod_eq_of_lt ha, Nat.mod_eq_of_lt hb, Nat.mod_eq_of_lt (Nat.and_lt_two_pow _ hb)]
theorem wb_or {a b : Nat} (ha : a < 2 ^ 64) (hb : b < 2 ^ 64) : lN a ||| lN b = lN (a ||| b) := by
  apply wb_inj
  rw [Int64.toBitVec_or, wb_tb, wb_tb, wb_tb]
  apply BitVec.eq_of_toNat_eq
  rw [BitVec.toNat_or, BitVec.toNat_ofNat, BitVec.toNat_ofNat, BitVec.toNat_ofNat, Nat.mod_eq_of_lt ha, Nat.mod_eq_of_lt hb, Nat.mod_eq_of_lt (Nat.or_lt_two_pow ha hb)]
theorem wb_mask {n k : Nat} (hn : n < 2 ^ 64) (hk : k < 64) : lN n &&& lN (2 ^ k - 1) = lN (n % 2 ^ k) := by
  rw [wb_and hn (by have := wb_lt2 hk; omega), Nat.and_two_pow_sub_one_eq_mod]
theorem u_tn {n : Nat} (h : n < 2 ^ 64) : (UInt64.ofNat n).toNat = n := Nat.mod_eq_of_lt h
theorem g_or {k p a b : Nat} (hp : 2 ^ k = p) (ha : a < p) (h : b * p + a < 2 ^ 64) : lN (b * p) ||| lN a = lN (b * p + a) := by
  subst hp
  have h1 : b * 2 ^ k ||| a = b * 2 ^ k + a := by rw [← Nat.shiftLeft_eq, Nat.shiftLeft_add_eq_or_of_lt ha]
  have h3 : UInt64.ofNat (b * 2 ^ k) ||| UInt64.ofNat a = UInt64.ofNat (b * 2 ^ k + a) := UInt64.toNat_inj.mp (by rw [UInt64.toNat_or, u_tn (by omega), u_tn (by omega), u_tn h, h1])
  have h2 := congrArg UInt64.toInt64 h3
  exact h2
theorem g_or' {k p a b : Nat} (hp : 2 ^ k = p) (ha : a < p) (h : a + b * p < 2 ^ 64) : lN a ||| lN (b * p) = lN (a + b * p) := by
  rw [Int64.or_comm, g_or hp ha (by omega), Nat.add_comm]

theorem sh_amt (k : Nat) (hk : k < 64) : (((II (k : Int)).toInt64 &&& 63).toBitVec.smod 64).toNat = k := by
  rw [← I_nI, wb_c k hk, wb_tb, wb_sm k hk, BitVec.toNat_ofNat, Nat.mod_eq_of_lt (by omega)]
theorem L_shr {a k : Nat} (hk : k < 64) (h : a < 2 ^ 63) : lN a >>> ((II (k : Int)).toInt64 &&& 63) = lN (a / 2 ^ k) := by
  have hd : a / 2 ^ k ≤ a := Nat.div_le_self _ _
  apply Int64.toInt_inj.mp
  have e : (lN a >>> ((II (k : Int)).toInt64 &&& 63)).toInt = (lN a).toInt >>> (((II (k : Int)).toInt64 &&& 63).toBitVec.smod 64).toNat := BitVec.toInt_sshiftRight ..
  rw [e, sh_amt k hk, Int.shiftRight_eq_div_pow, pk_lT (by omega), pk_lT (by omega)]
  rfl
theorem L_ushr {a k : Nat} (hk : k < 64) (h : a < 2 ^ 64) : ((lN a).toUInt64 >>> ((II (k : Int)).toInt64.toUInt64 &&& Int64.toUInt64 63)).toInt64 = lN (a / 2 ^ k) := by
  rw [← I_nI]; exact wb_shr h hk
theorem L_m31 {a : Nat} (h : a < 2 ^ 64) : lN a &&& 31 = lN (a % 32) := wb_mask (k := 5) h (by decide)
theorem L_shl (n : Nat) {k : Nat} (hk : k < 64) : lN n <<< ((II (k : Int)).toInt64 &&& 63) = lN (n * 2 ^ k) := by
  rw [← I_nI]; exact wb_shl n hk
theorem lN_II (n : Nat) : (lN n).toInt32 = II (n : Int) := by rw [L_lN, L_thin]
def le (u k : Nat) : Nat := u / 2 ^ (5 * k) % 32
theorem le_lt (u k : Nat) : le u k < 32 := Nat.mod_lt _ (by decide)
theorem rletterAt_ok {σ : St} {u k : Nat} {post : Int32 → St → Prop} (hu : u < 2 ^ 63) (hk : k ≤ 12) (hp : post (II (le u k)) σ) : wpX12_letterAt (lN u) (II k) σ post := by
  unfold wpX12_letterAt
  have e : (5 : Int32) * II (k : Int) = II ((5 * k : Nat) : Int) := by rw [I_lit, I_mul]; rfl
  rw [e, L_shr (by omega) hu, L_m31 (Nat.lt_of_le_of_lt (Nat.div_le_self _ _) (by omega)), lN_II]
  exact hp
theorem cletterAt_ok {σ : St} {u k : Nat} {post : Int32 → St → Prop} (hu : u < 2 ^ 64) (hk : k ≤ 12) (hp : post (II (96 + (le u k : Nat))) σ) : wpX5_letterAt (lN u) (II k) σ post := by
  unfold wpX5_letterAt
  have e : (5 : Int32) * II (k : Int) = II ((5 * k : Nat) : Int) := by rw [I_lit, I_mul]; rfl
  have hl := le_lt u k
  rw [e, L_ushr (by omega) hu, L_m31 (Nat.lt_of_le_of_lt (Nat.div_le_self _ _) (by omega)), lN_II]
  have e2 : (96 : Int32) + II ((u / 2 ^ (5 * k) % 32 : Nat) : Int) = nI (96 + le u k) := by rw [I_lit, I_add, I_nI]; rfl
  rw [e2, pk_char, pk_tn (by omega), Nat.mod_eq_of_lt (by omega), I_nI]
  exact hp
/-! a name's letters -/
def nlF (u : Nat) : Nat → Nat → Nat
  | 0, k => k
  | f + 1, k => if le u k = 0 then k else nlF u f (k + 1)
def nl (u : Nat) : Nat := nlF u 12 0
theorem nlF_spec (u f k : Nat) : k ≤ nlF u f k ∧ nlF u f k ≤ k + f ∧ (∀ j, k ≤ j → j < nlF u f k → le u j ≠ 0) ∧ (nlF u f k < k + f → le u (nlF u f k) = 0) := by
  induction f generalizing k with
  | zero => simp only [nlF]; exact ⟨Nat.le_refl _, Nat.le_refl _, fun j a b => absurd b (by omega), fun h => absurd h (by omega)⟩
  | succ f ih =>
    simp only [nlF]
    split
    · rename_i h
      exact ⟨Nat.le_refl _, by omega, fun j a b => absurd b (by omega), fun _ => h⟩
    · rename_i h
      obtain ⟨a, b, c, d⟩ := ih (k + 1)
      refine ⟨by omega, by omega, fun j j1 j2 => ?_, fun z => d (by omega)⟩
      by_cases e : j = k
      · subst e; exact h
      · exact c j (by omega) j2
theorem nl_spec (u : Nat) : nl u ≤ 12 ∧ (∀ j, j < nl u → le u j ≠ 0) ∧ (nl u < 12 → le u (nl u) = 0) := by
  obtain ⟨a, b, c, d⟩ := nlF_spec u 12 0
  exact ⟨by unfold nl; omega, fun j h => c j (by omega) h, fun h => d (by unfold nl at h; omega)⟩
theorem nl_eq {u n : Nat} (hn : n < 12) (h1 : ∀ j, j < n → le u j ≠ 0) (h2 : le u n = 0) : nl u = n := by
  obtain ⟨a, b, c⟩ := nl_spec u
  rcases Nat.lt_trichotomy (nl u) n with h | h | h
  · exact absurd (c (by omega)) (h1 _ h)
  · exact h
  · exact absurd h2 (b n h)
theorem size_ok {σ : St} {u : Nat} {post : Int32 → St → Prop} (hu : u < 2 ^ 63) (hp : post (II (nl u)) σ) : wpX12_size (lN u) σ post := by
  obtain ⟨a, b, c⟩ := nl_spec u
  unfold wpX12_size
  refine up (P := fun f i => wbX12_size_2 post f (lN u) (II i) σ) (nl u) ?_ ?_ 0 (by omega)
  · intro f
    simp (disch := omega) only [wbX12_size_2, I_lit, I_le]
    refine ⟨fun _ => hp, fun h => ?_⟩
    refine rletterAt_ok hu (by omega) ?_
    rw [c (by omega)]
    simp (disch := omega) only [I_le]
    exact ⟨fun _ => hp, fun z => absurd (by omega) z⟩
  · intro f i hi ih
    have h0 := b i hi
    have hl := le_lt u i
    simp (disch := omega) only [wbX12_size_2, I_lit, I_le, fe, I_add]
    refine ⟨fun z => absurd z (by omega), fun _ => ?_⟩
    refine rletterAt_ok hu (by omega) ?_
    simp (disch := omega) only [I_le]
    exact ⟨fun z => absurd z (by omega), fun _ => ih⟩
def good (u : Nat) : Prop := 2 ≤ nl u ∧ nl u ≤ 10 ∧ u < 2 ^ (5 * nl u) ∧ ∀ k, k < nl u → le u k < 27
theorem le_zero {u k : Nat} (h : u < 2 ^ (5 * k)) : le u k = 0 := by unfold le; rw [Nat.div_eq_of_lt h]
theorem lengthOf_ok {σ : St} {u : Nat} {post : Int32 → St → Prop} (hu : u < 2 ^ 64) (h1 : good u → post (II (nl u)) σ) (h0 : ¬ good u → post (II 0) σ) : wpX5_lengthOf (lN u) σ post := by
  obtain ⟨a, b, c⟩ := nl_spec u
  unfold wpX5_lengthOf
  have key := up (P := fun f i => (∀ j, j < i → le u j ≠ 0 ∧ le u j < 27) → wbX5_lengthOf_8 post f (lN (u / 2 ^ (5 * i))) (II i) (II i) σ) 10 ?_ ?_ 0 (by omega)
  · obtain ⟨f, hf⟩ := key
    have := hf (fun j hj => absurd hj (by omega))
    simp only [Nat.mul_zero, Nat.pow_zero, Nat.div_one] at this
    exact ⟨f, this⟩
  · intro f hj
    have hd : u / 2 ^ (5 * 10) ≤ u := Nat.div_le_self _ _
    simp (disch := omega) only [wbX5_lengthOf_8, wbX5_lengthOf_59, I_lit, I_le, I_lt]
    refine ⟨fun _ => ⟨fun z => h0 ?_, fun z => ⟨fun y => absurd y (by omega), fun _ => ?_⟩⟩, fun z => absurd (by omega) z⟩
    · intro g
      apply z
      have : nl u = 10 := by
        rcases Nat.lt_or_ge (nl u) 10 with h | h
        · exact absurd (c (by omega)) (hj _ h).1
        · have := g.2.1; omega
      have g3 := g.2.2.1
      rw [this] at g3
      rw [Nat.div_eq_of_lt g3]; rfl
    · have z2 : u / 2 ^ (5 * 10) = 0 := by
        have := congrArg (fun x : Int64 => x.toBitVec.toNat) z
        simp only [wb_tn (show u / 2 ^ (5 * 10) < 2 ^ 64 by omega)] at this
        exact this
      have hlt : u < 2 ^ (5 * 10) := by
        rcases Nat.lt_or_ge u (2 ^ (5 * 10)) with h | h
        · exact h
        · have := Nat.div_pos h (by decide); omega
      have hn : nl u = 10 := nl_eq (by omega) (fun j h => (hj j h).1) (le_zero hlt)
      have := h1 ⟨by omega, by omega, by rw [hn]; exact hlt, fun k hk => (hj k (by omega)).2⟩
      rw [hn] at this; exact this
  · intro f i hi ih hj
    have hd : u / 2 ^ (5 * i) ≤ u := Nat.div_le_self _ _
    have hle : u / 2 ^ (5 * i) % 32 = le u i := rfl
    have hll := le_lt u i
    have e5 : ((lN (u / 2 ^ (5 * i))).toUInt64 >>> ((5 : Int32).toInt64.toUInt64 &&& Int64.toUInt64 63)).toInt64 = lN (u / 2 ^ (5 * (i + 1))) := by
      have := L_ushr (a := u / 2 ^ (5 * i)) (k := 5) (by decide) (by omega)
      rw [Nat.div_div_eq_div_mul, ← Nat.pow_add] at this
      rw [show 5 * (i + 1) = 5 * i + 5 by omega]
      exact this
    have hz : (lN (u / 2 ^ (5 * i)) = 0) ↔ u < 2 ^ (5 * i) := by
      refine ⟨fun z => ?_, fun z => by rw [Nat.div_eq_of_lt z]; rfl⟩
      have := congrArg (fun x : Int64 => x.toBitVec.toNat) z
      simp only [wb_tn (show u / 2 ^ (5 * i) < 2 ^ 64 by omega)] at this
      rcases Nat.lt_or_ge u (2 ^ (5 * i)) with h | h
      · exact h
      · have h2 := Nat.div_pos h (Nat.pow_pos (by decide)); 
        have h3 : u / 2 ^ (5 * i) = 0 := this
        omega
    have h31 : lN (u / 2 ^ (5 * i)) &&& 31 = LL (le u i) := by rw [L_m31 (by omega), L_lN]; rfl
    have c1 : (LL (le u i) < 1) = ((le u i : Int) < 1) := L_lt (a := le u i) (b := 1) (by omega)
    have c26 : (LL (le u i) ≤ 26) = ((le u i : Int) ≤ 26) := L_le (a := le u i) (b := 26) (by omega)
    simp only [wbX5_lengthOf_8, wbX5_lengthOf_59, fe, e5, h31, c1, c26]
    simp (disch := omega) only [I_lit, I_le, I_lt, I_add]
    refine ⟨fun z => absurd z (by omega), fun _ => ⟨fun z => ⟨fun y => absurd z y, fun _ => ⟨fun y => h0 ?_, fun y => ?_⟩⟩, fun z => ⟨fun y => h0 ?_, fun y => ⟨fun w => ?_, fun w => h0 ?_⟩⟩⟩⟩
    · intro g
      have hlt := hz.mp z
      have hn : nl u = i := nl_eq (by omega) (fun j h => (hj j h).1) (le_zero hlt)
      have := g.1; omega
    · have hlt := hz.mp z
      have hn : nl u = i := nl_eq (by omega) (fun j h => (hj j h).1) (le_zero hlt)
      have := h1 ⟨by omega, by omega, by rw [hn]; exact hlt, fun k hk => (hj k (by omega)).2⟩
      rw [hn] at this; exact this
    · intro g
      have hn : nl u = i := nl_eq (by omega) (fun j h => (hj j h).1) (by omega)
      have := g.2.2.1
      rw [hn] at this
      exact z (hz.mpr this)
    · refine ih (fun j hj' => ?_)
      by_cases e : j = i
      · subst e; omega
      · exact hj j (by omega)
    · intro g
      have : i < nl u := by
        rcases Nat.lt_or_ge i (nl u) with h | h
        · exact h
        · have h2 := c (by omega)
          by_cases e : nl u = i
          · rw [e] at h2; omega
          · exact absurd h2 (hj _ (by omega)).1
      have := g.2.2.2 i this
      omega
