/-! queries: lag -/
theorem run_GN {K : KT} (h0 : GN (G0 K.1 (kn K)) (kn K)) (y : Nat) : GN (run K y) (kn K) := by
  induction y with
  | zero => exact h0
  | succ y ih => exact GN_yr ih y 12
def thd (G : GV) (s Y n : Nat) : Int := if gT G (3 + s) Y = 0 then 0 else gt G Y (3 + s) n * 1000 / gT G (3 + s) Y
theorem gT_b {G : GV} (h : GB G) (g Y n : Nat) (hn : n < 16) : 0 ≤ gt G Y g n ∧ gt G Y g n ≤ gT G g Y ∧ gT G g Y ≤ 1919808 ∧ gt G Y g n ≤ 119988 := by
  have a := gt_nn h Y g n
  have e2 := sm_mono (f := fun n => gt G Y g n) (a := n + 1) (b := 16) (by omega) (fun k _ => gt_nn h Y g k)
  have e3 := sm_nonneg (f := fun n => gt G Y g n) (n := n) (fun k _ => gt_nn h Y g k)
  have e4 : sm (fun n => gt G Y g n) (n + 1) = sm (fun n => gt G Y g n) n + gt G Y g n := rfl
  have e5 := sm_le (f := fun n => gt G Y g n) (n := 16) (B := 119988) (fun k _ => gt_le h Y g k)
  have e6 := gt_le h Y g n
  have e7 : gT G g Y = sm (fun n => gt G Y g n) 16 := rfl
  omega
theorem thd_in {G : GV} (h : GB G) (s Y n : Nat) (hn : n < 16) : 0 ≤ thd G s Y n ∧ thd G s Y n ≤ 1000 := by
  have b := gT_b h (3 + s) Y n hn
  unfold thd
  by_cases c : gT G (3 + s) Y = 0
  · rw [if_pos c]; omega
  · rw [if_neg c]
    refine ⟨Int.ediv_nonneg (by omega) (by omega), Int.ediv_le_of_le_mul (by omega) ?_⟩
    have := Int.mul_le_mul_of_nonneg_left b.2.1 (show (0 : Int) ≤ 1000 by omega)
    omega
theorem thd_z {G : GV} {N : Nat} (h : GN G N) (s Y n : Nat) (hn : N ≤ n) : thd G s Y n = 0 := by
  have : gt G Y (3 + s) n = 0 := sm_zero (fun c _ => by rw [h Y c n hn]; split <;> rfl)
  unfold thd
  rw [this]
  split
  · rfl
  · rw [Int.zero_mul, Int.zero_ediv]
def ab (x : Int) : Int := if 0 ≤ x then x else -x
def hL (G : GV) (k y n : Nat) : Int := ab (thd G 0 (40 + y) n - thd G 1 (40 + (y + k)) n)
theorem hL_in {G : GV} (h : GB G) (k y n : Nat) (hn : n < 16) : 0 ≤ hL G k y n ∧ hL G k y n ≤ 1000 := by
  have a := thd_in h 0 (40 + y) n hn
  have b := thd_in h 1 (40 + (y + k)) n hn
  unfold hL ab
  split <;> omega
def sL2 (G : GV) (k v : Nat) : Int := sm (fun y => sm (fun n => hL G k y n) 16) v
theorem sL2_flat (G : GV) (k v : Nat) : sm (fun x => hL G k (x / 16) (x % 16)) (v * 16) = sL2 G k v := by
  unfold sL2
  induction v with
  | zero => rfl
  | succ v ih =>
    rw [show (v + 1) * 16 = v * 16 + 16 by omega, sm_split, ih]
    have : sm (fun j => hL G k ((v * 16 + j) / 16) ((v * 16 + j) % 16)) 16 = sm (fun n => hL G k v n) 16 := sm_congr (fun j hj => by rw [show (v * 16 + j) / 16 = v by omega, show (v * 16 + j) % 16 = j by omega])
    rw [this]
    rfl
theorem sL2_in {G : GV} (h : GB G) (k v : Nat) (hv : v ≤ 61) : 0 ≤ sL2 G k v ∧ sL2 G k v ≤ 976000 := by
  have b : ∀ y, 0 ≤ sm (fun n => hL G k y n) 16 ∧ sm (fun n => hL G k y n) 16 ≤ 16000 := fun y => by
    have b1 := sm_nonneg (f := fun n => hL G k y n) (n := 16) (fun n hn => (hL_in h k y n hn).1)
    have b2 := sm_le (f := fun n => hL G k y n) (n := 16) (B := 1000) (fun n hn => (hL_in h k y n hn).2)
    omega
  have c1 := sm_nonneg (f := fun y => sm (fun n => hL G k y n) 16) (n := v) (fun y _ => (b y).1)
  have c2 := sm_le (f := fun y => sm (fun n => hL G k y n) 16) (n := v) (B := 16000) (fun y _ => (b y).2)
  unfold sL2
  omega
def dL (G : GV) (M : Int) (k : Nat) : Int := if (k : Int) < M then sL2 G k (M - k).toNat / (M - k) else -1
theorem dL_in {G : GV} (h : GB G) {M : Int} (hM : M ≤ 61) (k : Nat) : ((k : Int) < M → 0 ≤ dL G M k) ∧ (¬ (k : Int) < M → dL G M k = -1) ∧ -1 ≤ dL G M k ∧ dL G M k ≤ 976000 := by
  have b := sL2_in h k (M - k).toNat (by omega)
  unfold dL
  by_cases c : (k : Int) < M
  · rw [if_pos c]
    have d1 : 0 ≤ sL2 G k (M - k).toNat / (M - k) := Int.ediv_nonneg b.1 (by omega)
    have d2 : sL2 G k (M - k).toNat / (M - k) ≤ sL2 G k (M - k).toNat := Int.ediv_le_self _ b.1
    exact ⟨fun _ => d1, fun z => absurd c z, by omega, by omega⟩
  · rw [if_neg c]
    exact ⟨fun z => absurd z c, fun _ => rfl, by omega, by omega⟩
theorem apartBy_ok {σ : St} {G : GV} {M : Int} {k : Nat} {post : Int32 → St → Prop} (hG : GB G) (h9 : gI σ 9 0 = II M) (hM : 0 ≤ M ∧ M ≤ 61) (hk : k ≤ 20) (h5 : ∀ y : Nat, (y : Int) < M → ∀ n, n < 16 → gI σ 55 (y * 16 + n) = II (thd G 0 (40 + y) n) ∧ gI σ 56 (y * 16 + n) = II (thd G 1 (40 + y) n)) (hp : post (II (dL G M k)) σ) : wpX10_apartBy (II k) σ post := by
  unfold wpX10_apartBy
  simp (disch := omega) only [fe, h9, I_sub, I_lit, I_neg, I_le]
  refine ⟨fun q => ?_, fun q => ⟨fun _ => ?_, fun q2 => absurd (by omega) q2⟩⟩
  · rw [show dL G M k = -1 from if_neg (by omega)] at hp; exact hp
  · have hd : dL G M k = sL2 G k (M - k).toNat / (M - k) := if_pos (by omega)
    rw [hd] at hp
    have b := sL2_in hG k (M - k).toNat (by omega)
    refine up (P := fun f i => wbX10_apartBy_25 post f (II k) (II (M - k)) (II (sm (fun x => hL G k (x / 16) (x % 16)) i)) (II i) σ) ((M - k).toNat * 16) ?_ ?_ 0 (by omega)
    · intro f
      rw [sL2_flat]
      simp (disch := omega) only [wbX10_apartBy_25, I_lit, I_mul, I_le, I_eq, I_div]
      exact ⟨fun _ => ⟨by omega, hp⟩, fun q2 => absurd (by omega) q2⟩
    · intro f i hi ih
      have es : sm (fun x => hL G k (x / 16) (x % 16)) (i + 1) = sm (fun x => hL G k (x / 16) (x % 16)) i + hL G k (i / 16) (i % 16) := rfl
      have x1 := (h5 (i / 16) (by omega) (i % 16) (by omega)).1
      have x2 := (h5 (i / 16 + k) (by omega) (i % 16) (by omega)).2
      rw [show i / 16 * 16 + i % 16 = i by omega] at x1
      rw [show (i / 16 + k) * 16 + i % 16 = k * 16 + i by omega] at x2
      have a1 := thd_in hG 0 (40 + i / 16) (i % 16) (by omega)
      have a2 := thd_in hG 1 (40 + (i / 16 + k)) (i % 16) (by omega)
      have j1 : ((k : Int) * 16 + (i : Int)).toNat = k * 16 + i := by omega
      simp (disch := omega) only [wbX10_apartBy_25, I_lit, I_mul, I_add, I_le, I_in, true_and, I_cl, Int.toNat_natCast, fe, j1, x1, x2, I_sub]
      refine ⟨fun q2 => absurd q2 (by omega), fun _ => ?_⟩
      have eh : (if 0 ≤ thd G 0 (40 + i / 16) (i % 16) - thd G 1 (40 + (i / 16 + k)) (i % 16) then II (thd G 0 (40 + i / 16) (i % 16) - thd G 1 (40 + (i / 16 + k)) (i % 16)) else II (0 - (thd G 0 (40 + i / 16) (i % 16) - thd G 1 (40 + (i / 16 + k)) (i % 16)))) = II (hL G k (i / 16) (i % 16)) := by
        unfold hL ab
        split
        · rfl
        · rw [Int.zero_sub]
      rw [eh, I_add]
      rw [es] at ih; exact ih
