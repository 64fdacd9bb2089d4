/-! the class's cells of names and land -/
def CN (σ : St) (K : KT) : Prop :=
  gI σ 1 0 = II (K.1 1) ∧ (∀ n, n < kn K → gI σ 4 n = II (K.1 (30 + n)) ∧ gI σ 5 n = II (K.1 (1900 + n)) ∧ gI σ 3 n = II (kl K n) ∧ 0 ≤ kl K n ∧ kl K n ≤ 12) ∧ (∀ i, i < kn K → ∀ j, j < kn K → (gL σ 6 i = gL σ 6 j ↔ kE K i j = true))
def CL (σ : St) (m : MT) : Prop :=
  gI σ 9 0 = II (m 0) ∧ gI σ 9 1 = II (m 6) ∧ gI σ 9 8 = II (m 2) ∧ gI σ 9 11 = II (m 3) ∧
  (∀ Y, Y < 40 → ∀ c, c < 12 → ∀ n, n < 16 → gI σ 10 ((Y * 12 + c) * 16 + n) = II (m (2000 + (39 - Y) * 192 + c * 16 + n))) ∧
  (∀ c, c < 12 → gI σ 11 c = II (m (10 + c))) ∧
  (∀ y : Nat, (y : Int) < m 0 → ∀ c, c < 12 → gI σ 12 (y * 12 + c) = II (m (1000 + 14 * y + c))) ∧
  (∀ s, s < 2 → gI σ 13 s = II (m (7 + s))) ∧
  (∀ y : Nat, (y : Int) < m 0 → ∀ s, s < 2 → gI σ 14 (y * 2 + s) = II (m (1000 + 14 * y + 12 + s))) ∧
  (∀ k : Nat, (k : Int) < m 2 → gI σ 16 k = II (m (50 + 2 * k)) ∧ gI σ 17 k = II (m (50 + 2 * k + 1))) ∧
  (∀ k : Nat, (k : Int) < m 3 → gI σ 18 k = II (m (70 + 3 * k)) ∧ gI σ 19 k = II (m (70 + 3 * k + 1)) ∧ gI σ 20 k = II (m (70 + 3 * k + 2)))
def CE : List Nat := [1, 2, 3, 4, 5, 6, 7, 8, 9, 10, 11, 12, 13, 14, 16, 17, 18, 19, 20]
def Eqc (σ τ : St) : Prop := ∀ q, q ∈ CE → τ q = σ q
theorem CN_eq {σ τ : St} {K : KT} (h : CN σ K) (e : Eqc σ τ) : CN τ K := by
  obtain ⟨h1, h2, h3⟩ := h
  refine ⟨by rw [gI_of (e 1 (by decide))]; exact h1, fun n hn => by rw [gI_of (e 3 (by decide)), gI_of (e 4 (by decide)), gI_of (e 5 (by decide))]; exact h2 n hn, fun i hi j hj => by rw [gL_of (e 6 (by decide)), gL_of (e 6 (by decide))]; exact h3 i hi j hj⟩
theorem CL_eq {σ τ : St} {m : MT} (h : CL σ m) (e : Eqc σ τ) : CL τ m := by
  obtain ⟨h1, h2, h3, h4, h5, h6, h7, h8, h9, h10, h11⟩ := h
  refine ⟨?_, ?_, ?_, ?_, ?_, ?_, ?_, ?_, ?_, ?_, ?_⟩
  · rw [gI_of (e 9 (by decide))]; exact h1
  · rw [gI_of (e 9 (by decide))]; exact h2
  · rw [gI_of (e 9 (by decide))]; exact h3
  · rw [gI_of (e 9 (by decide))]; exact h4
  · intro Y a c b n d; rw [gI_of (e 10 (by decide))]; exact h5 Y a c b n d
  · intro c b; rw [gI_of (e 11 (by decide))]; exact h6 c b
  · intro y a c b; rw [gI_of (e 12 (by decide))]; exact h7 y a c b
  · intro c b; rw [gI_of (e 13 (by decide))]; exact h8 c b
  · intro y a c b; rw [gI_of (e 14 (by decide))]; exact h9 y a c b
  · intro k a; rw [gI_of (e 16 (by decide)), gI_of (e 17 (by decide))]; exact h10 k a
  · intro k a; rw [gI_of (e 18 (by decide)), gI_of (e 19 (by decide)), gI_of (e 20 (by decide))]; exact h11 k a
def lst (m : MT) (y : Nat) : Int := if lsn m y (m 2).toNat = 0 then 65535 else lsn m y (m 2).toNat
theorem listedIn_ok {σ : St} {m : MT} {y : Nat} {post : Int32 → St → Prop} (h : CL σ m) (hW : WFm m) (hy : y ≤ 61) (hp : post (II (lst m y)) σ) : wpX4_listedIn (II y) σ post := by
  have w2 := hW.2.2.1
  have h3 := h.2.2.1
  have h10 := h.2.2.2.2.2.2.2.2.2.1
  simp (disch := omega) only [wpX4_listedIn, fe, h3, I_lit, I_sub]
  have key := dn (P := fun f k => (k : Int) ≤ m 2 → lsn m y (m 2).toNat = lsn m y k → wbX4_listedIn_7 post f (II y) (II ((k : Int) - 1)) σ) ?_ ?_ (m 2).toNat
  · obtain ⟨f, hf⟩ := key
    have := hf (by omega) rfl
    rw [show (((m 2).toNat : Nat) : Int) = m 2 by omega] at this
    exact ⟨f, this⟩
  · intro f _ hl
    simp (disch := omega) only [wbX4_listedIn_7, I_lit, I_lt]
    refine ⟨fun _ => ?_, fun z => absurd (by omega) z⟩
    unfold lst at hp
    rw [hl] at hp
    exact hp
  · intro f k ih hk hl
    obtain ⟨a1, a2⟩ := h10 k (by omega)
    have b := hW.2.2.2.2.2.2.2.2.2.2.1 k (by omega)
    rw [show ((k + 1 : Nat) : Int) - 1 = (k : Int) by omega]
    have hs : lsn m y (k + 1) = if m (50 + 2 * k) ≤ y then m (50 + 2 * k + 1) else lsn m y k := rfl
    simp (disch := omega) only [wbX4_listedIn_7, I_lit, I_lt, I_in, true_and, I_cl, Int.toNat_natCast, a1, a2, fe, I_add, I_eq, I_neg]
    refine ⟨fun z => absurd z (by omega), fun _ => ⟨fun c => ?_, fun c => ?_⟩⟩
    · rw [if_neg (by omega)] at hs
      rw [show (k : Int) + -1 = (k : Int) - 1 by omega]
      exact ih (by omega) (hl.trans hs)
    · rw [if_pos (by omega)] at hs
      unfold lst at hp
      rw [hl, hs] at hp
      refine ⟨fun d => ?_, fun d => ?_⟩
      · rw [if_neg d] at hp; exact hp
      · rw [if_pos d] at hp; exact hp
def Jd (σ : St) (K : KT) (k0 t y p s x : Nat) : Prop := gR σ 47 5 = some (30 + 2 * t) ∧ gR σ 47 8 = some (21 + 4 * k0) ∧ gI σ 47 9 = II y ∧ gI σ 47 10 = II p ∧ gI σ 47 11 = II s ∧ gI σ 47 12 = II x ∧ gI σ 47 13 = II (lst K.1 y) ∧ gI σ 47 6 = II (kw K) ∧ gI σ 47 7 = II (if kq K then 1 else 0)
theorem bit_all : ∀ n : Nat, n < 16 → bit 65535 n = true := by decide
theorem fits_ok {σ : St} {K : KT} {k0 t y p s x n : Nat} {post : Int32 → St → Prop} (h : CN σ K) (hW : WFm K.1) (hJ : Jd σ K k0 t y p s x) (hy : y ≤ 61) (hx : x < 2) (hn : n < kn K)
    (hp : post (II (if ft K y x n then 1 else 0)) σ) : wpX3_fits (II n) σ post := by
  have w1 := hW.2.1
  have w0 := hW.1
  have w2 := hW.2.2.1
  have kn16 : kn K ≤ 16 := by unfold kn; omega
  have kne : K.1 1 = (kn K : Int) := by unfold kn; omega
  obtain ⟨a1, a2, -⟩ := h.2.1 n hn
  obtain ⟨-, -, j9, -, -, j12, j13, -, -⟩ := hJ
  have nn := hW.2.2.2.2.2.2.2.2.2.1 n (by omega)
  have hl := lsn_in hW y (K.1 2).toNat (by omega)
  have hl2 : 0 ≤ lst K.1 y ∧ lst K.1 y < 65536 := by unfold lst; split <;> omega
  have hbl : bit (lst K.1 y) n = (lsn K.1 y (K.1 2).toNat == 0 || bit (lsn K.1 y (K.1 2).toNat) n) := by
    unfold lst
    split
    · rename_i e; rw [e, bit_all n (by omega)]; rfl
    · rename_i e; simp [e]
  unfold ft at hp
  rw [← hbl] at hp
  simp (disch := omega) only [wpX3_fits, I_in, true_and, I_cl, Int.toNat_natCast, j9, a2, I_lt, a1, j12, j13, I_lit, I_bit]
  refine ⟨fun c => ?_, fun c => ⟨fun c2 => ?_, fun c2 => ⟨fun c3 => ?_, fun c3 => ?_⟩⟩⟩
  · have : decide (K.1 (1900 + n) ≤ (y : Int)) = false := decide_eq_false (by omega)
    rw [this] at hp; exact hp
  · have : bit (K.1 (30 + n)) x = false := by simpa using c2
    rw [this] at hp; simpa using hp
  · have : bit (lst K.1 y) n = false := by simpa using c3
    rw [this] at hp; simpa using hp
  · have : decide (K.1 (1900 + n) ≤ (y : Int)) = true := decide_eq_true (by omega)
    rw [this, c2, c3] at hp; exact hp
theorem I_shr {l : Int} {k : Nat} (h : 0 ≤ l ∧ l < 2147483648 ∧ k < 31) : II l >>> (II (k : Int) &&& II 31) = II (l / ((2 ^ k : Nat) : Int)) := by
  have hd : ((II (k : Int) &&& II 31).toBitVec.smod 32).toNat = k := by
    have : ∀ d : Fin 32, ((Int32.ofInt (d.val : Int) &&& Int32.ofInt 31).toBitVec.smod 32).toNat = d.val := by decide +kernel
    exact this ⟨k, by omega⟩
  have hs := pk_shrN (n := l.toNat) (by omega) _ _ hd
  rw [I_nI, I_nI, show ((l.toNat : Nat) : Int) = l by omega, Int.natCast_ediv, show ((l.toNat : Nat) : Int) = l by omega] at hs
  exact hs
theorem cfilmOf_ok {σ : St} {m : MT} {n y : Nat} {w : Int} {post : Int32 → St → Prop} (hL : CL σ m) (hW : WFm m)
    (hn : n < 16) (hy : y ≤ 61) (hw : -1 ≤ w ∧ w < 8) (hp : post (II (flm m w y n)) σ) : wpX4_filmOf (II n) (II y) (II w) σ post := by
  have h3 := hW.2.2.2.1
  have hf := hW.2.2.2.2.2.2.2.2.2.2.2.1
  have e3 := hL.2.2.2.1
  have h11 := hL.2.2.2.2.2.2.2.2.2.2
  unfold wpX4_filmOf
  unfold flm at hp
  generalize hF : (fun k : Nat => if (k : Int) ≠ w ∧ m (70 + 3 * k) = n ∧ m (70 + 3 * k + 1) ≤ y then m (70 + 3 * k + 2) / ((2 ^ ((y : Int) - m (70 + 3 * k + 1)).toNat : Nat) : Int) else 0) = F at hp
  have hF' : ∀ k : Nat, F k = if (k : Int) ≠ w ∧ m (70 + 3 * k) = n ∧ m (70 + 3 * k + 1) ≤ y then m (70 + 3 * k + 2) / ((2 ^ ((y : Int) - m (70 + 3 * k + 1)).toNat : Nat) : Int) else 0 := fun k => by rw [← hF]
  refine up (P := fun f i => wbX4_filmOf_6 post f (II n) (II y) (II w) (II (sm F i)) (II i) σ) (m 3).toNat ?_ ?_ 0 (by omega)
  · intro f
    simp (disch := omega) only [wbX4_filmOf_6, e3, I_le]
    exact ⟨fun _ => hp, fun z => absurd (by omega) z⟩
  · intro f k hk ih
    obtain ⟨f1, f2, f3, f4, f5, f6⟩ := hf k (by omega)
    obtain ⟨a1, a2, a3⟩ := h11 k (by omega)
    simp (disch := omega) only [wbX4_filmOf_6, e3, I_le, I_in, true_and, I_cl, Int.toNat_natCast, a1, a2, a3, fe, I_sub, I_lit, I_add, I_eq, I_lt]
    have st : ∀ v : Int, v = F k → wbX4_filmOf_6 post f (II n) (II y) (II w) (II (sm F k + v)) (II ((k : Int) + 1)) σ := by
      intro v hv; subst hv; exact ih
    have st0 : F k = 0 → wbX4_filmOf_6 post f (II n) (II y) (II w) (II (sm F k)) (II ((k : Int) + 1)) σ := by
      intro c
      have := st 0 c.symm
      rwa [Int.add_zero] at this
    refine ⟨fun z => absurd z (by omega), fun _ => ⟨fun c => st0 (by rw [hF', if_neg (by omega)]), fun c1 => ⟨fun c => st0 (by rw [hF', if_neg (fun z => c z.2.1)]), fun c2 => ⟨fun c => st0 (by rw [hF', if_neg (by omega)]), fun c3 => ⟨fun c4 => st0 ?_, fun c4 => ?_⟩⟩⟩⟩⟩
    · rw [hF', if_pos ⟨c1, c2, by omega⟩]
      refine Int.ediv_eq_zero_of_lt (by omega) ?_
      have : 2 ^ 10 ≤ 2 ^ ((y : Int) - m (70 + 3 * k + 1)).toNat := Nat.pow_le_pow_right (by omega) (by omega)
      have e10 : (2 : Nat) ^ 10 = 1024 := by decide
      omega
    · have hs := I_shr (l := m (70 + 3 * k + 2)) (k := ((y : Int) - m (70 + 3 * k + 1)).toNat) (by omega)
      rw [show ((((y : Int) - m (70 + 3 * k + 1)).toNat : Nat) : Int) = (y : Int) - m (70 + 3 * k + 1) by omega] at hs
      rw [hs, I_add]
      refine st _ ?_
      rw [hF', if_pos ⟨c1, c2, by omega⟩]
theorem sameEnding_ok {σ : St} {K : KT} {i j : Nat} {post : Int32 → St → Prop} (h : CN σ K) (hk : kn K ≤ 16) (hi : i < kn K) (hj : j < kn K) (hp : post (II (if kE K i j then 1 else 0)) σ) : wpX5_sameEnding (II i) (II j) σ post := by
  have e := h.2.2 i hi j hj
  simp (disch := omega) only [wpX5_sameEnding, I_in, true_and, I_cl, Int.toNat_natCast, I_lit]
  refine ⟨fun c => ?_, fun c => ?_⟩
  · have : kE K i j = false := by
      cases hh : kE K i j with
      | false => rfl
      | true => exact absurd (e.mpr hh) c
    rw [this] at hp; exact hp
  · rw [e.mp c] at hp; exact hp
theorem heardOfEnding_ok {σ : St} {K : KT} {G : GV} {k0 t y p s x n : Nat} {post : Int32 → St → Prop} (h : CN σ K) (hW : WFm K.1) (hJ : Jd σ K k0 t y p s x) (hB : Bk σ k0 G y) (hk0 : k0 < 2) (hn : n < kn K) (hq : kq K = false)
    (hp : post (II (snd K G (40 + y) n)) σ) : wpX3_heardOfEnding (II n) σ post := by
  have w1 := hW.2.1
  have kn16 : kn K ≤ 16 := by unfold kn; omega
  have kne : K.1 1 = (kn K : Int) := by unfold kn; omega
  have hy : y ≤ 60 := hB.2.2.2.2.2
  have e1 := h.1
  obtain ⟨-, j8, j9, -, -, -, -, -, -⟩ := hJ
  unfold snd at hp
  rw [hq, if_neg (by simp)] at hp
  unfold wpX3_heardOfEnding
  refine up (P := fun f i => wbX3_heardOfEnding_4 post f (II n) (II (sm (fun i => if i ≠ n ∧ kE K i n = true then gt G (40 + y - 1) 6 i else 0) i)) (II i) σ) (kn K) ?_ ?_ 0 (by omega)
  · intro f
    simp (disch := omega) only [wbX3_heardOfEnding_4, e1, I_le]
    exact ⟨fun _ => hp, fun z => absurd (by omega) z⟩
  · intro f i hi ih
    simp (disch := omega) only [wbX3_heardOfEnding_4, e1, I_le, I_eq, fe, I_lit, I_add]
    have st : ∀ v : Int, v = (if i ≠ n ∧ kE K i n = true then gt G (40 + y - 1) 6 i else 0) → wbX3_heardOfEnding_4 post f (II n) (II (sm (fun i => if i ≠ n ∧ kE K i n = true then gt G (40 + y - 1) 6 i else 0) i + v)) (II ((i : Int) + 1)) σ := by
      intro v hv; subst hv; exact ih
    have st0 : ¬ (i ≠ n ∧ kE K i n = true) → wbX3_heardOfEnding_4 post f (II n) (II (sm (fun i => if i ≠ n ∧ kE K i n = true then gt G (40 + y - 1) 6 i else 0) i)) (II ((i : Int) + 1)) σ := by
      intro c
      have := st 0 (by rw [if_neg c])
      rwa [Int.add_zero] at this
    refine ⟨fun z => absurd z (by omega), fun _ => ⟨fun c => st0 (by omega), fun c => ?_⟩⟩
    refine sameEnding_ok h kn16 hi hn ?_
    cases hE : kE K i n with
    | false => exact ⟨fun _ => st0 (by rw [hE]; simp), fun z => absurd rfl z⟩
    | true =>
      refine ⟨fun z => ?_, fun _ => ⟨k0, j8, hk0, ?_⟩⟩
      · simp (disch := omega) only [if_true, I_eq] at z; omega
      · rw [j9]
        simp only [I_sub]
        refine between_ok (g := 6) hB (by omega) (by omega) (by omega) (by omega) ?_
        rw [show ((y : Int) - 1 + 41).toNat = ((y : Int) - 1 + 40).toNat + 1 by omega, rg_one, I_add]
        refine st _ ?_
        rw [if_pos ⟨by omega, hE⟩]
        show gt G _ 6 i = _
        congr 1; omega
