theorem since_ok {σ : St} {k0 o n : Nat} {G : GV} {y : Int} {post : Int32 → St → Prop} (B : Bk σ k0 G o) (hn : n < 16) (hy : -1000 ≤ y ∧ y ≤ 1000)
    (hp : post (II (min (y - lat G n (41 + o)) 99)) σ) : wpX0_since k0 (II n) (II y) σ post := by
  have hl : ∀ N, -1000 ≤ lat G n N ∧ lat G n N ≤ N := by
    intro N
    induction N with
    | zero => exact ⟨by show -1000 ≤ (-1000 : Int); omega, by show (-1000 : Int) ≤ _; omega⟩
    | succ N ih => simp only [lat]; split <;> omega
  obtain ⟨-, -, -, hL, -, hoo⟩ := B
  have h1 := hl (41 + o)
  simp (disch := omega) only [wpX0_since, I_in, true_and, I_cl, Int.toNat_natCast, hL n hn, I_sub, I_lit, I_lt]
  split
  · rwa [show min (y - lat G n (41 + o)) 99 = 99 by omega] at hp
  · rwa [show min (y - lat G n (41 + o)) 99 = y - lat G n (41 + o) by omega] at hp
theorem open_ok {σ : St} {k0 y : Nat} {G : GV} {post : St → Prop} (hS : Sums σ k0 G (40 + y)) (hR : Rows σ k0 G y) (hL : Lat σ k0 G (40 + y)) (hN : Nil G (40 + y)) (hy : y ≤ 60)
    (hp : ∀ τ, Bk τ k0 G y → Eqx [21 + 4 * k0, 21 + 4 * k0 + 1, 21 + 4 * k0 + 2] σ τ → post τ) : wpX0_open k0 (II y) σ post := by
  simp (disch := omega) only [wpX0_open, I_lit, I_lt, I_le]
  refine ⟨fun h => absurd h (by omega), fun _ => ⟨fun _ => ?_, fun h => absurd (by omega) h⟩⟩
  have key := up (P := fun m i => ∀ τ : St, (∀ q, q ≠ 21 + 4 * k0 + 1 → τ q = σ q) → (∀ j, j < y * 12 → gL τ (21 + 4 * k0 + 1) j = gL σ (21 + 4 * k0 + 1) j) → (∀ c, c < i → gL τ (21 + 4 * k0 + 1) (y * 12 + c) = 0) → wbX0_open_13 k0 post m (II y) (II i) τ) 12 ?_ ?_ 0 (by omega)
  · obtain ⟨m, hm⟩ := key
    exact ⟨m, hm σ (fun _ _ => rfl) (fun _ _ => rfl) (fun c hc => absurd hc (by omega))⟩
  · intro m τ hq hj hc
    simp (disch := omega) only [wbX0_open_13, I_lit, I_le, I_neg, I_sub, I_mul, I_add, I_lt, fe, I_cl]
    refine ⟨fun _ => ⟨by omega, by omega, by omega, by omega, by omega, ?_⟩, fun h => absurd (by omega) h⟩
    have e2 : ∀ k, gI τ (21 + 4 * k0 + 2) k = gI σ (21 + 4 * k0 + 2) k := fun k => gI_of (hq _ (by omega)) k
    refine hp _ ⟨rI1, ?_, ?_, ?_, ?_, hy⟩ ?_
    · intro Y hY g hg n hn
      rw [rI2 (by omega), rA1]
      by_cases e : Y = 41 + y
      · subst e
        rw [pk_cpy_in (by omega) (by omega)]
        have := hS (40 + y) (Nat.le_refl _) g hg n hn
        rw [← e2] at this
        rw [show ((y : Int) - -40) * 112 = (((40 + y) * 112 : Nat) : Int) by omega]
        show gI τ (21 + 4 * k0 + 2) _ = _
        rw [show ((((40 + y) * 112 : Nat) : Int)).toNat + ((41 + y) * 112 + (g * 16 + n) - ((((40 + y) * 112 : Nat) : Int) + 112).toNat) = (40 + y) * 112 + (g * 16 + n) by omega, this]
        rw [show 41 + y = 40 + y + 1 by omega, sm_nil hN g n 1]
      · rw [pk_cpy_out (by omega)]
        show gI τ (21 + 4 * k0 + 2) _ = _
        rw [e2, hS Y (by omega) g hg n hn]
    · intro z hz c hc'
      rw [gL_sI, gL_sA]
      by_cases e : z = y
      · subst e
        rw [hc c hc']
        have : pk (fun n => G (40 + z) c n) = 0 := sm_zero (fun n _ => by simp [hN _ (Nat.le_refl _) c hc' n])
        rw [this]; rfl
      · rw [hj _ (by omega)]; exact hR z (by omega) c hc'
    · intro n hn
      rw [rI2 (by omega), rA2 (by omega), gI_of (hq _ (by omega)) n, hL n hn, show 41 + y = 40 + y + 1 by omega, lat_nil hN n 1]
    · intro Y hY c hc n; exact hN Y (by omega) c hc n
    · intro q hq'
      simp only [List.mem_cons, List.not_mem_nil, or_false, not_or] at hq'
      rw [ce_sI _ _ _ _ _ (by omega), ce_sA _ _ _ _ (by omega), hq _ (by omega)]
  · intro m i hi ih τ hq hj hc
    simp (disch := omega) only [wbX0_open_13, I_lit, I_le, I_neg, I_sub, I_mul, I_add, I_lt, fe, I_cl, I_in, true_and, tn_add, tn_mul, Int.reduceToNat, Int.toNat_natCast]
    refine ⟨fun h => absurd h (by omega), fun _ => ?_⟩
    refine ih _ (fun q h => ?_) (fun j h => ?_) (fun c h => ?_)
    · rw [ce_sL _ _ _ _ _ h, hq q h]
    · rw [rL3 (by omega), hj j h]
    · by_cases e : c = i
      · subst e; rw [rL1]
      · rw [rL3 (by omega), hc c (by omega)]
theorem lat_gadd {G : GV} {Y c n : Nat} {v : Int} (hc : c < 12) (hv : 0 < v) (hG : ∀ Y' n', 0 ≤ gt G Y' 6 n') (N : Nat) (n' : Nat) : lat (gadd G Y c n v) n' N = if n' = n ∧ Y < N then max (lat G n' N) ((Y : Int) - 40) else lat G n' N := by
  have hb : ∀ N, lat G n' N < (N : Int) - 40 ∨ (lat G n' N = -1000) := by
    intro N
    induction N with
    | zero => exact Or.inr rfl
    | succ N ih => simp only [lat]; split <;> omega
  induction N with
  | zero => rw [if_neg (by omega)]; rfl
  | succ N ih =>
    have h0 := hG N n'
    have hb1 := hb N
    have e6 : ing 6 c = true := rfl
    have ht := gt_gadd G Y c n v hc N 6 n'
    by_cases h1 : N = Y ∧ n' = n
    · obtain ⟨rfl, rfl⟩ := h1
      rw [if_pos ⟨rfl, rfl, e6⟩] at ht
      rw [if_pos ⟨rfl, by omega⟩]
      simp only [lat]
      rw [if_pos (by omega)]
      split <;> omega
    · rw [if_neg (fun z => h1 ⟨z.1, z.2.1⟩), Int.add_zero] at ht
      simp only [lat]
      rw [ht, ih]
      by_cases h2 : n' = n ∧ Y < N + 1
      · have h3 : Y < N := by
          have : ¬ N = Y := fun e => h1 ⟨e, h2.1⟩
          omega
        simp only [h2, h3, and_self, if_true, true_and]
        split <;> omega
      · have h3 : ¬ (n' = n ∧ Y < N) := fun z => h2 ⟨z.1, by omega⟩
        simp only [h2, h3, if_false]
theorem sm_gadd {G : GV} {Y c n : Nat} {v : Int} (hc : c < 12) (g n' : Nat) (N : Nat) : sm (gy (gadd G Y c n v) g n') N = sm (gy G g n') N + (if Y < N ∧ n' = n ∧ ing g c = true then v else 0) := by
  have e : gy (gadd G Y c n v) g n' = fun k => gy G g n' k + (if k = Y then (if n' = n ∧ ing g c = true then v else 0) else 0) := by
    funext k
    show gt _ _ _ _ = gt _ _ _ _ + _
    rw [gt_gadd G Y c n v hc]
    by_cases h : k = Y <;> simp [h]
  rw [e, sm_add]
  by_cases h : Y < N
  · rw [sm_one Y _ h]; simp [h]
  · have h3 : ¬ (Y < N ∧ n' = n ∧ ing g c = true) := fun z => h z.1
    simp only [h3, if_false]
    rw [sm_zero (f := fun k => if k = Y then (if n' = n ∧ ing g c = true then v else 0) else 0) (fun k hk => if_neg (by omega))]
theorem pk_gadd {G : GV} {Y c n : Nat} {v : Int} (hn : n < 16) : pk (fun m => gadd G Y c n v Y c m) = pk (fun m => G Y c m) + v * (16 ^ n : Nat) := by
  unfold pk
  have e : (fun m => gadd G Y c n v Y c m * ((16 ^ m : Nat) : Int)) = fun m => G Y c m * ((16 ^ m : Nat) : Int) + (if m = n then v * ((16 ^ n : Nat) : Int) else 0) := by
    funext m
    unfold gadd
    by_cases h : m = n
    · subst h; simp [Int.add_mul]
    · simp [h]
  rw [e, sm_add, sm_one n _ hn]
theorem pk_gne {G : GV} {Y c n Y' c' : Nat} {v : Int} (h : ¬ (Y' = Y ∧ c' = c)) : pk (fun m => gadd G Y c n v Y' c' m) = pk (fun m => G Y' c' m) := by
  have : (fun m => gadd G Y c n v Y' c' m) = fun m => G Y' c' m := by
    funext m
    unfold gadd
    rw [if_neg (fun z => h ⟨z.1, z.2.1⟩)]
  rw [this]
