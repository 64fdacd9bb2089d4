/-! guess -/
theorem mulb {a b M N : Int} (h : 0 ≤ a ∧ a ≤ M) (h2 : 0 ≤ b ∧ b ≤ N) : 0 ≤ a * b ∧ a * b ≤ M * N :=
  ⟨Int.mul_nonneg h.1 h2.1, Int.mul_le_mul h.2 h2.2 h2.1 (Int.le_trans h.1 h.2)⟩
theorem gT_nn {G : GV} (h : GB G) (g Y : Nat) : 0 ≤ gT G g Y ∧ gT G g Y ≤ 1919808 := by
  have := gT_b h g Y 0 (by omega)
  omega
theorem rgT_b {G : GV} (h : GB G) (g a b : Nat) (hb : b ≤ 200) : 0 ≤ rg (gT G g) a b ∧ rg (gT G g) a b ≤ 383961600 := by
  have e1 := rg_nonneg (f := gT G g) (a := a) (b := b) (fun k _ _ => (gT_nn h g k).1)
  have e2 := rg_le (f := gT G g) (a := a) (b := b) (B := 1919808) (by omega) (fun k _ _ => (gT_nn h g k).2)
  refine ⟨e1, ?_⟩
  have : (b : Int) * 1919808 ≤ 383961600 := by omega
  omega
def fL (G : GV) (m : MT) (p : Nat) (z : Int) (Y : Nat) : Int := sm (fun n => if z = -1 ∨ z = (n : Int) then gt G Y p n else 0) (m 1).toNat
theorem firstLiving_ok {σ : St} {m : MT} {post : Int32 → St → Prop} (h : CL σ m) (hW : WFm m) (hp : post (II (max (m 0 - m 6) (-40))) σ) : wpX10_firstLiving σ post := by
  have w0 := hW.1
  have w6 := hW.2.2.2.2.2.2.1
  simp (disch := omega) only [wpX10_firstLiving, h.1, h.2.1, I_sub, I_lit, I_neg, I_lt]
  by_cases c : m 0 - m 6 < -40
  · rw [if_pos c]; rw [show max (m 0 - m 6) (-40) = -40 by omega] at hp; exact hp
  · rw [if_neg c]; rw [show max (m 0 - m 6) (-40) = m 0 - m 6 by omega] at hp; exact hp
theorem livingIn_ok {σ : St} {m : MT} {G : GV} {p : Nat} {z : Int} {post : Int64 → St → Prop} (hR : RG σ G) (hM : RM σ m) (hW : WFm m) (hG : GB G) (hp3 : p < 3) (hz : -1 ≤ z ∧ z < m 1)
    (hp : post (LL (rg (fL G m p z) (m 0 - m 6 + 40).toNat (m 0 + 40).toNat)) σ) : wpX12_livingIn (II p) (II z) σ post := by
  have w0 := hW.1
  have w1 := hW.2.1
  have w6 := hW.2.2.2.2.2.2.1
  have e0 : gI σ 76 0 = II (m 0) := hM 0
  have e1 : gI σ 76 1 = II (m 1) := hM 1
  have e6 : gI σ 76 6 = II (m 6) := hM 6
  unfold wpX12_livingIn
  simp (disch := omega) only [I_lit, I_in, true_and, I_cl, Int.reduceToNat, e0, e6, fe, I_sub, I_add, I_neg]
  refine greater_ok (by omega) ?_
  rw [show max (-40) (m 0 - 1 - m 6 + 1) = (((m 0 - m 6 + 40).toNat : Nat) : Int) - 40 by omega]
  have key := up (P := fun f Z => (m 0 - m 6 + 40).toNat ≤ Z → wbX12_livingIn_31 post f (II p) (II z) (LL (rg (fL G m p z) (m 0 - m 6 + 40).toNat Z)) (II (m 0 - 1)) (II ((Z : Int) - 40)) σ) (m 0 + 40).toNat ?_ ?_ (m 0 - m 6 + 40).toNat (by omega)
  · obtain ⟨f, hf⟩ := key
    have := hf (Nat.le_refl _)
    rw [rg_nil (Nat.le_refl _)] at this
    exact ⟨f, this⟩
  · intro f _
    simp (disch := omega) only [wbX12_livingIn_31, I_lt]
    exact ⟨fun _ => hp, fun q => absurd (by omega) q⟩
  · intro f Z hZ ih hle
    have ih := ih (by omega)
    rw [rg_succ hle, show ((Z + 1 : Nat) : Int) - 40 = (Z : Int) - 40 + 1 by omega] at ih
    simp (disch := omega) only [wbX12_livingIn_31, I_lt]
    refine ⟨fun q => absurd q (by omega), fun _ => ?_⟩
    have k2 := up (P := fun g i => wbX12_livingIn_41 (wbX12_livingIn_31 post f) post g (II p) (II z) (LL (rg (fL G m p z) (m 0 - m 6 + 40).toNat Z + sm (fun n => if z = -1 ∨ z = (n : Int) then gt G Z p n else 0) i)) (II (m 0 - 1)) (II ((Z : Int) - 40)) (II i) σ) (m 1).toNat ?_ ?_ 0 (by omega)
    · obtain ⟨g, hg⟩ := k2
      rw [show sm (fun n => if z = -1 ∨ z = (n : Int) then gt G Z p n else 0) 0 = 0 from rfl, Int.add_zero] at hg
      exact ⟨g, hg⟩
    · intro g
      simp (disch := omega) only [wbX12_livingIn_41, I_lit, I_in, true_and, I_cl, Int.reduceToNat, e1, I_le, fe, I_add]
      exact ⟨fun _ => ih, fun q => absurd (by omega) q⟩
    · intro g i hi ih2
      have es : sm (fun n => if z = -1 ∨ z = (n : Int) then gt G Z p n else 0) (i + 1) = sm (fun n => if z = -1 ∨ z = (n : Int) then gt G Z p n else 0) i + (if z = -1 ∨ z = (i : Int) then gt G Z p i else 0) := rfl
      rw [es, ← Int.add_assoc] at ih2
      have j : (48 * ((Z : Int) - 40 + 40) + 16 * (p : Int) + (i : Int)).toNat = 48 * Z + 16 * p + i := by omega
      have r := hR.2.2.1 Z (by omega) p hp3 i (by omega)
      have g1 := gt_nn hG Z p i
      have g2 := gt_le hG Z p i
      simp (disch := omega) only [wbX12_livingIn_41, wbX12_livingIn_64, I_lit, L_lit, I_neg, I_in, true_and, I_cl, Int.reduceToNat, e1, I_le, I_eq, fe, I_add, I_mul, j, r, I_wide, L_add]
      refine ⟨fun q => absurd q (by omega), fun _ => ⟨fun q => ?_, fun q => ⟨fun q2 => ?_, fun q2 => ?_⟩⟩⟩
      · rw [if_pos (Or.inl q)] at ih2; exact ih2
      · rw [if_neg (by omega)] at ih2; exact ih2
      · rw [if_pos (Or.inr q2)] at ih2; exact ih2
def lk (A B : Nat → Int) : Nat → Int
  | 0 => -1
  | p + 1 => if lk A B p = -1 then (if A p ≤ 0 then -1 else (p : Int)) else if A p * B (lk A B p).toNat ≤ A (lk A B p).toNat * B p then lk A B p else (p : Int)
theorem lk_range (A B : Nat → Int) (p : Nat) : -1 ≤ lk A B p ∧ lk A B p < p := by
  induction p with
  | zero => exact ⟨by show (-1 : Int) ≤ -1; omega, by show (-1 : Int) < 0; omega⟩
  | succ p ih => simp only [lk]; split <;> split <;> omega
theorem guess_ok {σ : St} (h : Inv σ) (a : Int32) : wpX11_guess a σ (fun r τ => wpX12_guess a τ (Q2 r)) := by
  obtain ⟨m, mi, U, T, hA, hB⟩ := id h
  obtain ⟨n, n1, n2, rfl⟩ := I_of a
  have hM := hA.1
  have hW := hA.2.2.1
  have w0 := hW.1
  have w1 := hW.2.1
  have w6 := hW.2.2.2.2.2.2.1
  have e9 := hB.2.2.1.1
  unfold wpX11_guess
  refine has_ok hB.1.1 w1 (by omega) (fun z => t1 ?_) (fun z => t0 ?_)
  · obtain ⟨N, rfl⟩ : ∃ N : Nat, n = N := ⟨n.toNat, by omega⟩
    have hG : GB (run (KK m U T) (m 0).toNat) := GC_GB (run_GC (K := KK m U T) hW _).1
    have hN : GN (run (KK m U T) (m 0).toNat) (m 1).toNat := GN_run (KK m U T) _
    have hAB : ∃ A B : Nat → Int, (∀ p, p < 3 → A p = rg (gy (run (KK m U T) (m 0).toNat) p N) (m 0 - m 6 + 40).toNat (m 0 + 40).toNat ∧ B p = rg (gT (run (KK m U T) (m 0).toNat) p) (m 0 - m 6 + 40).toNat (m 0 + 40).toNat ∧ (0 ≤ A p ∧ A p ≤ 23997600) ∧ (0 ≤ B p ∧ B p ≤ 383961600)) :=
      ⟨fun p => rg (gy (run (KK m U T) (m 0).toNat) p N) (m 0 - m 6 + 40).toNat (m 0 + 40).toNat, fun p => rg (gT (run (KK m U T) (m 0).toNat) p) (m 0 - m 6 + 40).toNat (m 0 + 40).toNat, fun p _ => ⟨rfl, rfl, ⟨gy_nn hG _ _ _ _, gy_le hG _ _ _ _ (by omega)⟩, rgT_b hG _ _ _ (by omega)⟩⟩
    obtain ⟨A, B, hAB⟩ := hAB
    have prod : ∀ i j, i < 3 → j < 3 → 0 ≤ A i * B j ∧ A i * B j ≤ 9214156892160000 := fun i j hi hj => by
      have := mulb (hAB i hi).2.2.1 (hAB j hj).2.2.2
      omega
    have ref : ∀ r : Int32, r = II (lk A B 3) → wpX12_guess (II N) σ (Q2 r) := by
      intro r hr
      unfold wpX12_guess
      refine isName_ok hM w1 (by omega) (fun _ => s1 ?_) (fun q => absurd z q)
      refine runsAll_ok hA hB ?_
      intro τ tR tG tn
      have tA := SR_A hA tR
      have eA : ∀ p, p < 3 → rg (fL (run (KK m U T) (m 0).toNat) m p (N : Int)) (m 0 - m 6 + 40).toNat (m 0 + 40).toNat = A p := fun p hp => by
        rw [(hAB p hp).1]
        exact rg_congr (fun Y _ _ => by unfold fL; exact sm_pt rfl (by omega))
      have eB : ∀ p, p < 3 → rg (fL (run (KK m U T) (m 0).toNat) m p (-1)) (m 0 - m 6 + 40).toNat (m 0 + 40).toNat = B p := fun p hp => by
        rw [(hAB p hp).2.1]
        refine rg_congr (fun Y _ _ => ?_)
        unfold fL gT
        rw [sm_ext (a := (m 1).toNat) (b := 16) (f := fun n => gt (run (KK m U T) (m 0).toNat) Y p n) (by omega) (fun k hk _ => gt_GN hN _ _ k hk)]
        exact sm_congr (fun k _ => if_pos (Or.inl rfl))
      have LA : ∀ (p : Nat) (post : Int64 → St → Prop), p < 3 → post (LL (A p)) τ → wpX12_livingIn (II p) (II N) τ post := fun p post hp hq => livingIn_ok tG tA.1 hW hG hp (by omega) (by rw [eA p hp]; exact hq)
      have LB : ∀ (p : Nat) (post : Int64 → St → Prop), p < 3 → post (LL (B p)) τ → wpX12_livingIn (II p) (II (-1)) τ post := fun p post hp hq => livingIn_ok tG tA.1 hW hG hp (by omega) (by rw [eB p hp]; exact hq)
      refine up (P := fun f p => wbX12_guess_18 (Q2 r) f (II N) (II (lk A B p)) (II p) τ) 3 ?_ ?_ 0 (by omega)
      · intro f
        simp (disch := omega) only [wbX12_guess_18, I_lit, I_le]
        exact ⟨fun _ => ⟨hr, SR_I h tR⟩, fun q => absurd (by omega) q⟩
      · intro f p hp ih
        have lr := lk_range A B p
        simp (disch := omega) only [wbX12_guess_18, I_lit, I_neg, I_le, I_eq, I_add, fe]
        refine ⟨fun q => absurd q (by omega), fun _ => LA p _ hp ?_⟩
        have b1 := (hAB p hp).2.2.1
        have b2 := (hAB p hp).2.2.2
        rw [L_lit, L_le (by omega)]
        simp only [lk] at ih
        refine ⟨fun q => ?_, fun q => ⟨fun q2 => ?_, fun q2 => ?_⟩⟩
        · by_cases c : lk A B p = -1
          · rw [if_pos c, if_pos q] at ih; rw [c]; exact ih
          · have x1 := (hAB (lk A B p).toNat (by omega)).2.2.1
            have x2 : A p = 0 := by omega
            have x3 := prod (lk A B p).toNat p (by omega) hp
            rw [if_neg c, if_pos (by rw [x2, Int.zero_mul]; exact x3.1)] at ih; exact ih
        · rw [if_pos q2, if_neg q] at ih; exact ih
        · rw [if_neg q2] at ih
          have lp : lk A B p = (((lk A B p).toNat : Nat) : Int) := by omega
          rw [lp]
          refine LB _ _ (by omega) (LA _ _ (by omega) (LB p _ hp ?_))
          have x3 := prod (lk A B p).toNat p (by omega) hp
          have x4 := prod p (lk A B p).toNat hp (by omega)
          rw [L_mul, L_mul, L_le (by omega)]
          refine ⟨fun q3 => ?_, fun q3 => ?_⟩
          · rw [if_pos q3] at ih; rw [← lp]; exact ih
          · rw [if_neg q3] at ih; exact ih
    unfold wpX10_likeliestPlace
    refine firstLiving_ok hB.2.2.1 hW ?_
    simp only [fe, e9, I_lit, L_lit, I_neg, I_sub]
    refine up (P := fun f p => wbX10_likeliestPlace_27 (fun r τ => wpX12_guess (II N) τ (Q2 r)) f (II N) (II (max (m 0 - m 6) (-40))) (II (m 0 - 1)) (II (lk A B p)) (LL (if lk A B p = -1 then 0 else A (lk A B p).toNat)) (LL (if lk A B p = -1 then 1 else B (lk A B p).toNat)) (II p) σ) 3 ?_ ?_ 0 (by omega)
    · intro f
      simp (disch := omega) only [wbX10_likeliestPlace_27, I_lit, I_le]
      exact ⟨fun _ => ref _ rfl, fun q => absurd (by omega) q⟩
    · intro f p hp ih
      have lr := lk_range A B p
      obtain ⟨a1, a2, a3, a4⟩ := hAB p hp
      simp (disch := omega) only [wbX10_likeliestPlace_27, I_lit, I_neg, I_le, I_add, fe, Int.zero_add]
      refine ⟨fun q => absurd q (by omega), fun _ => ?_⟩
      refine between_ok hB.2.2.2.2.1 (by omega) (by omega) (by omega) (by omega) ?_
      refine groupTotal_ok hB.2.2.2.2.1 (by omega) (by omega) (by omega) ?_
      rw [show (max (m 0 - m 6) (-40) + 40).toNat = (m 0 - m 6 + 40).toNat by omega, show (m 0 - 1 + 41).toNat = (m 0 + 40).toNat by omega, ← a1, ← a2]
      rw [I_wide (by omega), I_wide (by omega), L_mul, L_mul]
      have lv : lk A B (p + 1) = if lk A B p = -1 then (if A p ≤ 0 then -1 else (p : Int)) else if A p * B (lk A B p).toNat ≤ A (lk A B p).toNat * B p then lk A B p else (p : Int) := rfl
      by_cases c : lk A B p = -1
      · rw [if_pos c, if_pos c, L_le (by omega)]
        rw [if_pos c] at lv
        refine ⟨fun q => ?_, fun q => ?_⟩
        · rw [if_pos (by omega)] at lv
          rw [lv, if_pos rfl, if_pos rfl] at ih; rw [c]; exact ih
        · rw [if_neg (by omega)] at lv
          rw [lv, if_neg (by omega), if_neg (by omega), Int.toNat_natCast] at ih; exact ih
      · rw [if_neg c, if_neg c]
        rw [if_neg c] at lv
        have x3 := prod (lk A B p).toNat p (by omega) hp
        have x4 := prod p (lk A B p).toNat hp (by omega)
        rw [L_le (by omega)]
        refine ⟨fun q => ?_, fun q => ?_⟩
        · rw [if_pos q] at lv
          rw [lv, if_neg c, if_neg c] at ih; exact ih
        · rw [if_neg q] at lv
          rw [lv, if_neg (by omega), if_neg (by omega), Int.toNat_natCast] at ih; exact ih
  · show wpX12_guess (II n) σ (Q2 (II (-1)))
    unfold wpX12_guess
    exact isName_ok hM w1 (by omega) (fun q => absurd q z) (fun _ => s0 ⟨rfl, h⟩)
