theorem ing_c : ∀ p, p < 3 → ∀ s, s < 2 → ∀ x, x < 2 → ∀ g, g < 7 → ing g ((p * 2 + s) * 2 + x) = (g == p || g == 3 + s || (g == 5 && x == 0) || g == 6) := by decide
theorem ing_7 : ∀ p, p < 3 → ∀ s, s < 2 → ∀ x, x < 2 → (p * 2 + s) * 2 + x < 12 := by decide
theorem addSums_ok {σ : St} {k0 o Y p s x n : Nat} {G : GV} {v : Int} {post : St → Prop} (ho : gI σ (21 + 4 * k0) 3 = II o) (hS : Sums σ k0 G (41 + o)) (hL : Lat σ k0 G (41 + o)) (hoo : o ≤ 60) (hG : ∀ Y' n', 0 ≤ gt G Y' 6 n')
    (hp : p < 3) (hs : s < 2) (hx : x < 2) (hn : n < 16) (hY : Y ≤ 40 + o) (hv : 0 < v) (hv2 : v < 1000)
    (h : ∀ τ, Sums τ k0 (gadd G Y ((p * 2 + s) * 2 + x) n v) (41 + o) → Lat τ k0 (gadd G Y ((p * 2 + s) * 2 + x) n v) (41 + o) → Eqx [21 + 4 * k0 + 2, 21 + 4 * k0 + 3] σ τ → post τ) :
    wpX0_addSums k0 (II ((Y : Int) - 40)) (II p) (II s) (II x) (II n) (II v) σ post := by
  have hc := ing_7 p hp s hs x hx
  have hlb : ∀ m N, -1000 ≤ lat G m N ∧ lat G m N ≤ N := by
    intro m N
    induction N with
    | zero => exact ⟨by show -1000 ≤ (-1000 : Int); omega, by show (-1000 : Int) ≤ _; omega⟩
    | succ N ih => simp only [lat]; split <;> omega
  unfold wpX0_addSums
  have key := up (P := fun m Z => Y ≤ Z → ∀ τ : St, (∀ q, q ≠ 21 + 4 * k0 + 2 → τ q = σ q) → (∀ W, W ≤ 41 + o → ∀ g, g < 7 → ∀ m, m < 16 → gI τ (21 + 4 * k0 + 2) (W * 112 + (g * 16 + m)) = II (sm (gy G g m) W + (if Y < W ∧ W ≤ Z ∧ m = n ∧ ing g ((p * 2 + s) * 2 + x) = true then v else 0))) → wbX0_addSums_3 k0 post m (II ((Y : Int) - 40)) (II p) (II s) (II x) (II n) (II v) (II ((Z : Int) - 40)) τ) (41 + o) ?_ ?_ Y (by omega)
  · obtain ⟨m, hm⟩ := key
    refine ⟨m, hm (Nat.le_refl _) σ (fun _ _ => rfl) (fun W hW g hg m hm => ?_)⟩
    rw [hS W hW g hg m hm, if_neg (by omega), Int.add_zero]
  · intro m _ τ hq hW
    have e3 : ∀ k, gI τ (21 + 4 * k0) k = gI σ (21 + 4 * k0) k := fun k => gI_of (hq _ (by omega)) k
    have e4 : ∀ k, gI τ (21 + 4 * k0 + 3) k = gI σ (21 + 4 * k0 + 3) k := fun k => gI_of (hq _ (by omega)) k
    have hb := hlb n (41 + o)
    simp (disch := omega) only [wbX0_addSums_3, e3, ho, I_lt, I_in, I_cl, Int.toNat_natCast, true_and, fe, e4, hL n hn]
    refine ⟨fun _ => ?_, fun z => absurd (by omega) z⟩
    refine h _ ?_ ?_ ?_
    · intro W hW' g hg m hm
      rw [rI2 (by omega), hW W hW' g hg m hm, sm_gadd hc]
      congr 2
      by_cases c : Y < W ∧ m = n ∧ ing g ((p * 2 + s) * 2 + x) = true
      · rw [if_pos c, if_pos ⟨c.1, hW', c.2.1, c.2.2⟩]
      · rw [if_neg c, if_neg (fun z => c ⟨z.1, z.2.2.1, z.2.2.2⟩)]
    · intro m hm
      have hl := lat_gadd (v := v) (Y := Y) (n := n) hc hv hG (41 + o) m
      by_cases c : m = n
      · subst c
        rw [if_pos ⟨rfl, by omega⟩] at hl
        rw [rI1, hl]
        split
        · congr 1; omega
        · congr 1; omega
      · rw [if_neg (fun z => c z.1)] at hl
        rw [rI3 c, e4, hL m hm, hl]
    · intro q hq'
      simp only [List.mem_cons, List.not_mem_nil, or_false, not_or] at hq'
      rw [ce_sI _ _ _ _ _ (by omega), hq _ (by omega)]
  · intro m Z hZ ih hYZ τ hq hW
    have e3 : ∀ k, gI τ (21 + 4 * k0) k = gI σ (21 + 4 * k0) k := fun k => gI_of (hq _ (by omega)) k
    have ih' := ih (by omega)
    have tail : ∀ (τ1 : St) (s0 : Int), s0 = (if x = 0 then v else 0) → τ1 = sI (sI τ (21 + 4 * k0 + 2) ((Z + 1) * 112 + (p * 16 + n)) (gI τ (21 + 4 * k0 + 2) ((Z + 1) * 112 + (p * 16 + n)) + II v)) (21 + 4 * k0 + 2) ((Z + 1) * 112 + ((3 + s) * 16 + n)) (gI τ (21 + 4 * k0 + 2) ((Z + 1) * 112 + ((3 + s) * 16 + n)) + II v) →
        wbX0_addSums_87 k0 (wbX0_addSums_3 k0 post m) post (II ((Y : Int) - 40)) (II p) (II s) (II x) (II n) (II v) (II ((Z : Int) - 40)) (II (((Z : Int) + 1) * 112 + n)) (II s0) (gI τ1 (21 + 4 * k0 + 2) ((Z + 1) * 112 + (5 * 16 + n))) (II (((Z : Int) + 1) * 112 + n + 80)) τ1 := by
      intro τ1 s0 hs0 hτ1
      simp (disch := omega) only [wbX0_addSums_87, I_in, I_lit, I_add, true_and, fe, I_cl]
      rw [show (((Z : Int) + 1) * 112 + n + 80).toNat = (Z + 1) * 112 + (5 * 16 + n) by omega, show (((Z : Int) + 1) * 112 + n + 96).toNat = (Z + 1) * 112 + (6 * 16 + n) by omega, show (Z : Int) - 40 + 1 = ((Z + 1 : Nat) : Int) - 40 by omega]
      refine ih' _ ?_ ?_
      · intro q hq'
        rw [ce_sI _ _ _ _ _ hq', ce_sI _ _ _ _ _ hq', hτ1, ce_sI _ _ _ _ _ hq', ce_sI _ _ _ _ _ hq', hq q hq']
      · intro W hW' g hg j hj
        have old := hW W hW' g hg j hj
        have ic := ing_c p hp s hs x hx g hg
        subst hτ1
        by_cases cW : W = Z + 1 ∧ j = n
        · obtain ⟨rfl, rfl⟩ := cW
          rw [if_neg (by omega), Int.add_zero] at old
          by_cases g6 : g = 6
          · subst g6
            rw [rI1, rI3 (by omega), rI3 (by omega), rI3 (by omega), old, I_add, if_pos ⟨by omega, Nat.le_refl _, rfl, by rw [ic]; simp⟩]
          · by_cases g5 : g = 5
            · subst g5
              rw [rI3 (by omega), rI1, rI3 (by omega), rI3 (by omega), old, I_add, hs0]
              congr 2
              by_cases x0 : x = 0
              · rw [if_pos x0, if_pos ⟨by omega, Nat.le_refl _, rfl, by rw [ic]; simp [x0]⟩]
              · rw [if_neg x0, if_neg (fun z => by
                  have := z.2.2.2
                  rw [ic] at this
                  simp [x0] at this
                  omega)]
            · by_cases g3 : g = 3 + s
              · subst g3
                rw [rI3 (by omega), rI3 (by omega), rI1, old, I_add, if_pos ⟨by omega, Nat.le_refl _, rfl, by rw [ic]; simp⟩]
              · by_cases gp : g = p
                · subst gp
                  rw [rI3 (by omega), rI3 (by omega), rI3 (by omega), rI1, old, I_add, if_pos ⟨by omega, Nat.le_refl _, rfl, by rw [ic]; simp⟩]
                · rw [rI3 (by omega), rI3 (by omega), rI3 (by omega), rI3 (by omega), old, if_neg (fun z => by
                    have := z.2.2.2
                    rw [ic] at this
                    simp [g6, g5, g3, gp] at this), Int.add_zero]
        · rw [rI3 (by omega), rI3 (by omega), rI3 (by omega), rI3 (by omega), old]
          congr 2
          by_cases c : Y < W ∧ W ≤ Z ∧ j = n ∧ ing g ((p * 2 + s) * 2 + x) = true
          · rw [if_pos c, if_pos ⟨c.1, by omega, c.2.2⟩]
          · rw [if_neg c, if_neg (fun z => c ⟨z.1, by
              have : ¬ W = Z + 1 := fun e => cW ⟨e, z.2.2.1⟩
              omega, z.2.2⟩)]
    simp (disch := omega) only [wbX0_addSums_3, e3, ho, I_lt, I_in, I_cl, Int.toNat_natCast, true_and, fe, I_lit, I_add, I_sub, I_neg, I_mul, I_eq]
    refine ⟨fun z => absurd z (by omega), fun _ => ?_⟩
    rw [show ((Z : Int) - 40 - -40 + 1) * 112 + n = ((Z : Int) + 1) * 112 + n by omega, show (((Z : Int) + 1) * 112 + n + (0 + p) * 16).toNat = (Z + 1) * 112 + (p * 16 + n) by omega, show (((Z : Int) + 1) * 112 + n + (3 + s) * 16).toNat = (Z + 1) * 112 + ((3 + s) * 16 + n) by omega, show (((Z : Int) + 1) * 112 + n + 80).toNat = (Z + 1) * 112 + (5 * 16 + n) by omega]
    refine ⟨fun z => ?_, fun z => ?_⟩
    · exact tail _ 0 (by rw [if_neg (by omega)]) (by rw [rI3 (by omega)])
    · exact tail _ v (by rw [if_pos (by omega)]) (by rw [rI3 (by omega)])
theorem shl_16 : ∀ n : Nat, n < 16 → (1 : Int64) <<< ((II (4 * (n : Int))).toInt64 &&& 63) = LL ((16 ^ n : Nat) : Int) := by
  intro n hn
  have h : ∀ n : Fin 16, (1 : Int64) <<< ((Int32.ofInt (4 * (n.val : Int))).toInt64 &&& 63) = Int64.ofInt ((16 ^ n.val : Nat) : Int) := by decide +kernel
  exact h ⟨n, hn⟩
theorem give_ok {σ : St} {k0 o p s x n : Nat} {G : GV} {post : St → Prop} (B : Bk σ k0 G o) (hG : ∀ Y' n', 0 ≤ gt G Y' 6 n')
    (hp : p < 3) (hs : s < 2) (hx : x < 2) (hn : n < 16)
    (h : ∀ τ, Bk τ k0 (gadd G (40 + o) ((p * 2 + s) * 2 + x) n 1) o → Eqx [21 + 4 * k0 + 1, 21 + 4 * k0 + 2, 21 + 4 * k0 + 3] σ τ → post τ) :
    wpX0_give k0 (II p) (II s) (II x) (II n) σ post := by
  obtain ⟨ho, hS, hR, hL, hN, hoo⟩ := B
  have hc := ing_7 p hp s hs x hx
  simp (disch := omega) only [wpX0_give, wpX4_row, ho, I_lit, I_mul, I_add, I_in, true_and, fe, I_cl, gI_sL]
  rw [show ((o : Int) * 12 + (((p : Int) * 2 + s) * 2 + x)).toNat = o * 12 + ((p * 2 + s) * 2 + x) by omega, show (o : Int) = ((40 + o : Nat) : Int) - 40 by omega]
  refine addSums_ok (G := G) (o := o) (by rw [gI_sL]; exact ho) (fun Y hY g hg m hm => by rw [gI_sL]; exact hS Y hY g hg m hm) (fun m hm => by rw [gI_sL]; exact hL m hm) hoo hG hp hs hx hn (Nat.le_refl _) (by omega) (by omega) ?_
  intro τ hS' hL' hE
  refine h τ ⟨?_, hS', ?_, hL', ?_, hoo⟩ ?_
  · rw [Eqx_gI hE (by simp <;> omega), gI_sL, ho]
  · intro y hy c hc'
    rw [Eqx_gL hE (by simp <;> omega)]
    by_cases e : y = o ∧ c = (p * 2 + s) * 2 + x
    · obtain ⟨rfl, rfl⟩ := e
      rw [rL1, hR y (by omega) _ hc, pk_gadd hn, shl_16 n hn, L_add, Int.one_mul]
    · rw [rL3 (by omega), hR y hy c hc', pk_gne (by omega)]
  · intro Y hY c hc' m
    unfold gadd
    rw [if_neg (by omega), hN Y hY c hc' m]
  · intro q hq
    simp only [List.mem_cons, List.not_mem_nil, or_false, not_or] at hq
    rw [← hE q (by simp <;> omega), ce_sL _ _ _ _ _ (by omega)]
