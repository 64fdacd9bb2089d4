/-! room: the class's sharing -/
def cb (n : Int) : Nat → Int
  | 0 => 1
  | i + 1 => cb n i * (n - i) / ((i : Int) + 1)
theorem cb_b : ∀ n : Nat, n < 25 → ∀ i : Nat, i < 9 → i ≤ n → 0 < cb n i ∧ cb n i < 1000000 := by decide +kernel
theorem gt_24 {G : GV} (h : GC G) {Y p : Nat} (hY : 40 ≤ Y) (hp : p < 3) : (∀ n, 0 ≤ gt G Y p n ∧ gt G Y p n ≤ 24) ∧ (∀ M, M ≤ 16 → sm (fun n => gt G Y p n) M ≤ 24) := by
  have nn : ∀ n, 0 ≤ gt G Y p n := fun n => gt_nn (GC_GB h) Y p n
  have tot : sm (fun n => gt G Y p n) 16 ≤ 24 := by
    have e := rg_swap (fun n c => if ing p c then G Y c n else 0) 0 12 16
    have e1 : ∀ n, rg (fun c => if ing p c then G Y c n else 0) 0 12 = gt G Y p n := fun n => by
      unfold rg gt; rw [show max 0 12 = 12 from rfl, show sm (fun c => if ing p c = true then G Y c n else 0) 0 = 0 from rfl, Int.sub_zero]
    simp only [e1] at e
    rw [e]
    have e2 : ∀ c, sm (fun n => if ing p c = true then G Y c n else 0) 16 ≤ (if ing p c = true then 6 else 0) := fun c => by
      by_cases d : ing p c = true
      · simp only [d, if_true]; exact h.2.2.1 Y c hY
      · simp only [d, if_false]; rw [sm_zero (fun _ _ => by simp)]; simp
    have e3 : ∀ N, sm (fun c => sm (fun n => if ing p c = true then G Y c n else 0) 16) N ≤ sm (fun c => if ing p c = true then 6 else 0) N := fun N => by
      induction N with
      | zero => exact Int.le_refl _
      | succ N ih => exact Int.add_le_add ih (e2 N)
    have e4 := e3 12
    have e5 : sm (fun c => if ing p c = true then 6 else 0) 12 = 24 := by
      have : ∀ p, p < 3 → sm (fun c => if ing p c = true then 6 else 0) 12 = 24 := by decide
      exact this p hp
    unfold rg
    rw [show max 0 12 = 12 from rfl, show sm (fun Y_1 => sm (fun n => if ing p Y_1 = true then G Y Y_1 n else 0) 16) 0 = 0 from rfl, Int.sub_zero]
    omega
  have part : ∀ M, M ≤ 16 → sm (fun n => gt G Y p n) M ≤ 24 := fun M hM => by
    have := sm_mono (f := fun n => gt G Y p n) hM (fun k _ => nn k)
    omega
  refine ⟨fun n => ⟨nn n, ?_⟩, part⟩
  by_cases c : n < 16
  · have := sm_ge1 (f := fun n => gt G Y p n) (N := 16) c nn
    omega
  · have : gt G Y p n = 0 := sm_zero (fun c _ => by split; exact h.2.2.2 Y c n (Or.inr (by omega)); rfl)
    omega
theorem kinOf_ok {σ : St} {m : MT} {U : Nat → Nat} {A : Nat → Nat → Bool} {l : List Nat} {i : Nat} {post : Int32 → St → Prop} (w1 : 0 ≤ m 1 ∧ m 1 ≤ 16) (hN : NMs σ m U) (hA : ∀ i j, A i j = aU U i j) (hl16 : l.length ≤ 16) (hl2 : ∀ j, j < l.length → ((l.getD j 0 : Nat) : Int) < m 1) (hc : gI σ 52 10 = II (l.length : Nat)) (h57 : ∀ j, j < l.length → gI σ 57 j = II (l.getD j 0 : Nat)) (hi : i < l.length)
    (hp : post (II (km A l (l.getD i 0) l.length : Nat)) σ) : wpX10_kinOf (II i) σ post := by
  unfold wpX10_kinOf
  refine up (P := fun f j => wbX10_kinOf_4 post f (II i) (II (km A l (l.getD i 0) j : Nat)) (II j) σ) l.length ?_ ?_ 0 (by omega)
  · intro f
    simp (disch := omega) only [wbX10_kinOf_4, hc, I_le]
    exact ⟨fun _ => hp, fun z => absurd (by omega) z⟩
  · intro f j hj ih
    have ek : km A l (l.getD i 0) (j + 1) = if A (l.getD i 0) (l.getD j 0) = true then km A l (l.getD i 0) j ||| 2 ^ j else km A l (l.getD i 0) j := rfl
    rw [ek] at ih
    simp (disch := omega) only [wbX10_kinOf_4, hc, I_le, I_in, true_and, I_cl, Int.toNat_natCast, h57 i hi, h57 j hj, I_lit]
    refine ⟨fun z => absurd z (by omega), fun _ => cakin_ok w1 hN (hl2 i hi) (hl2 j hj) ?_⟩
    simp only [fe, I_add]
    rw [hA] at ih
    cases c : aU U (l.getD i 0) (l.getD j 0) with
    | false => rw [c] at ih; exact t0 ih
    | true =>
      rw [c, if_pos rfl] at ih
      refine t1 ?_
      rw [I_shl1 j (by omega), I_or]
      exact ih
theorem comb_ok {σ : St} {k : Nat} {tot : Nat} {post : Int32 → St → Prop} (hk : k ≤ 8) (ht : tot < 25) (hkt : k ≤ tot) (hp : wrX10_unlike 12 0 (II k) 0 σ (fun r_1 σ_2 => post ((((LL (cb tot k) - r_1) * 1000000) / LL (cb tot k)).toInt32) σ_2)) : ∃ f, wbX10_sharing_143 post f (II k) (II tot) 1 0 σ := by
  refine up (P := fun f i => wbX10_sharing_143 post f (II k) (II tot) (LL (cb tot i)) (II i) σ) k ?_ ?_ 0 (by omega)
  · intro f
    have b := cb_b tot ht k (by omega) hkt
    have ne : ¬ LL (cb tot k) = LL 0 := by rw [L_eq (by omega)]; omega
    simp (disch := omega) only [wbX10_sharing_143, I_le, L_lit, L_lt]
    refine ⟨fun _ => ⟨fun _ => ?_, fun z => absurd b.1 z⟩, fun z => absurd (Int.le_refl _) z⟩
    refine Eq.mp ?_ hp
    congr 1
    funext r s
    exact (mn_eq ne).symm
  · intro f i hi ih
    have b := cb_b tot ht i (by omega) (by omega)
    have eb : cb tot (i + 1) = cb tot i * ((tot : Int) - i) / ((i : Int) + 1) := rfl
    have mb := mulb (a := cb tot i) (b := (tot : Int) - i) (M := 1000000) (N := 25) (by omega) (by omega)
    simp (disch := omega) only [wbX10_sharing_143, I_le, I_lit, I_add, I_sub, I_wide, L_lit, L_eq, L_mul, L_div, fe]
    rw [eb] at ih
    exact ⟨fun z => absurd z (by omega), fun _ => ⟨by omega, ih⟩⟩
theorem sharing_ok {σ : St} {m mi : MT} {U : Nat → Nat} {T : TT} {p y k : Nat} {v : Int} {A : Nat → Nat → Bool} {w : Nat → Int} {post : Int32 → St → Prop} (hA : IvA σ m mi U T) (hB : IvB σ m mi U T) (hp3 : p < 3) (hy : (y : Int) < m 0) (hk : 2 ≤ k ∧ k ≤ 8) (hv : -2147483648 ≤ v ∧ v < 2147483648)
    (ew : w = fun n => gt (run (KK m U T) (m 0).toNat) (40 + y) p n) (hA0 : v = 0 → ∀ i j, A i j = false) (hA1 : v ≠ 0 → ∀ i j, A i j = aU U i j)
    (h0 : ¬ (k : Int) ≤ sm w (m 1).toNat → ∀ τ, SR σ τ → post (II (-1)) τ)
    (h1 : (k : Int) ≤ sm w (m 1).toNat → ∀ τ, SR σ τ → post ((((LL (cb (sm w (m 1).toNat) k) - LL (hl w A (List.range (m 1).toNat) k (fun _ => false))) * 1000000) / LL (cb (sm w (m 1).toNat) k)).toInt32) τ) : wpX10_sharing (II p) (II y) (II k) (II v) σ post := by
  have hW := hA.2.2.1
  have w0 := hW.1
  have w1 := hW.2.1
  have hGC := (run_GC (K := KK m U T) hW (m 0).toNat).1
  have g24 := gt_24 hGC (Y := 40 + y) (p := p) (by omega) hp3
  have wb : ∀ n, 0 ≤ w n ∧ w n ≤ 24 := fun n => by rw [ew]; exact g24.1 n
  have wt : ∀ M, M ≤ 16 → 0 ≤ sm w M ∧ sm w M ≤ 24 := fun M hM => ⟨sm_nonneg (fun n _ => (wb n).1), by rw [ew]; exact g24.2 M hM⟩
  obtain ⟨fl, efl⟩ : ∃ fl : Nat → List Nat, fl = fun i => (List.range i).filter (fun n => decide (w n ≠ 0)) := ⟨_, rfl⟩
  have fl0 : fl 0 = [] := by rw [efl]; rfl
  have fls : ∀ i, fl (i + 1) = if w i ≠ 0 then fl i ++ [i] else fl i := fun i => by
    rw [efl]
    simp only
    rw [List.range_succ, List.filter_append]
    by_cases c : w i ≠ 0
    · rw [if_pos c, List.filter_cons_of_pos (by simpa using c)]; rfl
    · rw [if_neg c, List.filter_cons_of_neg (by simpa using c)]; simp
  have fll : ∀ i, (fl i).length ≤ i := fun i => by
    induction i with
    | zero => rw [fl0]; exact Nat.le_refl _
    | succ i ih =>
      rw [fls]
      split
      · rw [List.length_append]; simp; exact ih
      · omega
  have flm : ∀ i j, j < (fl i).length → (fl i).getD j 0 < i := fun i => by
    induction i with
    | zero => intro j hj; rw [fl0] at hj; exact absurd hj (by simp)
    | succ i ih =>
      intro j hj
      rw [fls] at hj ⊢
      by_cases c : w i ≠ 0
      · rw [if_pos c] at hj ⊢
        by_cases e : j < (fl i).length
        · rw [gd_1 _ _ _ e]; have := ih j e; omega
        · simp at hj
          rw [show j = (fl i).length by omega, gd_2]; omega
      · rw [if_neg c] at hj ⊢; have := ih j hj; omega
  have main : ∀ υ, Eqx [52, 57, 58] σ υ → (k : Int) ≤ sm w (m 1).toNat → gI υ 52 10 = II ((fl (m 1).toNat).length : Nat) → (∀ j, j < (fl (m 1).toNat).length → gI υ 57 j = II ((fl (m 1).toNat).getD j 0 : Nat) ∧ gI υ 58 j = II (w ((fl (m 1).toNat).getD j 0))) → ∃ f, wbX10_sharing_100 post f (II k) (II v) (II (sm w (m 1).toNat)) (II 0) υ := by
    intro υ uE hkt u10 u57
    have l16 := fll (m 1).toNat
    have wt2 := wt (m 1).toNat (by omega)
    have key := up (P := fun f i => ∀ ω, Eqx [59] υ ω → (∀ j, j < i → gI ω 59 j = II (km A (fl (m 1).toNat) ((fl (m 1).toNat).getD j 0) (fl (m 1).toNat).length : Nat)) → wbX10_sharing_100 post f (II k) (II v) (II (sm w (m 1).toNat)) (II i) ω) (fl (m 1).toNat).length ?_ ?_ 0 (by omega)
    · obtain ⟨f, hf⟩ := key
      exact ⟨f, hf υ (Eqx.refl _ _) (fun j hj => absurd hj (by omega))⟩
    · intro f ω wE wK
      have w10 : gI ω 52 10 = II ((fl (m 1).toNat).length : Nat) := by rw [Eqx_gI wE (by simp)]; exact u10
      have wR : SR σ ω := SR_x (L := [52, 57, 58, 59]) (Eqx.trans (Eqx.mono uE (by simp)) (Eqx.mono wE (by simp))) (by simp)
      simp (disch := omega) only [wbX10_sharing_100, w10, I_le, I_lit]
      refine ⟨fun _ => ?_, fun z => absurd (Int.le_refl _) z⟩
      rw [show sm w (m 1).toNat = ((sm w (m 1).toNat).toNat : Nat) by omega]
      refine comb_ok hk.2 (by omega) (by omega) ?_
      refine unlike_ok (w := w) (A := A) (l := fl (m 1).toNat) (by omega) w10 (fun j hj => by rw [Eqx_gI wE (by simp)]; exact (u57 j hj).2) wK wb 12 k 0 0 (fun _ => false) _ (by omega) hk.2 (by omega) (by decide) (fun j _ _ => by simp) ?_
      have := h1 hkt ω wR
      rw [show sm w (m 1).toNat = (((sm w (m 1).toNat).toNat : Nat) : Int) by omega] at this
      have e : hl w A (List.drop 0 (fl (m 1).toNat)) k (fun _ => false) = hl w A (List.range (m 1).toNat) k (fun _ => false) := by
        rw [List.drop_zero, efl]; exact hl_filter _ _ _
      rw [e]; exact this
    · intro f i hi ih ω wE wK
      have w10 : gI ω 52 10 = II ((fl (m 1).toNat).length : Nat) := by rw [Eqx_gI wE (by simp)]; exact u10
      have wR : SR σ ω := SR_x (L := [52, 57, 58, 59]) (Eqx.trans (Eqx.mono uE (by simp)) (Eqx.mono wE (by simp))) (by simp)
      have nx : wbX10_sharing_100 post f (II k) (II v) (II (sm w (m 1).toNat)) (II ((i : Int) + 1)) (sI ω 59 i (II (km A (fl (m 1).toNat) ((fl (m 1).toNat).getD i 0) (fl (m 1).toNat).length : Nat))) := by
        refine ih _ (Eqx_tI wE (by simp)) (fun j hj => ?_)
        by_cases e : j = i
        · rw [e, rI1]
        · rw [rI3 e]; exact wK j (by omega)
      simp (disch := omega) only [wbX10_sharing_100, w10, I_le, I_lit, I_eq, I_in, true_and, I_cl, Int.toNat_natCast, fe, I_add]
      refine ⟨fun z => absurd z (by omega), fun _ => ⟨fun z => ?_, fun z => ?_⟩⟩
      · have e : ∀ N, km A (fl (m 1).toNat) ((fl (m 1).toNat).getD i 0) N = 0 := fun N => by
          induction N with
          | zero => rfl
          | succ N ih => simp only [km]; rw [hA0 z, if_neg (by decide)]; exact ih
        rw [e] at nx; exact nx
      · exact kinOf_ok w1 (SR_B hA hB wR).1 (hA1 z) (by omega) (fun j hj => by have := flm (m 1).toNat j hj; omega) w10 (fun j hj => by rw [Eqx_gI wE (by simp)]; exact (u57 j hj).1) hi nx
  unfold wpX10_sharing
  simp only [fe]
  have key := up (P := fun f i => ∀ υ, Eqx [52, 57, 58] σ υ → gI υ 52 10 = II ((fl i).length : Nat) → (∀ j, j < (fl i).length → gI υ 57 j = II ((fl i).getD j 0 : Nat) ∧ gI υ 58 j = II (w ((fl i).getD j 0))) → wbX10_sharing_11 post f (II p) (II y) (II k) (II v) (II (sm w i)) (II i) υ) (m 1).toNat ?_ ?_ 0 (by omega)
  · obtain ⟨f, hf⟩ := key
    exact ⟨f, hf _ (Eqx_tI (Eqx.refl _ _) (by simp)) (by rw [rI1, fl0]; rfl) (fun j hj => by rw [fl0] at hj; exact absurd hj (by simp))⟩
  · intro f υ uE u10 u57
    have uR : SR σ υ := SR_x uE (by simp)
    have n1 := (SR_B hA hB uR).1.1
    have wt2 := wt (m 1).toNat (by omega)
    simp (disch := omega) only [wbX10_sharing_11, n1, I_le, I_lit, I_neg]
    exact ⟨fun _ => ⟨fun q => main υ uE q u10 u57, fun q => h0 q υ uR⟩, fun z => absurd (by omega) z⟩
  · intro f i hi ih υ uE u10 u57
    have uR : SR σ υ := SR_x uE (by simp)
    have uB := SR_B hA hB uR
    have wi := wb i
    have li := fll i
    have es : sm w (i + 1) = sm w i + w i := rfl
    rw [es] at ih
    simp (disch := omega) only [wbX10_sharing_11, uB.1.1, I_le, I_lit, I_add, Int.zero_add]
    refine ⟨fun z => absurd z (by omega), fun _ => ?_⟩
    refine between_ok uB.2.2.2.2.1 (by omega) (by omega) (by omega) (by omega) ?_
    have ewi : rg (gy (run (KK m U T) (m 0).toNat) p i) ((y : Int) + 40).toNat ((y : Int) + 41).toNat = w i := by
      rw [show ((y : Int) + 41).toNat = ((y : Int) + 40).toNat + 1 by omega, rg_one, ew, show ((y : Int) + 40).toNat = 40 + y by omega]; rfl
    rw [ewi, I_le (by omega)]
    simp only [fe]
    refine ⟨fun z => ?_, fun z => ?_⟩
    · have e : w i = 0 := by omega
      have ih := ih υ uE
      rw [fls, if_neg (by omega), e, Int.add_zero] at ih
      exact ih u10 u57
    · have f1 : gI (sI υ 57 (fl i).length (II i)) 52 10 = II ((fl i).length : Nat) := by rw [rI2 (by omega)]; exact u10
      have f2 : gI (sI (sI υ 57 (fl i).length (II i)) 58 (fl i).length (II (w i))) 52 10 = II ((fl i).length : Nat) := by rw [rI2 (by omega)]; exact f1
      simp (disch := omega) only [u10, I_in, true_and, I_cl, Int.toNat_natCast, f1, f2, I_add]
      have ih := ih (sI (sI (sI υ 57 (fl i).length (II i)) 58 (fl i).length (II (w i))) 52 10 (II (((fl i).length : Int) + 1))) (Eqx_tI (Eqx_tI (Eqx_tI uE (by simp)) (by simp)) (by simp))
      rw [fls, if_pos (by omega)] at ih
      refine ih ?_ (fun j hj => ?_)
      · rw [rI1]; simp
      · simp at hj
        by_cases e : j = (fl i).length
        · rw [e, gd_2, rI2 (by omega), rI2 (by omega), rI1, rI2 (by omega), rI1]
          exact ⟨rfl, rfl⟩
        · rw [gd_1 _ _ _ (by omega), rI2 (by omega), rI2 (by omega), rI3 e, rI2 (by omega), rI3 e, rI2 (by omega)]
          exact u57 j (by omega)
