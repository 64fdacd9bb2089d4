def LYn (τ : St) (G : GV) (K : KT) (y : Nat) (ta : Nat → Int) (n : Nat) : Prop :=
  gI τ 108 n = II (rg (gy G 5 n) ((40 + y : Nat) - K.1 6 + 1).toNat (40 + y)) ∧
  gI τ 108 (16 + n) = II (rg (gy G 6 n) ((40 + y : Nat) - K.1 6 + 1).toNat (40 + y) - rg (gy G 5 n) ((40 + y : Nat) - K.1 6 + 1).toNat (40 + y)) ∧
  gI τ 109 n = II (min ((y : Int) - lat G n (40 + y)) 99) ∧
  gI τ 110 n = II (gt G (40 + y - 1) 6 n - gt G (40 + y - 2) 6 n) ∧
  gI τ 111 n = II (snd K G (40 + y) n) ∧
  gI τ 112 n = II (flm K.1 (kw K) y n) ∧
  (∀ s, s < 2 → ta s ≠ -1 → LQ τ G K.1 (kT K) (40 + y) s n (ta s).toNat)
def LY (τ : St) (G : GV) (K : KT) (y : Nat) (ta : Nat → Int) : Prop := (∀ n, n < kn K → LYn τ G K y ta n) ∧ gI τ 75 55 = II (lsn K.1 y (K.1 2).toNat)
def F75 (σ τ : St) : Prop := ∀ k, k < 55 → gI τ 75 k = gI σ 75 k
theorem F75.trans {σ τ υ : St} (h : F75 σ τ) (h2 : F75 τ υ) : F75 σ υ := fun k hk => (h2 k hk).trans (h k hk)
theorem lat_in (G : GV) (n N : Nat) : lat G n N = -1000 ∨ (-40 ≤ lat G n N ∧ lat G n N < (N : Int) - 40) := by
  induction N with
  | zero => exact Or.inl rfl
  | succ N ih => simp only [lat]; split <;> omega
theorem lays_b {σ : St} {G : GV} {K : KT} {y n : Nat} {ta : Nat → Int} {K3 : Int32 → Int32 → Int32 → Int32 → St → Prop} {post : St → Prop} (C : Cx1 σ G K y ta) (hn : n < kn K) (hw : -1 ≤ kw K ∧ kw K < 8)
    (hk : ∀ υ, Eqx [105, 106, 107, 109, 110, 111, 112] σ υ → LSx σ υ n → (∀ q, 109 ≤ q → q ≤ 112 → ∀ n', n' ≠ n → gI υ q n' = gI σ q n') → gI υ 109 n = II (min ((y : Int) - lat G n (40 + y)) 99) → gI υ 110 n = II (gt G (40 + y - 1) 6 n - gt G (40 + y - 2) 6 n) → gI υ 111 n = II (snd K G (40 + y) n) → gI υ 112 n = II (flm K.1 (kw K) y n) → (∀ s, s < 2 → ta s ≠ -1 → LQ υ G K.1 (kT K) (40 + y) s n (ta s).toNat) → K3 (II y) (II (kw K)) (II (if kq K then 1 else 0)) (II ((n : Int) + 1)) υ) :
    ∃ f, wbX12_lays_121 K3 post f (II y) (II (kw K)) (II (if kq K then 1 else 0)) (II n) (II ((y : Int) - 1)) σ := by
  have w1 := C.1.2.1.2.1
  have kn16 : kn K ≤ 16 := by unfold kn; omega
  have hy := C.2.2.2.2.2
  have t172 : ∀ v : Int, v = min ((y : Int) - lat G n (40 + y)) 99 → wbX12_lays_172 K3 post (II y) (II (kw K)) (II (if kq K then 1 else 0)) (II n) (II v) (II n) σ := by
    intro v hv
    have CG : ∀ v, RG (sI σ 109 n v) G := fun v => RG_eq C.2.1 (fun q h1 h2 => ce_sI _ _ _ _ _ (by omega))
    simp (disch := omega) only [wbX12_lays_172, I_in, true_and, fe, I_cl, Int.toNat_natCast, I_lit, I_sub]
    refine all_ok (CG _) (by omega) (by omega) ?_
    refine all_ok (CG _) (by omega) (by omega) ?_
    rw [if_neg (show ¬ ((y : Int) - 1 < -40) by omega), if_neg (show ¬ ((y : Int) - 2 < -40) by omega), I_sub]
    refine lays_m (ta := ta) (Cx1_eq C ?_) hn hw rI1 ?_
    · exact Eqx_tI (Eqx_tI (Eqx_tI (Eqx.refl _ _) (by simp)) (by simp)) (by simp)
    · intro υ uE uX uo u1 u2 uL
      refine hk υ ?_ ?_ ?_ ?_ ?_ u1 u2 uL
      · exact Eqx.trans (Eqx_tI (Eqx_tI (Eqx_tI (Eqx.refl _ _) (by simp)) (by simp)) (by simp)) (Eqx.mono uE (by simp))
      · refine LSx.trans ⟨fun s' a p b n' c d => ?_, fun s' a q b n' c d => ?_, fun s' a n' c d => ?_⟩ uX
        · rw [rI2 (by omega), rI2 (by omega), rI2 (by omega)]
        · rw [rI2 (by omega), rI2 (by omega), rI2 (by omega)]
        · rw [rI2 (by omega), rI2 (by omega), rI2 (by omega)]
      · intro q h1 h2 n' hne
        by_cases c : q = 111 ∨ q = 112
        · rw [uo q c n' hne]
          simp only [gI_sI, hne, and_false, if_false]
        · rw [Eqx_gI uE (by simp; omega)]
          simp only [gI_sI, hne, and_false, if_false]
      · rw [Eqx_gI uE (by simp), rI2 (by omega), rI2 (by omega), rI1, hv]
      · rw [Eqx_gI uE (by simp), rI2 (by omega), rI1]
        congr 1
        rw [show ((y : Int) - 1 + 40).toNat = 40 + y - 1 by omega, show ((y : Int) - 2 + 40).toNat = 40 + y - 2 by omega]
  have key := dn (P := fun f Z => Z ≤ 40 + y → lat G n (40 + y) = lat G n Z → wbX12_lays_121 K3 post f (II y) (II (kw K)) (II (if kq K then 1 else 0)) (II n) (II ((Z : Int) - 41)) σ) ?_ ?_ (40 + y)
  · obtain ⟨f, hf⟩ := key
    have := hf (Nat.le_refl _) rfl
    rw [show ((40 + y : Nat) : Int) - 41 = (y : Int) - 1 by omega] at this
    exact ⟨f, this⟩
  · intro f _ hl
    have e0 : lat G n 0 = -1000 := rfl
    simp (disch := omega) only [wbX12_lays_121, wbX12_lays_145, I_lit, I_neg, I_lt, I_le]
    refine ⟨fun _ => ⟨fun z => absurd z (by omega), fun _ => ?_⟩, fun z => absurd (by omega) z⟩
    exact t172 _ (by omega)
  · intro f Z ih hZ hl
    have g0 := gt_nn C.2.2.1 Z 6 n
    have g1 := gt_le C.2.2.1 Z 6 n
    have hlz : lat G n (Z + 1) = if 0 < gt G Z 6 n then (Z : Int) - 40 else lat G n Z := rfl
    rw [show ((Z + 1 : Nat) : Int) - 41 = (Z : Int) - 40 by omega]
    simp (disch := omega) only [wbX12_lays_121, wbX12_lays_145, I_lit, I_neg, I_lt, I_le]
    refine ⟨fun z => absurd z (by omega), fun _ => ?_⟩
    refine all_ok C.2.1 (by omega) (by omega) ?_
    rw [if_neg (by omega), show ((Z : Int) - 40 + 40).toNat = Z by omega]
    simp (disch := omega) only [I_eq, fe, I_add, I_sub]
    refine ⟨fun c => ⟨fun _ => ?_, fun z => absurd (by omega) z⟩, fun c => ?_⟩
    · refine lesser_ok (by omega) ?_
      rw [if_pos (by omega)] at hlz
      refine t172 _ ?_
      rw [hl, hlz]; omega
    · rw [if_neg (by omega)] at hlz
      rw [show (Z : Int) - 40 + -1 = (Z : Int) - 41 by omega]
      exact ih (by omega) (hl.trans hlz)
theorem lays_ok {σ : St} {G : GV} {K : KT} {y : Nat} {ta : Nat → Int} {post : St → Prop} (C : Cx1 σ G K y ta) (hw : -1 ≤ kw K ∧ kw K < 8)
    (hp : ∀ τ, Eqx [75, 105, 106, 107, 108, 109, 110, 111, 112] σ τ → F75 σ τ → LY τ G K y ta → post τ) : wpX12_lays (II y) (II (kw K)) (II (if kq K then 1 else 0)) σ post := by
  have w1 := C.1.2.1.2.1
  have w2 := C.1.2.1.2.2.1
  have w6 := C.1.2.1.2.2.2.2.2.2.1
  have kn16 : kn K ≤ 16 := by unfold kn; omega
  have kne : K.1 1 = (kn K : Int) := by unfold kn; omega
  have hy := C.2.2.2.2.2
  unfold wpX12_lays
  have key := up (P := fun f i => ∀ τ : St, Eqx [105, 106, 107, 108, 109, 110, 111, 112] σ τ → (∀ n, n < i → LYn τ G K y ta n) → wbX12_lays_3 post f (II y) (II (kw K)) (II (if kq K then 1 else 0)) (II i) τ) (kn K) ?_ ?_ 0 (by omega)
  · obtain ⟨f, hf⟩ := key
    exact ⟨f, hf σ (Eqx.refl _ _) (fun n hn => absurd hn (by omega))⟩
  · intro f τ hE hL
    have e1 : gI τ 76 1 = II (K.1 1) := by rw [Eqx_gI hE (by simp)]; exact C.1.1 1
    simp (disch := omega) only [wbX12_lays_3, I_lit, I_in, true_and, I_cl, Int.reduceToNat, e1, I_le, fe]
    refine ⟨fun _ => ?_, fun z => absurd (by omega) z⟩
    have hlr : ∀ k : Nat, (k : Int) ≤ K.1 2 → 0 ≤ lsn K.1 y k ∧ lsn K.1 y k < 65536 := by
      intro k
      induction k with
      | zero => intro _; simp only [lsn]; omega
      | succ k ih =>
        intro hk
        have a := ih (by omega)
        have b := C.1.2.1.2.2.2.2.2.2.2.2.2.2.1 k (by omega)
        simp only [lsn]; split
        · exact ⟨b.2.2.1, b.2.2.2⟩
        · exact a
    have key2 := up (P := fun f k => ∀ υ : St, Eqx [75, 105, 106, 107, 108, 109, 110, 111, 112] σ υ → F75 σ υ → (∀ q, 105 ≤ q → q ≤ 112 → υ q = τ q) → gI υ 75 55 = II (lsn K.1 y k) → wbX12_lays_349 post f (II y) (II k) υ) (K.1 2).toNat ?_ ?_ 0 (by omega)
    · obtain ⟨f, hf⟩ := key2
      refine ⟨f, hf _ (Eqx_tI (Eqx.mono hE (by simp)) (by simp)) (fun k hk => ?_) (fun q h1 h2 => ce_sI _ _ _ _ _ (by omega)) rI1⟩
      rw [rI3 (by omega), Eqx_gI hE (by simp)]
    · intro f υ uE uF uq u55
      have e2 : gI υ 76 2 = II (K.1 2) := by rw [Eqx_gI uE (by simp)]; exact C.1.1 2
      simp (disch := omega) only [wbX12_lays_349, I_lit, I_in, true_and, I_cl, Int.reduceToNat, e2, I_le, fe]
      refine ⟨fun _ => hp υ uE uF ⟨fun n hn => ?_, u55⟩, fun z => absurd (by omega) z⟩
      obtain ⟨a1, a2, a3, a4, a5, a6, a7⟩ := hL n hn
      refine ⟨by rw [gI_of (uq 108 (by omega) (by omega))]; exact a1, by rw [gI_of (uq 108 (by omega) (by omega))]; exact a2, by rw [gI_of (uq 109 (by omega) (by omega))]; exact a3, by rw [gI_of (uq 110 (by omega) (by omega))]; exact a4, by rw [gI_of (uq 111 (by omega) (by omega))]; exact a5, by rw [gI_of (uq 112 (by omega) (by omega))]; exact a6, fun s hs hne => ?_⟩
      obtain ⟨b1, b2, b3⟩ := a7 s hs hne
      exact ⟨fun p hp => by rw [gI_of (uq 105 (by omega) (by omega))]; exact b1 p hp, fun q hq => by rw [gI_of (uq 106 (by omega) (by omega))]; exact b2 q hq, by rw [gI_of (uq 107 (by omega) (by omega))]; exact b3⟩
    · intro f k hk ih υ uE uF uq u55
      have e2 : gI υ 76 2 = II (K.1 2) := by rw [Eqx_gI uE (by simp)]; exact C.1.1 2
      have ek : gI υ 76 (50 + 2 * k) = II (K.1 (50 + 2 * k)) := by rw [Eqx_gI uE (by simp)]; exact C.1.1 _
      have ek1 : gI υ 76 (50 + 2 * k + 1) = II (K.1 (50 + 2 * k + 1)) := by rw [Eqx_gI uE (by simp)]; exact C.1.1 _
      have b := C.1.2.1.2.2.2.2.2.2.2.2.2.2.1 k (by omega)
      have i0 : (50 + 2 * (k : Int)).toNat = 50 + 2 * k := by omega
      have i1 : (50 + 2 * (k : Int) + 1).toNat = 50 + 2 * k + 1 := by omega
      have hl := hlr k (by omega)
      simp (disch := omega) only [wbX12_lays_349, I_lit, I_in, true_and, I_cl, Int.reduceToNat, e2, I_le, fe, I_add, I_mul, i0, i1, ek, ek1, I_lt]
      have hs : lsn K.1 y (k + 1) = if K.1 (50 + 2 * k) ≤ y then K.1 (50 + 2 * k + 1) else lsn K.1 y k := rfl
      refine ⟨fun z => absurd z (by omega), fun _ => ⟨fun c => ?_, fun c => ?_⟩⟩
      · refine ih _ (Eqx_tI uE (by simp)) (fun j hj => by rw [rI3 (by omega)]; exact uF j hj) (fun q h1 h2 => by rw [ce_sI _ _ _ _ _ (by omega), uq q h1 h2]) ?_
        rw [rI1, hs, if_neg (by omega), u55]
      · refine ih _ (Eqx_tI uE (by simp)) (fun j hj => by rw [rI3 (by omega)]; exact uF j hj) (fun q h1 h2 => by rw [ce_sI _ _ _ _ _ (by omega), uq q h1 h2]) ?_
        rw [rI1, hs, if_pos (by omega)]
  · intro f i hi ih τ hE hL
    have C2 : Cx1 τ G K y ta := Cx1_eq C (Eqx.mono hE (by simp))
    have e1 : gI τ 76 1 = II (K.1 1) := C2.1.1 1
    have e6 : gI τ 76 6 = II (K.1 6) := C2.1.1 6
    simp (disch := omega) only [wbX12_lays_3, I_lit, I_in, true_and, I_cl, Int.reduceToNat, e1, e6, I_le, fe, I_sub, I_add, I_neg]
    refine ⟨fun z => absurd z (by omega), fun _ => ?_⟩
    refine greater_ok (by omega) ?_
    have eb : max (-40) ((y : Int) - K.1 6 + 1) = (((((40 + y : Nat) : Int) - K.1 6 + 1).toNat : Nat) : Int) - 40 := by omega
    rw [eb]
    have hB0 : (((40 + y : Nat) : Int) - K.1 6 + 1).toNat ≤ 40 + y := by omega
    have key3 := up (P := fun g Z => (((40 + y : Nat) : Int) - K.1 6 + 1).toNat ≤ Z → wbX12_lays_38 (wbX12_lays_3 post f) post g (II y) (II (kw K)) (II (if kq K then 1 else 0)) (II i) (II (rg (gy G 5 i) (((40 + y : Nat) : Int) - K.1 6 + 1).toNat Z)) (II (rg (gy G 6 i) (((40 + y : Nat) : Int) - K.1 6 + 1).toNat Z - rg (gy G 5 i) (((40 + y : Nat) : Int) - K.1 6 + 1).toNat Z)) (II ((Z : Int) - 40)) τ) (40 + y) ?_ ?_ _ hB0
    · obtain ⟨g, hg⟩ := key3
      have := hg (Nat.le_refl _)
      rw [rg_nil (Nat.le_refl _), rg_nil (Nat.le_refl _)] at this
      exact ⟨g, this⟩
    · intro g _
      simp (disch := omega) only [wbX12_lays_38, I_lit, I_le, I_in, true_and, fe, I_cl, I_sub, I_add, Int.toNat_natCast]
      refine ⟨fun _ => ?_, fun z => absurd (by omega) z⟩
      rw [show (16 + (i : Int)).toNat = 16 + i by omega]
      refine lays_b (ta := ta) (Cx1_eq C2 (Eqx_tI (Eqx_tI (Eqx.refl _ _) (by simp)) (by simp))) hi hw ?_
      intro υ uE uX uo u9 u10 u11 u12 uL
      refine ih υ (Eqx.trans (Eqx_tI (Eqx_tI hE (by simp)) (by simp)) (Eqx.mono uE (by simp))) (fun n hn => ?_)
      have u108 : ∀ k, gI υ 108 k = gI (sI (sI τ 108 i (II (rg (gy G 5 i) (((40 + y : Nat) : Int) - K.1 6 + 1).toNat (40 + y)))) 108 (16 + i) (II (rg (gy G 6 i) (((40 + y : Nat) : Int) - K.1 6 + 1).toNat (40 + y) - rg (gy G 5 i) (((40 + y : Nat) : Int) - K.1 6 + 1).toNat (40 + y)))) 108 k := fun k => Eqx_gI uE (by simp) k
      by_cases e : n = i
      · subst e
        refine ⟨?_, ?_, u9, u10, u11, u12, uL⟩
        · rw [u108, rI3 (by omega), rI1]
        · rw [u108, rI1]
      · obtain ⟨a1, a2, a3, a4, a5, a6, a7⟩ := hL n (by omega)
        refine ⟨?_, ?_, ?_, ?_, ?_, ?_, fun s hs hne => ?_⟩
        · rw [u108, rI3 (by omega), rI3 (by omega)]; exact a1
        · rw [u108, rI3 (by omega), rI3 (by omega)]; exact a2
        · rw [uo 109 (by omega) (by omega) n e, rI2 (by omega), rI2 (by omega)]; exact a3
        · rw [uo 110 (by omega) (by omega) n e, rI2 (by omega), rI2 (by omega)]; exact a4
        · rw [uo 111 (by omega) (by omega) n e, rI2 (by omega), rI2 (by omega)]; exact a5
        · rw [uo 112 (by omega) (by omega) n e, rI2 (by omega), rI2 (by omega)]; exact a6
        · have b := a7 s hs hne
          refine LQ_x (σ := sI (sI τ 108 i _) 108 (16 + i) _) ⟨fun p hp => ?_, fun q hq => ?_, ?_⟩ uX hs (by omega) e
          · rw [rI2 (by omega), rI2 (by omega)]; exact b.1 p hp
          · rw [rI2 (by omega), rI2 (by omega)]; exact b.2.1 q hq
          · rw [rI2 (by omega), rI2 (by omega)]; exact b.2.2
    · intro g Z hZ ih2 hBZ
      simp (disch := omega) only [wbX12_lays_38, I_lit, I_le, I_in, true_and, fe, I_cl, I_sub, I_add, I_mul]
      refine ⟨fun z => absurd z (by omega), fun _ => ?_⟩
      have g0 : gx G Z 0 i = gt G Z 5 i := rfl
      have g1 : gx G Z 1 i = gt G Z 6 i - gt G Z 5 i := rfl
      rw [show (32 * ((Z : Int) - 40 + 40) + i).toNat = 32 * Z + 16 * 0 + i by omega, show (32 * ((Z : Int) - 40 + 40) + 16 + i).toNat = 32 * Z + 16 * 1 + i by omega, C2.2.1.2.2.2.2 Z (by omega) 0 (by omega) i (by omega), C2.2.1.2.2.2.2 Z (by omega) 1 (by omega) i (by omega), I_add, I_add, show (Z : Int) - 40 + 1 = ((Z + 1 : Nat) : Int) - 40 by omega, g0, g1]
      have := ih2 (by omega)
      rw [rg_succ hBZ, rg_succ hBZ] at this
      have e5 : gy G 5 i Z = gt G Z 5 i := rfl
      have e6 : gy G 6 i Z = gt G Z 6 i := rfl
      rw [e5, e6] at this
      rw [show rg (gy G 6 i) (((40 + y : Nat) : Int) - K.1 6 + 1).toNat Z - rg (gy G 5 i) (((40 + y : Nat) : Int) - K.1 6 + 1).toNat Z + (gt G Z 6 i - gt G Z 5 i) = rg (gy G 6 i) (((40 + y : Nat) : Int) - K.1 6 + 1).toNat Z + gt G Z 6 i - (rg (gy G 5 i) (((40 + y : Nat) : Int) - K.1 6 + 1).toNat Z + gt G Z 5 i) by omega]
      exact this
