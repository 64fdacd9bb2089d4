theorem away_ok {σ : St} {a : Int} {post : Int32 → St → Prop} (h : -2147483648 < a ∧ a < 2147483648) (hp : post (II (ab a)) σ) : wpX12_away (II a) σ post := by
  simp (disch := omega) only [wpX12_away, I_lit, I_le, I_neg]
  unfold ab at hp
  exact ⟨fun q => by rw [if_pos q] at hp; exact hp, fun q => by rw [if_neg q] at hp; exact hp⟩
theorem thousandths_ok {σ : St} {G : GV} {m : MT} {y s n : Nat} {post : Int32 → St → Prop} (hR : RG σ G) (hG : GB G) (hN : GN G (m 1).toNat) (hm : RM σ m) (w1 : 0 ≤ m 1 ∧ m 1 ≤ 16) (hy : y ≤ 60) (hs : s < 2) (hn : n < 16) (hp : post (II (thd G s (40 + y) n)) σ) : wpX12_thousandths (II y) (II s) (II n) σ post := by
  have e1 : gI σ 76 1 = II (m 1) := hm 1
  have r := hR.2.2.2.1 (40 + y) (by omega) s hs
  have b := gT_b hG (3 + s) (40 + y) n hn
  have et : gT G (3 + s) (40 + y) = sm (fun n => gt G (40 + y) (3 + s) n) (m 1).toNat := sm_ext (by omega) (fun k hk _ => gt_GN hN _ _ k hk)
  have eh : thd G s (40 + y) n = if gT G (3 + s) (40 + y) = 0 then 0 else gt G (40 + y) (3 + s) n * 1000 / gT G (3 + s) (40 + y) := rfl
  have j : ∀ i : Nat, (32 * ((y : Int) + 40) + 16 * (s : Int) + (i : Int)).toNat = 32 * (40 + y) + 16 * s + i := fun i => by omega
  unfold wpX12_thousandths
  refine up (P := fun f i => wbX12_thousandths_6 post f (II y) (II s) (II n) (II (sm (fun n => gt G (40 + y) (3 + s) n) i)) (II i) σ) (m 1).toNat ?_ ?_ 0 (by omega)
  · intro f
    rw [← et]
    simp (disch := omega) only [wbX12_thousandths_6, I_lit, I_in, true_and, I_cl, Int.reduceToNat, e1, I_le, I_add, I_mul, I_eq, j, r n hn]
    refine ⟨fun _ => ⟨fun q => ⟨q, ?_⟩, fun q => ?_⟩, fun q => absurd (by omega) q⟩
    · rw [I_div (by omega), Int.mul_comm 1000]
      rw [eh, if_neg q] at hp; exact hp
    · rw [eh, if_pos q] at hp; exact hp
  · intro f i hi ih
    have es : sm (fun n => gt G (40 + y) (3 + s) n) (i + 1) = sm (fun n => gt G (40 + y) (3 + s) n) i + gt G (40 + y) (3 + s) i := rfl
    rw [es] at ih
    simp (disch := omega) only [wbX12_thousandths_6, I_lit, I_in, true_and, I_cl, Int.reduceToNat, e1, I_le, I_add, I_mul, j, r i (by omega), fe]
    exact ⟨fun q => absurd q (by omega), fun _ => ih⟩
theorem lagOf_ok {σ : St} {G : GV} {m : MT} {k : Nat} {post : Int32 → St → Prop} (hR : RG σ G) (hG : GB G) (hN : GN G (m 1).toNat) (hm : RM σ m) (w0 : 0 ≤ m 0 ∧ m 0 ≤ 61) (w1 : 0 ≤ m 1 ∧ m 1 ≤ 16) (hk : k ≤ 20) (hp : post (II (dL G (m 0) k)) σ) : wpX12_lagOf (II k) σ post := by
  have e0 : gI σ 76 0 = II (m 0) := hm 0
  have e1 : gI σ 76 1 = II (m 1) := hm 1
  unfold wpX12_lagOf
  simp (disch := omega) only [I_lit, I_in, true_and, I_cl, Int.reduceToNat, e0, fe, I_sub, I_lt, I_neg]
  refine ⟨fun q => ?_, fun q => ?_⟩
  · have hd : dL G (m 0) k = sL2 G k (m 0 - k).toNat / (m 0 - k) := if_pos (by omega)
    rw [hd] at hp
    have b := sL2_in hG k (m 0 - k).toNat (by omega)
    refine up (P := fun f y => wbX12_lagOf_20 post f (II k) (II (m 0 - k)) (II (sL2 G k y)) (II y) σ) (m 0 - k).toNat ?_ ?_ 0 (by omega)
    · intro f
      simp (disch := omega) only [wbX12_lagOf_20, I_lit, I_le, I_eq, I_div]
      exact ⟨fun _ => ⟨by omega, hp⟩, fun q2 => absurd (by omega) q2⟩
    · intro f y hy ih
      have es : sL2 G k (y + 1) = sL2 G k y + sm (fun n => hL G k y n) 16 := rfl
      have ez : sm (fun n => hL G k y n) 16 = sm (fun n => hL G k y n) (m 1).toNat := sm_ext (by omega) (fun n hn _ => by unfold hL; rw [thd_z hN _ _ _ hn, thd_z hN _ _ _ hn]; rfl)
      rw [es, ez] at ih
      simp (disch := omega) only [wbX12_lagOf_20, I_le]
      refine ⟨fun q2 => absurd q2 (by omega), fun _ => ?_⟩
      have key := up (P := fun g n => wbX12_lagOf_29 (wbX12_lagOf_20 post f) post g (II k) (II (m 0 - k)) (II (sL2 G k y + sm (fun n => hL G k y n) n)) (II y) (II n) σ) (m 1).toNat ?_ ?_ 0 (by omega)
      · obtain ⟨g, hg⟩ := key
        rw [show sm (fun n => hL G k y n) 0 = 0 from rfl, Int.add_zero] at hg
        exact ⟨g, hg⟩
      · intro g
        simp (disch := omega) only [wbX12_lagOf_29, I_lit, I_in, true_and, I_cl, Int.reduceToNat, e1, I_le, fe, I_add]
        exact ⟨fun _ => ih, fun q2 => absurd (by omega) q2⟩
      · intro g n hn ih2
        have t0 := thd_in hG 0 (40 + y) n (by omega)
        have t1 := thd_in hG 1 (40 + (y + k)) n (by omega)
        have es2 : sm (fun n => hL G k y n) (n + 1) = sm (fun n => hL G k y n) n + ab (thd G 0 (40 + y) n - thd G 1 (40 + (y + k)) n) := rfl
        rw [es2, ← Int.add_assoc] at ih2
        simp (disch := omega) only [wbX12_lagOf_29, I_lit, I_in, true_and, I_cl, Int.reduceToNat, e1, I_le, fe, I_add]
        refine ⟨fun q2 => absurd q2 (by omega), fun _ => thousandths_ok (s := 0) hR hG hN hm w1 (by omega) (by omega) (by omega) ?_⟩
        rw [show (y : Int) + (k : Int) = ((y + k : Nat) : Int) by omega]
        refine thousandths_ok (s := 1) hR hG hN hm w1 (by omega) (by omega) (by omega) ?_
        rw [I_sub]
        refine away_ok (by omega) ?_
        rw [I_add]
        exact ih2
  · rw [show dL G (m 0) k = -1 from if_neg (by omega)] at hp; exact hp
theorem rlag_ok {σ : St} {m mi : MT} {U : Nat → Nat} {T : TT} {k : Int} (h : Inv σ) (hA : IvA σ m mi U T) (hB : IvB σ m mi U T) (hk : -2147483648 ≤ k ∧ k < 2147483648) (G : GV) (eG : G = run (KK m U T) (m 0).toNat) (r : Int32)
    (r0 : m 0 = 0 → r = II (-1)) (r1 : m 0 ≠ 0 → k = 0 → r = II (bL (dL G (m 0)) 20)) (r2 : m 0 ≠ 0 → k = 1 → r = II (dL G (m 0) (bL (dL G (m 0)) 20))) (r3 : m 0 ≠ 0 → 10 ≤ k ∧ k ≤ 30 → r = II (dL G (m 0) (k - 10).toNat)) (r4 : m 0 ≠ 0 → ¬ (0 ≤ k ∧ k ≤ 1) → ¬ (10 ≤ k ∧ k ≤ 30) → r = II (-1)) :
    wpX12_lag (II k) σ (Q2 r) := by
  have hW := hA.2.2.1
  have w0 := hW.1
  have w1 := hW.2.1
  have hG : GB (run (KK m U T) (m 0).toNat) := GC_GB (run_GC (K := KK m U T) hW _).1
  have hN : GN (run (KK m U T) (m 0).toNat) (m 1).toNat := GN_run (KK m U T) _
  rw [← eG] at hG hN
  have e0 : gI σ 76 0 = II (m 0) := hA.1 0
  have main : m 0 ≠ 0 → (0 ≤ k ∧ k ≤ 1 ∨ 10 ≤ k ∧ k ≤ 30) → wbX12_lag_31 (Q2 r) (II k) σ := by
    intro hm0 hk2
    unfold wbX12_lag_31
    refine runsAll_ok hA hB ?_
    intro τ tR tG tn
    have tA := SR_A hA tR
    have tI := SR_I h tR
    rw [← eG] at tG
    simp (disch := omega) only [I_lit, I_lt, I_sub]
    refine ⟨fun q => ?_, fun q => ?_⟩
    · have key := up (P := fun f j => wbX12_lag_54 (Q2 r) f (II k) (II (bL (dL G (m 0)) j)) (II ((j : Int) + 1)) τ) 20 ?_ ?_ 0 (by omega)
      · exact key
      · intro f
        have l := bL_le (dL G (m 0)) 20
        simp (disch := omega) only [wbX12_lag_54, I_lit, I_lt, I_eq]
        refine ⟨fun _ => ⟨fun q2 => lagOf_ok tG hG hN tA.1 w0 w1 (by omega) ⟨r2 hm0 (by omega), tI⟩, fun q2 => ⟨r1 hm0 q2, tI⟩⟩, fun q2 => absurd (by omega) q2⟩
      · intro f j hj ih
        have l := bL_le (dL G (m 0)) j
        have d1 := dL_in hG (M := m 0) (by omega) (j + 1)
        have d2 := dL_in hG (M := m 0) (by omega) (bL (dL G (m 0)) j)
        have es : bL (dL G (m 0)) (j + 1) = if 0 ≤ dL G (m 0) (j + 1) ∧ dL G (m 0) (j + 1) < dL G (m 0) (bL (dL G (m 0)) j) then j + 1 else bL (dL G (m 0)) j := rfl
        have z : (j : Int) + 1 = ((j + 1 : Nat) : Int) := by omega
        simp (disch := omega) only [wbX12_lag_54, I_lit, I_neg, I_lt, fe, I_add]
        refine ⟨fun q2 => absurd q2 (by omega), fun _ => ?_⟩
        rw [z]
        refine lagOf_ok tG hG hN tA.1 w0 w1 (by omega) ?_
        rw [I_eq (by omega)]
        refine ⟨fun q2 => ?_, fun q2 => lagOf_ok tG hG hN tA.1 w0 w1 (by omega) ?_⟩
        · rw [es, if_neg (by omega)] at ih; exact ih
        · rw [I_le (by omega)]
          refine ⟨fun q3 => ?_, fun q3 => ?_⟩
          · rw [es, if_neg (by omega)] at ih; exact ih
          · rw [es, if_pos (by omega)] at ih; exact ih
    · rw [show k - 10 = (((k - 10).toNat : Nat) : Int) by omega]
      exact lagOf_ok tG hG hN tA.1 w0 w1 (by omega) ⟨r3 hm0 (by omega), tI⟩
  unfold wpX12_lag
  simp (disch := omega) only [I_lit, I_neg, I_in, true_and, I_cl, Int.reduceToNat, e0, I_eq]
  refine ⟨fun q => ⟨(r0 q).symm ▸ rfl, h⟩, fun q => in_ok (b := 0) (c := 1) (by omega) (fun q2 => ?_) (fun q2 => ?_)⟩
  · exact ⟨fun _ => main q (Or.inl q2), fun z => absurd z i10⟩
  · refine ⟨fun z => absurd i00 z, fun _ => in_ok (b := 10) (c := 30) (by omega) (fun q3 => ?_) (fun q3 => ?_)⟩
    · exact ⟨fun _ => main q (Or.inr q3), fun z => absurd z i10⟩
    · exact ⟨fun z => absurd i00 z, fun _ => ⟨(r4 q q2 q3).symm ▸ rfl, h⟩⟩
theorem lag_ok {σ : St} (h : Inv σ) (a : Int32) : wpX11_lag a σ (fun r τ => wpX12_lag a τ (Q2 r)) := by
  obtain ⟨m, mi, U, T, hA, hB⟩ := id h
  obtain ⟨k, k1, k2, rfl⟩ := I_of a
  have hW := hA.2.2.1
  have w0 := hW.1
  have e9 := hB.2.2.1.1
  obtain ⟨G, eG⟩ : ∃ G, G = run (KK m U T) (m 0).toNat := ⟨_, rfl⟩
  have hG : GB (run (KK m U T) (m 0).toNat) := GC_GB (run_GC (K := KK m U T) hW _).1
  rw [← eG] at hG
  unfold wpX11_lag
  simp (disch := omega) only [I_lit, I_neg, e9, I_eq]
  refine ⟨fun q => ?_, fun q => rlag_ok h hA hB (by omega) G eG _ (fun _ => rfl) (fun z => absurd q z) (fun z => absurd q z) (fun z => absurd q z) (fun z => absurd q z)⟩
  refine find_ok hA hB eG hG ?_
  intro τ tE tv
  have tR : SR σ τ := SR_x tE (by simp)
  have tA := SR_A hA tR
  have tB := SR_B hA hB tR
  have tI := SR_I h tR
  have t9 := tB.2.2.1.1
  refine wi_ok (b := 10) (c := 30) (by omega) (fun z => ?_) (fun z => ?_)
  · refine ⟨fun x => absurd x (by decide), fun _ => ?_⟩
    rw [I_sub, show k - 10 = (((k - 10).toNat : Nat) : Int) by omega]
    exact apartBy_ok hG t9 w0 (by omega) tv (rlag_ok tI tA tB (by omega) G eG _ (fun x => absurd x q) (by omega) (by omega) (fun _ _ => rfl) (by omega))
  · refine ⟨fun _ => ?_, fun x => absurd rfl x⟩
    refine wi_ok (b := 0) (c := 1) (by omega) (fun y => ?_) (fun y => ?_)
    · refine ⟨fun _ => leastLag_ok hG t9 (by omega) tv ?_, fun x => absurd x (by decide)⟩
      have l := bL_le (dL G (m 0)) 20
      refine ⟨fun c => apartBy_ok hG t9 w0 (by omega) tv (rlag_ok tI tA tB (by omega) G eG _ (fun x => absurd x q) (by omega) (fun _ _ => rfl) (by omega) (by omega)), fun c => rlag_ok tI tA tB (by omega) G eG _ (fun x => absurd x q) (fun _ _ => rfl) (by omega) (by omega) (by omega)⟩
    · exact ⟨fun x => absurd rfl x, fun _ => rlag_ok tI tA tB (by omega) G eG _ (fun x => absurd x q) (by omega) (by omega) (by omega) (fun _ _ _ => rfl)⟩
