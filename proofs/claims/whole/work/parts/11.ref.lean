def GZ : GV := fun _ _ _ => 0
theorem gt_z (Y g n : Nat) : gt GZ Y g n = 0 := sm_zero (fun c _ => by simp [GZ])
theorem clears_ok {σ : St} {post : St → Prop} (hp : ∀ τ, RG τ GZ → (∀ y, y < 61 → gI τ 103 y = II 0) → Eqx [98, 99, 100, 101, 102, 103] σ τ → post τ) : wpX12_clears σ post := by
  have gx_z : ∀ Y x n, gx GZ Y x n = 0 := fun Y x n => by unfold gx; rw [gt_z, gt_z]; split <;> rfl
  unfold wpX12_clears
  have key := up (P := fun m i => ∀ τ : St, Eqx [98, 99, 100, 101, 102, 103] σ τ → (∀ j, j < i → gI τ 98 j = II 0) → wbX12_clears_2 post m (II i) τ) 19392 ?_ ?_ 0 (by omega)
  · obtain ⟨m, hm⟩ := key
    exact ⟨m, hm σ (Eqx.refl _ _) (fun j hj => absurd hj (by omega))⟩
  · intro m τ hE h98
    simp (disch := omega) only [wbX12_clears_2, I_lit, I_le]
    refine ⟨fun _ => ?_, fun z => absurd (by omega) z⟩
    have key := up (P := fun m i => ∀ τ : St, Eqx [98, 99, 100, 101, 102, 103] σ τ → (∀ j, j < 19392 → gI τ 98 j = II 0) → (∀ j, j < i → gI τ 99 j = II 0) → wbX12_clears_24 post m (II i) τ) 1616 ?_ ?_ 0 (by omega)
    · obtain ⟨m, hm⟩ := key
      exact ⟨m, hm τ hE h98 (fun j hj => absurd hj (by omega))⟩
    · clear h98 hE; intro m τ hE h98 h99
      simp (disch := omega) only [wbX12_clears_24, I_lit, I_le]
      refine ⟨fun _ => ?_, fun z => absurd (by omega) z⟩
      have key := up (P := fun m i => ∀ τ : St, Eqx [98, 99, 100, 101, 102, 103] σ τ → (∀ j, j < 19392 → gI τ 98 j = II 0) → (∀ j, j < 1616 → gI τ 99 j = II 0) → (∀ j, j < i → gI τ 100 j = II 0) → wbX12_clears_46 post m (II i) τ) 4848 ?_ ?_ 0 (by omega)
      · obtain ⟨m, hm⟩ := key
        exact ⟨m, hm τ hE h98 h99 (fun j hj => absurd hj (by omega))⟩
      · clear h98 h99 hE; intro m τ hE h98 h99 h100
        simp (disch := omega) only [wbX12_clears_46, I_lit, I_le]
        refine ⟨fun _ => ?_, fun z => absurd (by omega) z⟩
        have key := up (P := fun m i => ∀ τ : St, Eqx [98, 99, 100, 101, 102, 103] σ τ → (∀ j, j < 19392 → gI τ 98 j = II 0) → (∀ j, j < 1616 → gI τ 99 j = II 0) → (∀ j, j < 4848 → gI τ 100 j = II 0) → (∀ j, j < i → gI τ 101 j = II 0) → (∀ j, j < i → gI τ 102 j = II 0) → wbX12_clears_68 post m (II i) τ) 3232 ?_ ?_ 0 (by omega)
        · obtain ⟨m, hm⟩ := key
          exact ⟨m, hm τ hE h98 h99 h100 (fun j hj => absurd hj (by omega)) (fun j hj => absurd hj (by omega))⟩
        · clear h98 h99 h100 hE; intro m τ hE h98 h99 h100 h101 h102
          simp (disch := omega) only [wbX12_clears_68, I_lit, I_le]
          refine ⟨fun _ => ?_, fun z => absurd (by omega) z⟩
          have key := up (P := fun m i => ∀ τ : St, Eqx [98, 99, 100, 101, 102, 103] σ τ → (∀ j, j < 19392 → gI τ 98 j = II 0) → (∀ j, j < 1616 → gI τ 99 j = II 0) → (∀ j, j < 4848 → gI τ 100 j = II 0) → (∀ j, j < 3232 → gI τ 101 j = II 0) → (∀ j, j < 3232 → gI τ 102 j = II 0) → (∀ j, j < i → gI τ 103 j = II 0) → wbX12_clears_97 post m (II i) τ) 61 ?_ ?_ 0 (by omega)
          · obtain ⟨m, hm⟩ := key
            exact ⟨m, hm τ hE h98 h99 h100 h101 h102 (fun j hj => absurd hj (by omega))⟩
          · clear h98 h99 h100 h101 h102 hE; intro m τ hE h98 h99 h100 h101 h102 h103
            simp (disch := omega) only [wbX12_clears_97, I_lit, I_le]
            refine ⟨fun _ => ?_, fun z => absurd (by omega) z⟩
            refine hp τ ⟨fun Y hY c hc n hn => h98 _ (by omega), fun Y hY n hn => ?_, fun Y hY c hc n hn => ?_, fun Y hY c hc n hn => ?_, fun Y hY c hc n hn => ?_⟩ h103 hE
            · rw [gt_z]; exact h99 _ (by omega)
            · rw [gt_z]; exact h100 _ (by omega)
            · rw [gt_z]; exact h101 _ (by omega)
            · rw [gx_z]; exact h102 _ (by omega)
          · clear h98 h99 h100 h101 h102 hE; intro m i hi ih τ hE h98 h99 h100 h101 h102 h103
            simp (disch := omega) only [wbX12_clears_97, I_lit, I_le, I_in, true_and, fe, I_cl, I_add, Int.toNat_natCast]
            refine ⟨fun z => absurd z (by omega), fun _ => ?_⟩
            refine ih _ (Eqx_tI hE (by simp)) (fun j hj => by rw [rI2 (by omega)]; exact h98 j hj) (fun j hj => by rw [rI2 (by omega)]; exact h99 j hj) (fun j hj => by rw [rI2 (by omega)]; exact h100 j hj) (fun j hj => by rw [rI2 (by omega)]; exact h101 j hj) (fun j hj => by rw [rI2 (by omega)]; exact h102 j hj) (fun j hj => ?_)
            by_cases e : j = i
            · subst e; rw [rI1]
            · rw [rI3 e]; exact h103 j (by omega)
        · clear h98 h99 h100 hE; intro m i hi ih τ hE h98 h99 h100 h101 h102
          simp (disch := omega) only [wbX12_clears_68, I_lit, I_le, I_in, true_and, fe, I_cl, I_add, Int.toNat_natCast]
          refine ⟨fun z => absurd z (by omega), fun _ => ?_⟩
          refine ih _ (Eqx_tI (Eqx_tI hE (by simp)) (by simp)) (fun j hj => by rw [rI2 (by omega), rI2 (by omega)]; exact h98 j hj) (fun j hj => by rw [rI2 (by omega), rI2 (by omega)]; exact h99 j hj) (fun j hj => by rw [rI2 (by omega), rI2 (by omega)]; exact h100 j hj) (fun j hj => ?_) (fun j hj => ?_)
          · by_cases e : j = i
            · subst e; rw [rI2 (by omega), rI1]
            · rw [rI2 (by omega), rI3 e]; exact h101 j (by omega)
          · by_cases e : j = i
            · subst e; rw [rI1]
            · rw [rI3 e, rI2 (by omega)]; exact h102 j (by omega)
      · clear h98 h99 hE; intro m i hi ih τ hE h98 h99 h100
        simp (disch := omega) only [wbX12_clears_46, I_lit, I_le, I_in, true_and, fe, I_cl, I_add, Int.toNat_natCast]
        refine ⟨fun z => absurd z (by omega), fun _ => ?_⟩
        refine ih _ (Eqx_tI hE (by simp)) (fun j hj => by rw [rI2 (by omega)]; exact h98 j hj) (fun j hj => by rw [rI2 (by omega)]; exact h99 j hj) (fun j hj => ?_)
        by_cases e : j = i
        · subst e; rw [rI1]
        · rw [rI3 e]; exact h100 j (by omega)
    · clear h98 hE; intro m i hi ih τ hE h98 h99
      simp (disch := omega) only [wbX12_clears_24, I_lit, I_le, I_in, true_and, fe, I_cl, I_add, Int.toNat_natCast]
      refine ⟨fun z => absurd z (by omega), fun _ => ?_⟩
      refine ih _ (Eqx_tI hE (by simp)) (fun j hj => by rw [rI2 (by omega)]; exact h98 j hj) (fun j hj => ?_)
      by_cases e : j = i
      · subst e; rw [rI1]
      · rw [rI3 e]; exact h99 j (by omega)
  · intro m i hi ih τ hE h98
    simp (disch := omega) only [wbX12_clears_2, I_lit, I_le, I_in, true_and, fe, I_cl, I_add, Int.toNat_natCast]
    refine ⟨fun z => absurd z (by omega), fun _ => ?_⟩
    refine ih _ (Eqx_tI hE (by simp)) (fun j hj => ?_)
    by_cases e : j = i
    · subst e; rw [rI1]
    · rw [rI3 e]; exact h98 j (by omega)
theorem filmOf_ok {σ : St} {m : MT} {n y : Nat} {w : Int} {post : Int32 → St → Prop} (hM : RM σ m) (h3 : 0 ≤ m 3 ∧ m 3 ≤ 8) (hf : ∀ k : Nat, (k : Int) < m 3 → 0 ≤ m (70 + 3 * k) ∧ m (70 + 3 * k) < 16 ∧ 0 ≤ m (70 + 3 * k + 1) ∧ m (70 + 3 * k + 1) ≤ 60 ∧ 1 ≤ m (70 + 3 * k + 2) ∧ m (70 + 3 * k + 2) ≤ 999)
    (hn : n < 16) (hy : y ≤ 61) (hw : -1 ≤ w ∧ w < 8) (hp : post (II (flm m w y n)) σ) : wpX12_filmOf (II n) (II y) (II w) σ post := by
  unfold wpX12_filmOf
  unfold flm at hp
  refine up (P := fun f i => wbX12_filmOf_6 post f (II n) (II y) (II w) (II (sm (fun k => if (k : Int) ≠ w ∧ m (70 + 3 * k) = n ∧ m (70 + 3 * k + 1) ≤ y then m (70 + 3 * k + 2) / ((2 ^ ((y : Int) - m (70 + 3 * k + 1)).toNat : Nat) : Int) else 0) i)) (II i) σ) (m 3).toNat ?_ ?_ 0 (by omega)
  · intro f
    have e3 : gI σ 76 3 = II (m 3) := hM 3
    simp (disch := omega) only [wbX12_filmOf_6, I_lit, I_in, true_and, I_cl, Int.reduceToNat, e3, I_le]
    exact ⟨fun _ => hp, fun z => absurd (by omega) z⟩
  · intro f k hk ih
    have e3 : gI σ 76 3 = II (m 3) := hM 3
    obtain ⟨f1, f2, f3, f4, f5, f6⟩ := hf k (by omega)
    have k8 : k < 8 := by omega
    have i0 : (70 + 3 * (k : Int)).toNat = 70 + 3 * k := by omega
    have i1 : (70 + 3 * (k : Int) + 1).toNat = 70 + 3 * k + 1 := by omega
    have i2 : (70 + 3 * (k : Int) + 2).toNat = 70 + 3 * k + 2 := by omega
    simp (disch := omega) only [wbX12_filmOf_6, I_lit, I_in, true_and, I_cl, Int.reduceToNat, e3, I_le, I_eq, fe, I_add, I_mul, i0, i1, i2, hM (70 + 3 * k), hM (70 + 3 * k + 1), hM (70 + 3 * k + 2), I_lt, I_sub]
    rw [show ((k : Int) + 1) = ((k + 1 : Nat) : Int) by omega]
    have st : ∀ v : Int, v = (if (k : Int) ≠ w ∧ m (70 + 3 * k) = n ∧ m (70 + 3 * k + 1) ≤ y then m (70 + 3 * k + 2) / ((2 ^ ((y : Int) - m (70 + 3 * k + 1)).toNat : Nat) : Int) else 0) → wbX12_filmOf_6 post f (II n) (II y) (II w) (II (sm (fun k => if (k : Int) ≠ w ∧ m (70 + 3 * k) = n ∧ m (70 + 3 * k + 1) ≤ y then m (70 + 3 * k + 2) / ((2 ^ ((y : Int) - m (70 + 3 * k + 1)).toNat : Nat) : Int) else 0) k + v)) (II ((k + 1 : Nat) : Int)) σ := by
      intro v hv; subst hv; exact ih
    have st0 : ¬ ((k : Int) ≠ w ∧ m (70 + 3 * k) = n ∧ m (70 + 3 * k + 1) ≤ y) → wbX12_filmOf_6 post f (II n) (II y) (II w) (II (sm (fun k => if (k : Int) ≠ w ∧ m (70 + 3 * k) = n ∧ m (70 + 3 * k + 1) ≤ y then m (70 + 3 * k + 2) / ((2 ^ ((y : Int) - m (70 + 3 * k + 1)).toNat : Nat) : Int) else 0) k)) (II ((k + 1 : Nat) : Int)) σ := by
      intro c
      have := st 0 (by rw [if_neg c])
      rwa [Int.add_zero] at this
    refine ⟨fun z => absurd z (by omega), fun _ => ⟨fun c => st0 (by omega), fun c1 => ⟨fun c => st0 (fun z => c z.2.1), fun c2 => ⟨fun c => st0 (by omega), fun c3 => ⟨fun c4 => ?_, fun c4 => ?_⟩⟩⟩⟩⟩
    · have hd : ((II ((y : Int) - m (70 + 3 * k + 1)) &&& II 31).toBitVec.smod 32).toNat = ((y : Int) - m (70 + 3 * k + 1)).toNat := by
        have : ∀ d : Fin 32, ((Int32.ofInt (d.val : Int) &&& Int32.ofInt 31).toBitVec.smod 32).toNat = d.val := by decide +kernel
        have h2 := this ⟨((y : Int) - m (70 + 3 * k + 1)).toNat, by omega⟩
        rw [show (((⟨((y : Int) - m (70 + 3 * k + 1)).toNat, by omega⟩ : Fin 32).val : Nat) : Int) = (y : Int) - m (70 + 3 * k + 1) by show ((((y : Int) - m (70 + 3 * k + 1)).toNat : Nat) : Int) = _; omega] at h2
        exact h2
      have hs := pk_shrN (n := (m (70 + 3 * k + 2)).toNat) (by omega) _ _ hd
      rw [I_nI, I_nI, show (((m (70 + 3 * k + 2)).toNat : Nat) : Int) = m (70 + 3 * k + 2) by omega] at hs
      rw [hs, I_add]
      refine st _ ?_
      rw [if_pos ⟨c1, c2, by omega⟩, Int.natCast_ediv]
      congr 1
      omega
    · rw [show (II (sm (fun k => if (k : Int) ≠ w ∧ m (70 + 3 * k) = n ∧ m (70 + 3 * k + 1) ≤ y then m (70 + 3 * k + 2) / ((2 ^ ((y : Int) - m (70 + 3 * k + 1)).toNat : Nat) : Int) else 0) k + 0)) = II (sm (fun k => if (k : Int) ≠ w ∧ m (70 + 3 * k) = n ∧ m (70 + 3 * k + 1) ≤ y then m (70 + 3 * k + 2) / ((2 ^ ((y : Int) - m (70 + 3 * k + 1)).toNat : Nat) : Int) else 0) k + 0) from rfl]
      refine st 0 ?_
      rw [if_pos ⟨c1, c2, by omega⟩]
      refine (Int.ediv_eq_zero_of_lt (by omega) ?_).symm
      have : 2 ^ 20 ≤ 2 ^ ((y : Int) - m (70 + 3 * k + 1)).toNat := Nat.pow_le_pow_right (by omega) (by omega)
      have e20 : (2 : Nat) ^ 20 = 1048576 := by decide
      omega
