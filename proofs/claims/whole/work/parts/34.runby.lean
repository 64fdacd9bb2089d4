theorem run_by_eq {m m' : MT} {U : Nat → Nat} {T T' : TT} {t : Nat} (hW : WFm m) (h1 : m' 1 = m 1) (h6 : m' 6 = m 6) (h2 : m' 2 = m 2) (h3 : m' 3 = m 3) (hn : ∀ n : Nat, (n : Int) < m 1 → m' (30 + n) = m (30 + n) ∧ m' (1900 + n) = m (1900 + n))
    (hl : ∀ k : Nat, (k : Int) < m 2 → m' (50 + 2 * k) = m (50 + 2 * k) ∧ m' (50 + 2 * k + 1) = m (50 + 2 * k + 1)) (hf : ∀ k : Nat, (k : Int) < m 3 → m' (70 + 3 * k) = m (70 + 3 * k) ∧ m' (70 + 3 * k + 1) = m (70 + 3 * k + 1) ∧ m' (70 + 3 * k + 2) = m (70 + 3 * k + 2))
    (hB : ∀ Y, Y < 40 → ∀ c, c < 12 → ∀ n, n < 16 → m' (2000 + (39 - Y) * 192 + c * 16 + n) = m (2000 + (39 - Y) * 192 + c * 16 + n)) (hmn : ∀ y, y < 61 → ∀ c, c < 12 → mny (KB m' U T' (-1) false t) y c = mny (KB m U T (-1) false t) y c) (hT : TE T T' (m 4)) (ht : (t : Int) < m 4) :
    run (KB m' U T' (-1) false t) 61 = run (KB m U T (-1) false t) 61 := by
  have w1 := hW.2.1
  have hls : ∀ y k : Nat, (k : Int) ≤ m 2 → lsn m' y k = lsn m y k := by
    intro y k
    induction k with
    | zero => intro _; rfl
    | succ k ih => intro hk; simp only [lsn]; rw [(hl k (by omega)).1, (hl k (by omega)).2, ih (by omega)]
  have w2 := hW.2.2.1
  have w3 := hW.2.2.2.1
  have tt : ∀ m T y s, tas (KB m U T (-1) false t) y s = t := by
    intro m T y s
    unfold tas
    rw [if_pos (by show ((t : Nat) : Int) ≠ -1; omega)]; rfl
  have hNE : NE (KB m U T (-1) false t) (KB m' U T' (-1) false t) := ⟨by show (m 1).toNat ≤ (m' 1).toNat; omega, h6, rfl, fun _ _ => rfl, fun _ _ _ _ => rfl⟩
  refine (run_ext (N := 61) hNE ?_ (fun y hy => ⟨hmn y hy, fun s hs => by rw [tt, tt], fun s hs hne => ?_, fun n hn' => ?_, fun n hn' x hx => ?_, fun n a b => ?_⟩) 61 (Nat.le_refl _)).1
  · rw [kn_KB, kn_KB, h1]
    funext Y c n
    show G0 m' _ Y c n = G0 m _ Y c n
    unfold G0
    split
    · rename_i h; exact hB Y h.1 c h.2.1 n (by omega)
    · rfl
  · rw [tt]
    exact hT _ (by omega)
  · show flm m' (-1) y n = flm m (-1) y n
    unfold flm
    rw [h3]
    exact sm_congr (fun k hk => by obtain ⟨x1, x2, x3⟩ := hf k (by omega); rw [x1, x2, x3])
  · rw [kn_KB] at hn'
    unfold ft
    show (decide (m' (1900 + n) ≤ (y : Int)) && bit (m' (30 + n)) x && (lsn m' y (m' 2).toNat == 0 || bit (lsn m' y (m' 2).toNat) n)) = (decide (m (1900 + n) ≤ (y : Int)) && bit (m (30 + n)) x && (lsn m y (m 2).toNat == 0 || bit (lsn m y (m 2).toNat) n))
    rw [h2, hls y _ (by omega), (hn n (by omega)).1, (hn n (by omega)).2]
  · rw [kn_KB] at a b
    rw [h1] at b
    omega
theorem RUs_m {σ τ : St} {m m' : MT} {U : Nat → Nat} {T T' : TT} (h : RUs σ m U T) (e : gI τ 64 6 = gI σ 64 6) (e69 : τ 69 = σ 69) (h4 : m 4 ≤ m' 4) (hr : ∀ t : Nat, (t : Int) < m 4 → run (KB m' U T' (-1) false t) 61 = run (KB m U T (-1) false t) 61) : RUs τ m' U T' := by
  obtain ⟨r, h1, h2, h3⟩ := h
  refine ⟨r, by rw [e]; exact h1, h2, fun t ht hb => ?_⟩
  obtain ⟨a, b⟩ := h3 t ht hb
  refine ⟨by omega, fun y hy i hi => ?_⟩
  rw [gL_of e69, hr t a]
  exact b y hy i hi
theorem isTaste_ok {σ : St} {m : MT} {a : Int} {post : Int32 → St → Prop} (hM : RM σ m) (hN : 0 ≤ m 4 ∧ m 4 ≤ 6) (ha : -2147483648 ≤ a ∧ a < 2147483648) (h1 : 0 ≤ a ∧ a < m 4 → post (II 1) σ) (h0 : ¬ (0 ≤ a ∧ a < m 4) → post (II 0) σ) : wpX12_isTaste (II a) σ post := by
  have e1 : gI σ 76 4 = II (m 4) := hM 4
  simp (disch := omega) only [wpX12_isTaste, I_lit, I_in, true_and, I_cl, Int.reduceToNat, e1, I_sub]
  exact in_ok (by omega) (fun z => ⟨Or.inr rfl, h1 (by omega)⟩) (fun z => ⟨Or.inl rfl, h0 (by omega)⟩)
theorem set_in (a : Int32) {n : Int} (hn : 0 ≤ n ∧ n ≤ 16) : ∃ z : Int, 0 ≤ z ∧ z < 65536 ∧ (a &&& ((1 <<< (II n &&& 31)) - 1)) = II z := by
  have hd : ∀ k : Fin 17, ((((1 : Int32) <<< (Int32.ofInt (k.val : Int) &&& 31)) - 1).toBitVec.toNat) = 2 ^ k.val - 1 := by decide +kernel
  have h := hd ⟨n.toNat, by omega⟩
  have e : (((⟨n.toNat, by omega⟩ : Fin 17).val : Nat) : Int) = n := by show ((n.toNat : Nat) : Int) = n; omega
  rw [e] at h
  refine ⟨((a.toBitVec.toNat % 2 ^ n.toNat : Nat) : Int), by omega, ?_, ?_⟩
  · have h1 := Nat.mod_lt a.toBitVec.toNat (Nat.pow_pos (n := n.toNat) (show 0 < 2 by decide))
    have h2 : 2 ^ n.toNat ≤ 2 ^ 16 := Nat.pow_le_pow_right (by decide) (by omega)
    omega
  · rw [← I_nI]; exact pk_and a n.toNat h
