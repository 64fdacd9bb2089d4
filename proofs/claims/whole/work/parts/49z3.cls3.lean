/-! taste: the class's reading of one -/
theorem putH_ok {σ υ : St} {S : Nat → Nat} {N k : Nat} {e : Nat × Nat} {x : Int32} {post : St → Prop} (hk : k < 6) (h : HS σ υ S N k e) (hq : ∀ τ, HS σ τ S N k e → post τ) : ∃ k_1, gR υ 42 9 = some (30 + 2 * k_1) ∧ k_1 < 6 ∧ wpX9_put k_1 x υ post := by
  obtain ⟨z, z1, z2, rfl⟩ := I_of x
  obtain ⟨hF, h2, h3, h4, h5, L, hL, h6⟩ := id h
  refine ⟨k, hF.2.1, hk, ?_⟩
  have j : gI (sI υ (30 + 2 * k + 1) L (II z)) (30 + 2 * k) 1 = II L := by rw [rI2 (by omega)]; exact h6
  simp (disch := omega) only [wpX9_put, h6, I_lit, I_le, fe, I_cl, Int.toNat_natCast, j, I_add]
  refine ⟨fun _ => hq υ h, fun w => ⟨of_eq_true (I_in (by omega)), hq _ ?_⟩⟩
  obtain ⟨f1, f2, f3, f4, f5, f6⟩ := hF
  obtain ⟨p, hp, h2⟩ := h2
  refine ⟨⟨Eqx_tI (Eqx_tI f1 (by simp [PL]; omega)) (by simp [PL]), ?_, ?_, ?_, ?_, ?_⟩, ⟨p, hp, ?_⟩, ?_, ?_, ?_, L + 1, by omega, ?_⟩
  · rw [gR_sI, gR_sI]; exact f2
  · rw [rI2 (by omega), rI2 (by omega)]; exact f3
  · rw [rI2 (by omega), rI2 (by omega)]; exact f4
  · rw [rI3 (by omega), rI2 (by omega)]; exact f5
  · rw [rI3 (by omega), rI2 (by omega)]; exact f6
  · rw [rI2 (by omega), rI2 (by omega)]; exact h2
  · rw [rI2 (by omega), rI2 (by omega)]; exact h3
  · rw [rI2 (by omega), rI2 (by omega)]; exact h4
  · rw [rI2 (by omega), rI2 (by omega)]; exact h5
  · rw [rI1]; rfl
theorem RS_nil {σ υ : St} {K : Nat → Nat} {k p : Nat} {c : List Nat} (h : RS σ υ K k p c) : RS σ υ K k p (c ++ []) := by rw [List.append_nil]; exact h
/-- one, from what stands around it -/
theorem one_from {σ : St} {K V S : Nat → Nat} {N k : Nat} {F : Int32 → Int32 → St → (St → Prop) → Prop} {o : Int32} {ar : Nat → Res} (hk : k < 6) (hT : Tk K N) (hK : HK σ K V S N)
    (ha : ∀ υ p c post, RS σ υ K k p c → p < N → c.length ≤ p → (K p = 29 ∨ K p = 32 ∨ K p = 20 ∨ K p = 21) → (∀ τ, Ot σ τ K S N k c (ar p) → post τ) → F (II (K p)) o υ post) : CP σ K S N k (fun υ post => wpX8_one F o υ post) (pLf K V ar) := by
  have n3 := hT.2.1
  refine ⟨fun υ p c post h hp hc hq => ?_, fun υ e post h hq => ?_⟩
  · have k38 := Tk_le hT hp
    show wpX8_one F o υ post
    unfold pLf at hq
    have c82 : ¬ K p = 36 → ¬ K p < 14 → wbX8_one_82 F post o (II (K p)) υ := fun q1 q2 => by
      rw [if_neg q1, if_neg q2] at hq
      simp (disch := omega) only [wbX8_one_82, wbX8_one_106, I_lit, I_eq]
      have go : (K p = 29 ∨ K p = 32 ∨ K p = 20 ∨ K p = 21) → F (II (K p)) o υ post := fun z => by
        rw [if_pos z] at hq
        have hN : p ≠ N := fun e => by rw [e, hT.1] at z; omega
        exact ha υ p c post h (by omega) hc z hq
      refine ⟨fun z => go (by omega), fun z1 => ⟨fun z => go (by omega), fun z2 => ⟨fun z => go (by omega), fun z3 => ⟨fun z => ?_, fun z => go (by omega)⟩⟩⟩⟩
      rw [if_neg (by omega)] at hq
      exact fail_ok (f := 1) hk hT hK h hp (by omega) (fun τ hτ => hq τ hτ)
    simp (disch := omega) only [wpX8_one, fe, h.2.2.1, I_lit, I_eq, I_lt, I_le, h.2.1]
    refine ⟨fun z => ⟨fun z2 => by omega, fun _ => ⟨fun z2 => c82 (by omega) (by omega), fun z2 => ?_⟩⟩, fun z => ?_⟩
    · rw [if_neg (by omega), if_pos (by omega)] at hq
      have hN : p ≠ N := fun e => by rw [e, hT.1] at z2; omega
      refine put_ok (x := K p) (c := c) (r := .inl (p, [])) (S := S) (N := N) hk (RS_nil h) (fun a ea => ?_) ?_
      · simp only [Sum.inl.injEq] at ea
        rw [← ea]; simp; omega
      · intro τ hτ
        have hτ : RS σ τ K k p (c ++ ([] ++ [K p])) := hτ
        refine adv_ok hk hT hK hτ (by omega) (fun ρ hρ => hq ρ ?_)
        exact hρ
    · have hN : p ≠ N := fun e => by rw [e, hT.1] at z; omega
      have e46 : gI υ 46 p = II (V p) := by rw [PL_g h.1.1 hk (by omega)]; exact (hK.2 p hp (by omega)).1
      have v4 := (hK.2 p hp (by omega)).2
      rw [if_pos (by omega)] at hq
      rw [I_cl (by omega), Int.toNat_natCast, e46, I_le (by omega)]
      refine ⟨of_eq_true (I_in (by omega)), fun z2 => ?_, fun z2 => ?_⟩
      · rw [if_pos (by omega)] at hq
        unfold wbX8_one_31
        rw [h.2.1, I_cl (by omega), Int.toNat_natCast, e46, show (100 : Int32) = II 100 from rfl, I_add, show (100 : Int) + (V p : Int) = ((100 + V p : Nat) : Int) by omega]
        obtain ⟨k1, a1, a2, a3⟩ := put_ok (x := 100 + V p) (c := c) (r := .inl (p, [])) (S := S) (N := N) (post := fun σ_3 => wpX8_advance σ_3 (fun σ_5 => post σ_5)) hk (RS_nil h) (fun a ea => by simp only [Sum.inl.injEq] at ea; rw [← ea]; simp; omega) (fun τ hτ => by
          have hτ : RS σ τ K k p (c ++ ([] ++ [100 + V p])) := hτ
          exact adv_ok hk hT hK hτ (by omega) (fun ρ hρ => hq ρ hρ))
        exact ⟨k1, a1, a2, of_eq_true (I_in (by omega)), a3⟩
      · rw [if_neg (by omega)] at hq
        refine fail_ok (f := 2) hk hT hK h hp (by omega) ?_
        intro τ hτ
        unfold wbX8_one_31
        obtain ⟨p', hp', e'⟩ := hτ.2.1
        obtain ⟨k1, a1, a2, a3⟩ := putH_ok (x := 100 + gI τ 46 (gI τ 42 7).toNatClampNeg) (post := fun σ_3 => wpX8_advance σ_3 (fun σ_5 => post σ_5)) hk hτ (fun ρ hρ => advH_ok hρ (hq ρ hρ))
        refine ⟨k1, a1, a2, ?_, a3⟩
        rw [e']; exact of_eq_true (I_in (by omega))
  · show wpX8_one F o υ post
    simp (disch := omega) only [wpX8_one, fe, h.2.2.1, I_lit, I_eq, I_lt, I_le, wbX8_one_82]
    refine ⟨fun _ => ⟨fun z => by omega, fun _ => ⟨fun _ => ⟨fun z => by omega, fun _ => ⟨fun z => by omega, fun _ => ⟨fun z => by omega, fun _ => ⟨fun _ => failH_ok h (hq υ h), fun z => by omega⟩⟩⟩⟩, fun z => absurd (by omega) z⟩⟩, fun z => by omega⟩
theorem a41H {σ υ : St} {S : Nat → Nat} {N k : Nat} {e : Nat × Nat} {F : Int32 → Int32 → St → (St → Prop) → Prop} {v1 v2 : Int32} {post : St → Prop} (h : HS σ υ S N k e) (hq : post υ) : wbX8_around_30 F post v1 v2 υ := by
  have c41 : wbX8_around_41 F post v1 v2 υ := by
    unfold wbX8_around_41
    rw [h.2.2.1]
    exact ⟨fun z => absurd rfl z, fun _ => hq⟩
  unfold wbX8_around_30
  exact ⟨fun _ => c41, fun _ => failH_ok h c41⟩
theorem one_ok {σ : St} {K V S : Nat → Nat} {N k : Nat} (hk : k < 6) (hT : Tk K N) (hK : HK σ K V S N) : ∀ d n : Nat, d + 1 ≤ n → d ≤ 8 → CP σ K S N k (fun υ post => wpX8_one (wrX8_around n) (II (8 - (d : Int))) υ post) (pOne K V d) := by
  have n3 := hT.2.1
  intro d
  induction d with
  | zero =>
    intro n hn _
    obtain ⟨n, rfl⟩ : ∃ n', n = n' + 1 := ⟨n - 1, by omega⟩
    refine one_from hk hT hK ?_
    intro υ p c post h hp hc hkp hq
    have k38 := Tk_le hT (show p ≤ N by omega)
    show wpX8_around (wrX8_around n) (II (K p)) (II (8 - 0)) υ post
    unfold pFl at hq
    have a30 : ∀ τ q c', RS σ τ K k q c' → q ≤ N → c'.length ≤ 300 → (∀ ρ, HS σ ρ S N k (3, q) → post ρ) → wbX8_around_30 (wrX8_around n) post (II (K p)) (II (8 - 0)) τ := by
      intro τ q c' hτ hqN hc' hq'
      have : wbX8_around_30 (wrX8_around n) post (II (K p)) (II 8) τ := by
        unfold wbX8_around_30
        refine ⟨fun z => absurd z (by decide), fun _ => fail_ok (f := 3) hk hT hK hτ hqN hc' ?_⟩
        intro ρ hρ
        unfold wbX8_around_41
        rw [hρ.2.2.1]
        exact ⟨fun z => absurd rfl z, fun _ => hq' ρ hρ⟩
      exact this
    have a12 : (K p = 20 ∨ K p = 21) → wbX8_around_12 (wrX8_around n) (wbX8_around_30 (wrX8_around n) post) post (II (K p)) (II (8 - 0)) υ := by
      intro z
      rw [if_neg (by omega)] at hq
      unfold wbX8_around_12
      refine adv_ok hk hT hK h hp ?_
      intro τ hτ
      have k39 := Tk_le hT (show p + 1 ≤ N by omega)
      simp (disch := omega) only [hτ.2.2.1, I_lit, I_eq]
      refine ⟨fun z2 => ?_, fun z2 => ?_⟩
      · rw [if_pos (by omega)] at hq
        exact a30 τ (p + 1) c hτ (by omega) (by omega) (fun ρ hρ => hq ρ hρ)
      · rw [if_neg (by omega)] at hq
        exact fail_ok (f := 1) hk hT hK hτ (by omega) (by omega) (fun ρ hρ => a41H hρ (hq ρ hρ))
    simp (disch := omega) only [wpX8_around, I_lit, I_eq]
    refine ⟨fun z => a12 (by omega), fun z => ⟨fun z2 => ?_, fun z2 => a12 (by omega)⟩⟩
    rw [if_pos (by omega)] at hq
    exact a30 υ p c h (by omega) (by omega) (fun ρ hρ => hq ρ hρ)
  | succ d ih =>
    intro n hn hd
    obtain ⟨n, rfl⟩ : ∃ n', n = n' + 1 := ⟨n - 1, by omega⟩
    have ih := ih n (by omega) (by omega)
    have hL := Ln_pOne (V := V) hT d
    have hLs := Ln_pSm hT hL
    have sumC : CP σ K S N k (fun υ post => wpX8_sum (wrX8_around n) (II (8 - (d : Int))) υ post) (pSm K (pOne K V d)) := sum_ok hk hT hK (Ln_chn hT rfl hL) (product_ok hk hT hK hL ih)
    refine one_from hk hT hK ?_
    intro υ p c post h hp hc hkp hq
    have k38 := Tk_le hT (show p ≤ N by omega)
    show wpX8_around (wrX8_around n) (II (K p)) (II (8 - ((d + 1 : Nat) : Int))) υ post
    unfold pAr at hq
    have a30 : ∀ τ q c', RS σ τ K k q c' → (K q = 29 ∨ K q = 32) → q < N → c'.length ≤ q →
        (K p = 29 → ∀ ρ, Ot σ ρ K S N k c' (em 40 (pOne K V d (q + 1))) → post ρ) → (K p = 32 → ∀ ρ, Ot σ ρ K S N k c' (bd (pSm K (pOne K V d) (q + 1)) (exT K 33)) → post ρ) → (K p ≠ 29 → K p ≠ 32 → ∀ ρ, Ot σ ρ K S N k c' (bd (em (K p) (bd (bd (pSm K (pOne K V d) (q + 1)) (exT K 34)) (pSm K (pOne K V d)))) (exT K 33)) → post ρ) →
        wbX8_around_30 (wrX8_around n) post (II (K p)) (II (8 - ((d + 1 : Nat) : Int))) τ := by
      intro τ q c' hτ hkq hqN hc' q1 q2 q3
      have k39 := Tk_le hT (show q ≤ N by omega)
      simp (disch := omega) only [wbX8_around_30, wbX8_around_41, wbX8_around_112, hτ.2.2.1, I_lit, I_lt, I_eq, I_add]
      rw [show 8 - ((d + 1 : Nat) : Int) + 1 = 8 - (d : Int) by omega]
      refine ⟨fun _ => ⟨fun _ => adv_ok hk hT hK hτ hqN ?_, fun z => by omega⟩, fun z => absurd (by omega) z⟩
      intro ρ hρ
      refine ⟨fun z => sumC.1 ρ (q + 1) c' _ hρ (by omega) (by omega) ?_, fun z => ih.1 ρ (q + 1) c' _ hρ (by omega) (by omega) ?_⟩
      · intro α hα
        refine ⟨fun z2 => ?_, fun z2 => ?_⟩
        · refine CP_seq (expect_ok (x := 33) hk hT hK (by omega)) hα (fun a ea => ?_) (fun β hβ => q2 (by omega) β hβ)
          have := hLs (q + 1) (by omega) a.1 a.2 ea
          rw [List.length_append]; omega
        · refine CP_seq (expect_ok (x := 34) hk hT hK (by omega)) hα (fun a ea => ?_) ?_
          · have := hLs (q + 1) (by omega) a.1 a.2 ea
            rw [List.length_append]; omega
          · intro β hβ
            have L34 := Ln_bd hLs (Ln_exT (k := 34) hT (by omega))
            refine CP_seq sumC hβ (fun a ea => ?_) ?_
            · have := L34 (q + 1) (by omega) a.1 a.2 ea
              rw [List.length_append]; omega
            · intro γ hγ
              have L3 := Ln_bd L34 hLs
              refine put_ok hk hγ (fun a ea => ?_) ?_
              · have := L3 (q + 1) (by omega) a.1 a.2 ea
                rw [List.length_append]; omega
              · intro δ hδ
                refine CP_seq (expect_ok (x := 33) hk hT hK (by omega)) hδ (fun a ea => ?_) (fun ε hε => q3 (by omega) (by omega) ε hε)
                obtain ⟨a2, e1, e2⟩ := em_inl (show em (K p) _ = .inl (a.1, a.2) from ea)
                have := L3 (q + 1) (by omega) a.1 a2 e1
                rw [e2, List.length_append, List.length_append, List.length_singleton]; omega
      · intro α hα
        refine put_ok (x := 40) hk hα (fun a ea => ?_) (fun β hβ => q1 (by omega) β hβ)
        have := hL (q + 1) (by omega) a.1 a.2 ea
        rw [List.length_append]; omega
    have a12 : (K p = 20 ∨ K p = 21) → wbX8_around_12 (wrX8_around n) (wbX8_around_30 (wrX8_around n) post) post (II (K p)) (II (8 - ((d + 1 : Nat) : Int))) υ := by
      intro z
      rw [if_neg (by omega), if_neg (by omega)] at hq
      unfold wbX8_around_12
      refine adv_ok hk hT hK h hp ?_
      intro τ hτ
      have k39 := Tk_le hT (show p + 1 ≤ N by omega)
      simp (disch := omega) only [hτ.2.2.1, I_lit, I_eq]
      refine ⟨fun z2 => ?_, fun z2 => ?_⟩
      · rw [if_pos (by omega)] at hq
        have hN : p + 1 ≠ N := fun e => by rw [e, hT.1] at z2; omega
        exact a30 τ (p + 1) c hτ (by omega) (by omega) (by omega) (fun y => by omega) (fun y => by omega) (fun _ _ => hq)
      · rw [if_neg (by omega)] at hq
        exact fail_ok (f := 1) hk hT hK hτ (by omega) (by omega) (fun ρ hρ => a41H hρ (hq ρ hρ))
    simp (disch := omega) only [wpX8_around, I_lit, I_eq]
    refine ⟨fun z => a12 (by omega), fun z => ⟨fun z2 => ?_, fun z2 => a12 (by omega)⟩⟩
    refine a30 υ p c h (by omega) (by omega) (by omega) (fun y => ?_) (fun y => ?_) (fun y1 y2 => by omega)
    · rw [if_pos y] at hq; exact hq
    · rw [if_neg (by omega), if_pos y] at hq; exact hq
