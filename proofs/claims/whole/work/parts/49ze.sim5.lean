/-! taste: begins -/
theorem nm_of : ∀ k, k < 14 → (tO k = 2 ∧ k = 0 ∨ tO k ≠ 2 ∧ 8 < tO k ∧ tO k - 8 = k) := by decide
theorem nm_no : ∀ k, k < 22 → 14 ≤ k → tO k ≠ 2 ∧ tO k ≤ 8 := by decide
theorem RF_any {σ υ : St} {S : Nat → Nat} {e : Nat × Nat} {post : Int32 → St → Prop} (h : GoF σ S post e) : ∃ n, ∀ υ, RF σ υ S e → wbX12_taste_86 post n υ := h
/-- where begins does not find a number or a word of the heard -/
theorem b89_ok {σ υ : St} {K V S E : Nat → Nat} {N st p o : Nat} {fr : List (Nat × Int)} {ws L : List (Nat × Nat)} {post : St → Prop} (hX : NX σ K V S E N) (hT : Tk K N) (h : RA σ υ K V S E st p fr ws o L) (hp : p ≤ N) (hn : fr.length < 39) (ho : o ≤ 8)
    (h32 : K p = 32 → o < 8 → ∀ τ, RA σ τ K V S E st (p + 1) (fr ++ [(6, 0)]) ws (o + 1) L → post τ) (h29 : K p = 29 → o < 8 → ∀ τ, RA σ τ K V S E st (p + 1) (fr ++ [(7, 0)]) ws (o + 1) L → post τ)
    (hm : (K p = 20 ∨ K p = 21) → K (p + 1) = 32 → o < 8 → ∀ τ, RA σ τ K V S E st (p + 2) (fr ++ [(8, ((tO (K p) : Nat) : Int))]) ws (o + 1) L → post τ)
    (he : ∀ e, ((K p = 32 ∨ K p = 29) ∧ o = 8 ∧ e = (3, p) ∨ (K p = 20 ∨ K p = 21) ∧ K (p + 1) = 32 ∧ o = 8 ∧ e = (3, p + 1) ∨ (K p = 20 ∨ K p = 21) ∧ K (p + 1) ≠ 32 ∧ e = (1, p + 1) ∨ K p ≠ 32 ∧ K p ≠ 29 ∧ K p ≠ 20 ∧ K p ≠ 21 ∧ e = (1, p)) → ∀ τ, RF σ τ S e → post τ) : wbX12_begins_89 post υ := by
  have k38 := Tk_le hT hp
  have c145 : (K p = 20 ∨ K p = 21) → wbX12_begins_145 post υ := by
    intro z
    have hN : p ≠ N := fun e => by rw [e, hT.1] at z; omega
    unfold wbX12_begins_145
    simp only [fe]
    rw [(RA_TA h).2.1 (by omega)]
    refine hX υ st p o fr ws L _ (by omega) h ?_
    intro τ hτ
    have k39 := Tk_le hT (show p + 1 ≤ N by omega)
    refine isSign_ok 32 (RA_TA hτ) k39 (by omega) (by omega) (fun y => ?_) (fun y => ?_)
    · refine ⟨fun _ => ?_, fun w => absurd w i10⟩
      have hN2 : p + 1 ≠ N := fun e => by rw [e, hT.1] at y; omega
      refine openS8_ok hX (by omega) hτ (by omega) ho (fun y2 ρ d hρ => ?_) (fun y2 ρ hρ => ?_)
      · refine ⟨fun w => absurd w i10, fun _ => ?_⟩
        have h6 := hρ.2.2.2.2.2.1
        rw [len1] at h6
        simp (disch := omega) only [fe, h6, I_in, true_and, I_cl, Int.toNat_natCast]
        refine hm z y y2 _ ?_
        obtain ⟨g1, g2, g3, g4, g5, g6, g7, g8, g9, g10, g11, g12, t1, t2, t3, t4, t5⟩ := hρ
        have ge : ∀ q, q ≠ 88 → (sI ρ 88 (fr.length + 1) (II (tO (K p) : Nat))) q = ρ q := fun q a => (Eqx_tI (Eqx.refl [88] ρ) (by simp) q (by simp; omega)).symm
        refine ⟨Eqx_tI g1 (by simp [ML]), fun f hf => by rw [rI2 (by omega)]; exact g2 f hf, by rw [rI2 (by omega)]; exact g3, by rw [rI2 (by omega)]; exact g4, by rw [rI2 (by omega)]; exact g5, by rw [rI2 (by omega), len1]; rw [len1] at g6; exact g6, by rw [rI2 (by omega)]; exact g7, by rw [rI2 (by omega)]; exact g8, by rw [rI2 (by omega)]; exact g9, fun i hi => ?_, PrA_eq g11 (ge 90 (by omega)) (ge 91 (by omega)), PrA_eq g12 (ge 94 (by omega)) (ge 95 (by omega)), by rw [rI2 (by omega)]; exact t1, fun z => by rw [rI2 (by omega)]; exact t2 z, fun z => by rw [rI2 (by omega)]; exact t3 z, by rw [rI2 (by omega)]; exact t4, by rw [rI2 (by omega)]; exact t5⟩
        clear t3
        rw [len1] at hi
        have := g10 i (by rw [len1]; exact hi)
        rw [gI_of (ge 87 (by omega)), gI_of (ge 89 (by omega))]
        by_cases e : i = fr.length
        · rw [e, gdB] at this ⊢
          exact ⟨this.1, fun _ => rI1, fun z => absurd (show (8 : Nat) = 5 from z) (by decide)⟩
        · rw [gdA _ _ _ _ (by omega)] at this ⊢
          rw [rI3 (by omega)]; exact this
      · exact ⟨fun _ => he (3, p + 1) (Or.inr (Or.inl ⟨z, y, y2, rfl⟩)) ρ hρ, fun w => absurd rfl w⟩
    · exact ⟨fun w => absurd rfl w, fun _ => errs_ok (f := 1) hτ (by omega) (fun ρ hρ => he (1, p + 1) (Or.inr (Or.inr (Or.inl ⟨z, y, rfl⟩))) ρ hρ)⟩
  have t := RA_TA h
  unfold wbX12_begins_89
  refine isSign_ok 32 t k38 (by omega) (by omega) (fun y => ?_) (fun y => ?_)
  · refine ⟨fun w => absurd w i10, fun _ => ?_⟩
    have hN : p ≠ N := fun e => by rw [e, hT.1] at y; omega
    exact openS_ok (a := 6) hX (by omega) h (by omega) ho (by omega) (fun y2 τ hτ => h32 y y2 τ hτ) (fun y2 τ hτ => he (3, p) (Or.inl ⟨Or.inl y, y2, rfl⟩) τ hτ)
  · refine ⟨fun _ => ?_, fun w => absurd rfl w⟩
    refine isSign_ok 29 t k38 (by omega) (by omega) (fun y2 => ?_) (fun y2 => ?_)
    · refine ⟨fun w => absurd w i10, fun _ => ?_⟩
      have hN : p ≠ N := fun e => by rw [e, hT.1] at y2; omega
      exact openS_ok (a := 7) hX (by omega) h (by omega) ho (by omega) (fun y3 τ hτ => h29 y2 y3 τ hτ) (fun y3 τ hτ => he (3, p) (Or.inl ⟨Or.inr y2, y3, rfl⟩) τ hτ)
    · refine ⟨fun _ => ?_, fun w => absurd rfl w⟩
      refine isWord_ok 20 t k38 (by omega) (fun y3 => ?_) (fun y3 => ?_)
      · exact ⟨fun _ => c145 (Or.inl y3), fun w => absurd w i10⟩
      · refine ⟨fun w => absurd rfl w, fun _ => ?_⟩
        refine isWord_ok 21 t k38 (by omega) (fun y4 => ?_) (fun y4 => ?_)
        · exact ⟨fun w => absurd w i10, fun _ => c145 (Or.inr y4)⟩
        · exact ⟨fun _ => errs_ok (f := 1) h (by omega) (fun τ hτ => he (1, p) (Or.inr (Or.inr (Or.inr ⟨y, y2, y3, y4, rfl⟩))) τ hτ), fun w => absurd rfl w⟩
/-- the leaves -/
theorem leaf_sim {σ : St} {K V S E : Nat → Nat} {N : Nat} {post : Int32 → St → Prop} {ar : Nat → Res} {o p : Nat} {fr : List (Nat × Int)} {ws L : List (Nat × Nat)} (hX : NX σ K V S E N) (hT : Tk K N) (hp : p ≤ N) (hL : L.length < 400)
    (hS : ∀ q c, pLf K V ar p = .inl (q, c) → GoV σ K V S E post q fr ws o (L ++ roL c)) (hE : ∀ e, pLf K V ar p = .inr e → GoF σ S post e)
    (har : ¬ K p = 36 → ¬ K p < 14 → ∃ n, ∀ υ, RA σ υ K V S E 1 p fr ws o L → wbX12_begins_89 (fun τ => wbX12_taste_86 post n τ) υ) : Gos σ K V S E post 1 p fr ws o L := by
  have k38 := Tk_le hT hp
  unfold pLf at hS hE
  by_cases c36 : K p = 36
  · rw [if_pos c36] at hS hE
    have hN : p ≠ N := fun e => by rw [e, hT.1] at c36; omega
    have s2 : sO (K p) = 2 := by rw [c36]; rfl
    by_cases cv : V p ≤ 9999
    · rw [if_pos cv] at hS
      obtain ⟨n, m, hm⟩ := hS _ _ rfl
      refine go_ok (by omega) n (fun z => by omega) (fun _ υ h => ?_) (fun z => by omega) (fun z => by omega)
      have t := RA_TA h
      obtain ⟨r, hr, e18, ev⟩ := t.2.2.1 c36
      unfold wpX12_begins
      rw [t.1, s2, e18]
      refine ⟨fun z => absurd rfl z, fun _ => ?_⟩
      rw [show (9999 : Int32) = II 9999 from rfl, I_le (by omega)]
      refine ⟨fun _ => ?_, fun z => by omega⟩
      refine emits_ok (a := 400) h hL ?_
      intro τ hτ
      refine hX τ 1 p o fr ws _ _ (by omega) hτ ?_
      intro ρ hρ
      refine ⟨m, hm 1 ρ ?_⟩
      have : roL [100 + V p] = [(400, r)] := by
        unfold roL ro
        simp only [List.map_cons, List.map_nil]
        rw [if_pos (by omega), show 100 + V p - 100 = r by omega]
      rw [this]; exact hρ
    · rw [if_neg cv] at hE
      obtain ⟨n, hn⟩ := hE _ rfl
      refine go_ok (by omega) n (fun z => by omega) (fun _ υ h => ?_) (fun z => by omega) (fun z => by omega)
      have t := RA_TA h
      obtain ⟨r, hr, e18, ev⟩ := t.2.2.1 c36
      unfold wpX12_begins
      rw [t.1, s2, e18]
      refine ⟨fun z => absurd rfl z, fun _ => ?_⟩
      rw [show (9999 : Int32) = II 9999 from rfl, I_le (by omega)]
      exact ⟨fun z => by omega, fun _ => errs_ok (f := 2) h (by omega) (fun τ hτ => hn τ hτ)⟩
  · rw [if_neg c36] at hS hE
    have s2 : sO (K p) ≠ 2 := by
      have : ∀ k, k ≤ 38 → k ≠ 36 → sO k ≠ 2 := by decide
      exact this _ k38 c36
    have sb := sO_b (K p) k38
    by_cases c14 : K p < 14
    · rw [if_pos c14] at hS
      have hN : p ≠ N := fun e => by rw [e, hT.1] at c14; omega
      obtain ⟨n, m, hm⟩ := hS _ _ rfl
      refine go_ok (by omega) n (fun z => by omega) (fun _ υ h => ?_) (fun z => by omega) (fun z => by omega)
      have t := RA_TA h
      have s1 : sO (K p) = 1 := wd_one (K p) (by omega)
      have e18 := t.2.1 (by omega)
      have tb := tO_b (K p) (by omega)
      have nm : ∀ post : Int32 → St → Prop, post (II (K p)) υ → wpX12_nameOf (II (tO (K p) : Nat)) υ post := fun post hq => by
        simp (disch := omega) only [wpX12_nameOf, I_lit, I_eq, I_le, I_sub]
        rcases nm_of (K p) c14 with ⟨a, b⟩ | ⟨a, b, c⟩
        · refine ⟨fun z => absurd (by omega) z, fun _ => ?_⟩
          rw [b] at hq; exact hq
        · refine ⟨fun _ => ⟨fun z => by omega, fun _ => ?_⟩, fun z => by omega⟩
          rw [show ((tO (K p) : Nat) : Int) - 8 = (K p : Int) by omega]; exact hq
      unfold wpX12_begins
      rw [t.1, s1, e18]
      refine ⟨fun _ => ⟨fun z => absurd rfl z, fun _ => nm _ ?_⟩, fun z => absurd z (by decide)⟩
      rw [show (0 : Int32) = II 0 from rfl, I_lt (by omega)]
      refine ⟨fun z => by omega, fun _ => ?_⟩
      rw [e18]
      refine nm _ ?_
      refine emits_ok (a := 401) h hL ?_
      intro τ hτ
      refine hX τ 1 p o fr ws _ _ (by omega) hτ ?_
      intro ρ hρ
      refine ⟨m, hm 1 ρ ?_⟩
      have : roL [K p] = [(401, K p)] := by
        unfold roL ro
        simp only [List.map_cons, List.map_nil]
        rw [if_neg (by omega), if_pos c14]
      rw [this]; exact hρ
    · obtain ⟨n, hn⟩ := har c36 c14
      refine go_ok (by omega) n (fun z => by omega) (fun _ υ h => ?_) (fun z => by omega) (fun z => by omega)
      have t := RA_TA h
      have c89 := hn υ h
      unfold wpX12_begins
      rw [t.1, show (2 : Int32) = II 2 from rfl, I_eq (by omega), show (1 : Int32) = II 1 from rfl, I_eq (by omega)]
      refine ⟨fun _ => ⟨fun _ => c89, fun z => ?_⟩, fun z => by omega⟩
      have l := sO_36 (K p) k38 (Or.inr (by omega))
      have l22 : K p < 22 := by
        have : ∀ k, k ≤ 38 → sO k = 1 → k < 22 := by decide
        exact this _ k38 (by omega)
      have tn := nm_no (K p) l22 (by omega)
      rw [t.2.1 l]
      simp (disch := omega) only [wpX12_nameOf, I_lit, I_eq, I_le, I_neg]
      refine ⟨fun _ => ⟨fun _ => ?_, fun y => by omega⟩, fun y => by omega⟩
      exact ⟨fun _ => c89, fun y => absurd (by decide) y⟩
