/-! taste: all tokens -/
def ps' (b : Nat → Nat) (l : Nat) : Nat → Nat
  | 0 => 0
  | j + 1 => if rE isBl b l (ps' b l j) < l then edT b l (rE isBl b l (ps' b l j)) else l
def tS (b : Nat → Nat) (l j : Nat) : Nat := rE isBl b l (ps' b l j)
def tK (b : Nat → Nat) (l j : Nat) : Nat := if tS b l j < l then kdT b l (tS b l j) else 37
def tV (b : Nat → Nat) (l j : Nat) : Nat := cv b (tS b l j) (edT b l (tS b l j) - tS b l j)
def tE (b : Nat → Nat) (l j : Nat) : Nat := if tS b l j < l then edT b l (tS b l j) else l
theorem edT_b {b : Nat → Nat} {l p : Nat} (hp : p < l) : p < edT b l p ∧ edT b l p ≤ l := by
  unfold edT
  split
  · obtain ⟨r1, r2, -, -⟩ := rE_b (P := isLt) (b := b) (l := l) _ (p + 1) rfl (by omega)
    omega
  · split
    · obtain ⟨r1, r2, -, -⟩ := rE_b (P := isDi) (b := b) (l := l) _ (p + 1) rfl (by omega)
      omega
    · split
      · unfold wid; split <;> omega
      · omega
theorem kdT_b {b : Nat → Nat} {l p : Nat} (hp : p < l) : kdT b l p ≤ 38 ∧ kdT b l p ≠ 37 := by
  have wb := wid_b b l p
  have eb := edT_b (b := b) hp
  by_cases c : isLt (b p) = true
  · have ee : edT b l p = rE isLt b l (p + 1) := by unfold edT; rw [if_pos c]
    obtain ⟨r1, r2, r3, r4⟩ := rE_b (P := isLt) (b := b) (l := l) _ (p + 1) rfl (by omega)
    have wk := (wdK_code (b := b) (p := p) (q := edT b l p) (by omega) (fun x h1 h2 => by
      by_cases e : x = p
      · rw [e]; exact c
      · rw [ee] at h2; exact r4 x (by omega) h2)).2
    unfold kdT; rw [if_pos c]; omega
  · unfold kdT
    rw [if_neg c]
    split
    · omega
    · split
      · omega
      · split
        · omega
        · have := sgn_b (b p); omega
theorem ps_b {b : Nat → Nat} {l : Nat} : ∀ j, ps' b l j ≤ l ∧ (tS b l j < l → j ≤ tS b l j) ∧ tS b l j ≤ l ∧ ps' b l j ≤ tS b l j := by
  intro j
  induction j with
  | zero =>
    obtain ⟨r1, r2, -, -⟩ := rE_b (P := isBl) (b := b) (l := l) _ 0 rfl (by omega)
    exact ⟨Nat.zero_le _, fun _ => Nat.zero_le _, r2, r1⟩
  | succ j ih =>
    obtain ⟨i1, i2, i3, i4⟩ := ih
    have e : ps' b l (j + 1) = if tS b l j < l then edT b l (tS b l j) else l := rfl
    have a : ps' b l (j + 1) ≤ l ∧ (tS b l j < l → j + 1 ≤ ps' b l (j + 1)) ∧ (¬ tS b l j < l → ps' b l (j + 1) = l) := by
      rw [e]
      split
      · rename_i h
        have := edT_b (b := b) h
        have := i2 h
        exact ⟨by omega, fun _ => by omega, fun z => absurd h z⟩
      · rename_i h; exact ⟨Nat.le_refl _, fun z => absurd z h, fun _ => rfl⟩
    obtain ⟨r1, r2, -, -⟩ := rE_b (P := isBl) (b := b) (l := l) _ (ps' b l (j + 1)) rfl a.1
    have r1 : ps' b l (j + 1) ≤ tS b l (j + 1) := r1
    have r2 : tS b l (j + 1) ≤ l := r2
    refine ⟨a.1, fun h => ?_, r2, r1⟩
    by_cases c : tS b l j < l
    · have := a.2.1 c; omega
    · have := a.2.2 c; omega
theorem tN_ex (b : Nat → Nat) (l : Nat) : ∃ N, N ≤ l ∧ tS b l N = l ∧ ∀ j, j < N → tS b l j < l := by
  obtain ⟨N, h1, h2⟩ := pk_least (fun j => tS b l j = l) ⟨l, by
    obtain ⟨-, h, h3, -⟩ := ps_b (b := b) (l := l) l
    show tS b l l = l
    by_cases c : tS b l l < l
    · have := h c; omega
    · omega⟩
  refine ⟨N, ?_, h1, fun j hj => ?_⟩
  · by_cases c : N ≤ l
    · exact c
    · exfalso
      obtain ⟨-, h, h3, -⟩ := ps_b (b := b) (l := l) l
      have : tS b l l = l := by
        by_cases c2 : tS b l l < l
        · have := h c2; omega
        · omega
      exact h2 l (by omega) this
  · have := h2 j hj
    obtain ⟨-, -, h3, -⟩ := ps_b (b := b) (l := l) j
    have this : ¬ tS b l j = l := this
    omega
theorem tk_Tk {b : Nat → Nat} {l N : Nat} (hl : l ≤ 300) (h1 : N ≤ l) (h2 : tS b l N = l) (h3 : ∀ j, j < N → tS b l j < l) : Tk (tK b l) N := by
  refine ⟨by unfold tK; rw [if_neg (by omega)], by omega, fun p hp => ?_⟩
  have := h3 p hp
  unfold tK
  rw [if_pos this]
  exact kdT_b this
theorem cut_ok {υ : St} {b : Nat → Nat} {l N : Nat} {post : St → Prop} (hb : BC υ b l) (h1 : N ≤ l) (h2 : tS b l N = l) (h3 : ∀ j, j < N → tS b l j < l) (hq : ∀ τ, Eqx [44, 45, 46] υ τ → HK τ (tK b l) (tV b l) (tS b l) N → post τ) : wpX8_cut υ post := by
  have l3 := hb.1
  -- what is cut so far
  have hI : ∃ I : St → Nat → Prop, I = fun τ j => Eqx [44, 45, 46] υ τ ∧ (∀ i, i < j → gI τ 44 i = II (tK b l i : Nat) ∧ gI τ 45 i = II (tS b l i : Nat) ∧ (tK b l i = 36 → gI τ 46 i = II (tV b l i : Nat))) := ⟨_, rfl⟩
  obtain ⟨I, eI⟩ := hI
  have c72 : ∀ τ j, I τ j → j = N → wbX8_cut_72 post (II j) τ := by
    intro τ j hτ ej
    rw [eI] at hτ
    obtain ⟨hE, hA⟩ := hτ
    have e1 : gI (sI τ 44 j 37) 42 1 = II l := by rw [rI2 (by omega), Eqx_gI hE (by simp)]; exact hb.2.1
    unfold wbX8_cut_72
    refine ⟨of_eq_true (I_in (by omega)), ?_⟩
    simp only [fe]
    rw [I_cl (by omega), Int.toNat_natCast, e1]
    refine ⟨of_eq_true (I_in (by omega)), hq _ (Eqx_tI (Eqx_tI hE (by simp)) (by simp)) ⟨fun i hi => ?_, fun i hi h36 => ?_⟩⟩
    · by_cases e : i = j
      · rw [e, rI2 (by omega), rI1, rI1, ej]
        refine ⟨?_, by rw [h2]⟩
        unfold tK; rw [if_neg (by omega)]; rfl
      · rw [rI2 (by omega), rI3 e, rI3 e, rI2 (by omega)]
        have := hA i (by omega)
        exact ⟨this.1, this.2.1⟩
    · by_cases e : i = j
      · rw [e, ej] at h36
        unfold tK at h36; rw [if_neg (by omega)] at h36; omega
      · rw [rI2 (by omega), rI2 (by omega)]
        exact ⟨(hA i (by omega)).2.2 h36, cv_b _ _ _⟩
  have main : ∀ d q j i, l - q = d → q ≤ l → rE isBl b l q = tS b l j → j ≤ N → i ≤ q → j ≤ q → ∃ f, ∀ τ, I τ j → wbX8_cut_6 post f (II j) (II q) (II i) τ := by
    intro d
    induction d using Nat.strongRecOn with
    | _ d ih =>
      intro q j i hd hql hS hjN hiq hjq
      by_cases c : q = l
      · have ej : j = N := by
          have : tS b l j = l := by rw [← hS, rE_no (by omega)]; exact c
          by_cases e : j < N
          · have := h3 j e; omega
          · omega
        refine ⟨1, fun τ hτ => ?_⟩
        have h7 := c72 τ j hτ ej
        have e1 : gI τ 42 1 = II l := by rw [eI] at hτ; rw [Eqx_gI hτ.1 (by simp)]; exact hb.2.1
        simp (disch := omega) only [wbX8_cut_6, I_lit, I_le, e1]
        exact ⟨fun _ => h7, fun _ => ⟨fun _ => h7, fun z => absurd (by omega) z⟩⟩
      · have bq := hb.2.2 q (by omega)
        by_cases cb : isBl (b q) = true
        · have e1 := rE_yes (P := isBl) (b := b) (l := l) (q := q) (by omega) cb
          obtain ⟨f, hf⟩ := ih (l - (q + 1)) (by omega) (q + 1) j (i + 1) rfl (by omega) (by rw [← e1]; exact hS) hjN (by omega) (by omega)
          refine ⟨f + 1, fun τ hτ => ?_⟩
          have hn := hf τ hτ
          have e42 : gI τ 42 1 = II l := by rw [eI] at hτ; rw [Eqx_gI hτ.1 (by simp)]; exact hb.2.1
          have e43 : gI τ 43 q = II (b q) := by rw [eI] at hτ; rw [Eqx_gI hτ.1 (by simp)]; exact bq.1
          have cb' := (isBl_iff _).mp cb
          simp (disch := omega) only [wbX8_cut_6, I_lit, I_le, e42, I_in, true_and, I_cl, Int.toNat_natCast, e43, I_eq, fe, I_add]
          exact ⟨fun z => by omega, fun _ => ⟨fun z => by omega, fun _ => ⟨fun _ => hn, fun z => ⟨fun z2 => by omega, fun _ => hn⟩⟩⟩⟩
        · have e1 : tS b l j = q := by rw [← hS]; exact rE_no (fun z => cb z.2)
          have cb' : ¬ (b q = 32 ∨ b q = 10) := fun z => cb ((isBl_iff _).mpr z)
          have hjlt : j < N := by
            by_cases e : j = N
            · rw [e, h2] at e1; omega
            · omega
          have ed := edT_b (b := b) (l := l) (p := q) (by omega)
          have e2 : ps' b l (j + 1) = edT b l q := by
            show (if tS b l j < l then edT b l (tS b l j) else l) = _
            rw [e1, if_pos (by omega)]
          obtain ⟨f, hf⟩ := ih (l - edT b l q) (by omega) (edT b l q) (j + 1) (i + 1) rfl ed.2 (by rw [← e2]; rfl) (by omega) (by omega) (by omega)
          refine ⟨f + 1, fun τ hτ => ?_⟩
          have hτ0 := hτ
          rw [eI] at hτ
          obtain ⟨hE, hA⟩ := hτ
          have e42 : gI τ 42 1 = II l := by rw [Eqx_gI hE (by simp)]; exact hb.2.1
          have e43 : gI τ 43 q = II (b q) := by rw [Eqx_gI hE (by simp)]; exact bq.1
          simp (disch := omega) only [wbX8_cut_6, I_lit, I_le, e42, I_in, true_and, I_cl, Int.toNat_natCast, e43, I_eq, fe, I_add]
          refine ⟨fun z => by omega, fun _ => ⟨fun z => by omega, fun _ => ⟨fun z => by omega, fun _ => ⟨fun _ => ?_, fun z => by omega⟩⟩⟩⟩
          have hb2 : BC (sI τ 45 j (II q)) b l := ⟨l3, by rw [rI2 (by omega)]; exact e42, fun x hx => by rw [rI2 (by omega), Eqx_gI hE (by simp)]; exact hb.2.2 x hx⟩
          refine cutOne_ok hb2 (by omega) (by omega) ?_
          intro ρ hρ
          obtain ⟨g1, g2, g3, g4, g5⟩ := hρ
          refine hf ρ ?_
          rw [eI]
          refine ⟨Eqx.trans (Eqx_tI hE (by simp)) (Eqx.mono g1 (by simp)), fun x hx => ?_⟩
          by_cases e : x = j
          · rw [e]
            have ek : tK b l j = kdT b l q := by unfold tK; rw [e1, if_pos (by omega)]
            have ev : tV b l j = cv b q (edT b l q - q) := by unfold tV; rw [e1]
            refine ⟨by rw [g2, ek], by rw [Eqx_gI g1 (by simp), rI1, e1], fun z => ?_⟩
            rw [ek] at z
            rw [g4 z, ev]
          · have := hA x (by omega)
            refine ⟨by rw [g3 x e, rI2 (by omega)]; exact this.1, by rw [Eqx_gI g1 (by simp), rI3 e]; exact this.2.1, fun z => by rw [g5 x e, rI2 (by omega)]; exact this.2.2 z⟩
  obtain ⟨f, hf⟩ := main (l - 0) 0 0 0 rfl (by omega) rfl (by omega) (by omega) (by omega)
  exact ⟨f, hf υ (by rw [eI]; exact ⟨Eqx.refl _ _, fun i hi => absurd hi (by omega)⟩)⟩
