/-! taste: the reference tells a taste -/
def RTs (τ : St) (t : Nat) (cl : Cls) : Prop := gI τ 80 t = II (cl.length : Nat) ∧ cl.length ≤ 12 ∧ (ords cl).length ≤ 400 ∧ Kd cl ∧ (∀ i, i < cl.length → gI τ 81 (12 * t + i) = II (tO (cl.getD i (0, [])).1 : Nat) ∧ gI τ 82 (12 * t + i) = II ((400 * t + (ords (cl.take i)).length : Nat) : Int)) ∧ (∀ j, j < (ords cl).length → gI τ 85 (400 * t + j) = II (((ords cl).getD j (0, 0)).1 : Nat) ∧ gI τ 86 (400 * t + j) = II (((ords cl).getD j (0, 0)).2 : Nat))
theorem RTs_eq {σ τ : St} {t : Nat} {cl : Cls} (h : RTs σ t cl) (e : ∀ q, 80 ≤ q → q ≤ 86 → τ q = σ q) : RTs τ t cl := by
  obtain ⟨h1, h2, h3, h4, h5, h6⟩ := h
  exact ⟨by rw [gI_of (e 80 (by omega) (by omega))]; exact h1, h2, h3, h4, fun i hi => by rw [gI_of (e 81 (by omega) (by omega)), gI_of (e 82 (by omega) (by omega))]; exact h5 i hi, fun i hi => by rw [gI_of (e 85 (by omega) (by omega)), gI_of (e 86 (by omega) (by omega))]; exact h6 i hi⟩
theorem ords_ap : ∀ (a b : Cls), ords (a ++ b) = ords a ++ ords b := by
  intro a
  induction a with
  | nil => intro b; rfl
  | cons x a ih => intro b; show roL x.2 ++ [(408, 0)] ++ ords (a ++ b) = _; rw [ih]; simp [ords]
theorem dr_s {α : Type} (l : List α) (d : α) : ∀ i, i < l.length → l.drop i = l.getD i d :: l.drop (i + 1) := by
  induction l with
  | nil => intro i hi; exact absurd hi (by simp)
  | cons x l ih =>
    intro i hi
    cases i with
    | zero => rfl
    | succ i => rw [List.length_cons] at hi; exact ih i (by omega)
theorem ords_at {cl : Cls} {i : Nat} (hi : i < cl.length) : ∃ r, ords cl = ords (cl.take i) ++ (roL (cl.getD i (0, [])).2 ++ ([(408, 0)] ++ r)) := by
  refine ⟨ords (cl.drop (i + 1)), ?_⟩
  have e := ords_ap (cl.take i) (cl.drop i)
  rw [List.take_append_drop, dr_s cl (0, []) i hi] at e
  rw [e]
  show _ ++ (roL (cl.getD i (0, [])).2 ++ [(408, 0)] ++ _) = _
  rw [List.append_assoc (roL _)]
theorem gd_ro (c : List Nat) (i : Nat) (h : i < c.length) : (roL c).getD i (0, 0) = ro (c.getD i 0) := by
  unfold roL
  rw [List.getD_eq_getElem?_getD, List.getD_eq_getElem?_getD, List.getElem?_map, List.getElem?_eq_getElem h]
  rfl
theorem gd_mem {α : Type} (l : List α) (d : α) (i : Nat) (h : i < l.length) : l.getD i d ∈ l := by
  rw [List.getD_eq_getElem?_getD, List.getElem?_eq_getElem h]; exact List.getElem_mem h
/-- one clause told -/
theorem rclause_ok {τ υ : St} {t i : Nat} {u : Bool} {w : Nat → Int} {cl : Cls} {post : Int64 → St → Prop} (hR : RTs τ t cl) (ht : t < 6) (hi : i < cl.length) (hv : Vl u 60 (cl.getD i (0, [])).2) (hb : WB w) (hw : ∀ i, i < 14 → gL τ 96 i = LL (w i)) (e : Eqx [97] τ υ)
    (hq : ∀ υ, Eqx [97] τ υ → post (LL (vlu w (cl.getD i (0, [])).2)) υ) : wpX12_tells (gI υ 82 (12 * t + i)) υ post := by
  obtain ⟨h1, h2, h3, h4, h5, h6⟩ := hR
  obtain ⟨r, er⟩ := ords_at hi
  have len : (ords cl).length = (ords (cl.take i)).length + ((cl.getD i (0, [])).2.length + (1 + r.length)) := by
    rw [er]; simp only [List.length_append, roL_len, List.length_singleton]
  rw [Eqx_gI e (by simp), (h5 i hi).2]
  refine rtells_ok (t := u) (w := w) (c := (cl.getD i (0, [])).2) (fun i hi => by rw [Eqx_gL e (by simp)]; exact hw i hi) hb hv (by omega) (fun k hk => ?_) ?_ (fun υ' e' => hq υ' (e.trans e'))
  · have := h6 ((ords (cl.take i)).length + k) (by omega)
    rw [er, gdM _ _ _ _ _ (by rw [roL_len]; exact hk), gd_ro _ _ hk] at this
    rw [Eqx_gI e (by simp), Eqx_gI e (by simp), Nat.add_assoc]
    exact this
  · have := h6 ((ords (cl.take i)).length + (cl.getD i (0, [])).2.length) (by omega)
    rw [er] at this
    have g := gdM (ords (cl.take i) ++ roL (cl.getD i (0, [])).2) [(408, 0)] r (0, 0) 0 (by simp)
    rw [List.length_append, roL_len, Nat.add_zero, List.append_assoc] at g
    rw [g] at this
    rw [Eqx_gI e (by simp), Nat.add_assoc]
    exact this.1
theorem tOk {x : Nat} (h : x = 14 ∨ x = 15 ∨ x = 0 ∨ x = 16) : (tO x = 0 ↔ x = 14) ∧ (tO x = 1 ↔ x = 15) ∧ tO x ≤ 3 := by
  rcases h with h | h | h | h <;> subst h <;> decide
theorem rworth_ok {τ : St} {t : Nat} {w : Nat → Int} {cl : Cls} {post : Int64 → St → Prop} (hR : RTs τ t cl) (ht : t < 6) (hg : GdC cl) (hb : WB w) (hw : ∀ i, i < 14 → gL τ 96 i = LL (w i))
    (hq : ∀ υ, Eqx [97] τ υ → post (LL (woC w cl 0)) υ) : wpX12_worthOf (II t) τ post := by
  obtain ⟨h1, h2, h3, h4, h5, h6⟩ := id hR
  have key := up (P := fun f i => ∀ (υ : St) (v : Int), Eqx [97] τ υ → woC w (cl.drop i) v = woC w cl 0 → wbX12_worthOf_5 post f (II t) (LL v) (II i) υ) cl.length ?_ ?_ 0 (by omega)
  · obtain ⟨f, hf⟩ := key
    exact ⟨f, hf τ 0 (Eqx.refl _ _) rfl⟩
  · intro f υ v e hv
    rw [List.drop_length] at hv
    simp only [wbX12_worthOf_5]
    rw [I_cl (by omega), Int.toNat_natCast, Eqx_gI e (by simp), h1, I_le (by omega)]
    exact ⟨of_eq_true (I_in (by omega)), fun _ => by rw [show v = woC w cl 0 from hv]; exact hq υ e, fun z => by omega⟩
  · intro f i hi ih υ v e hv
    have i1 : (II (i : Int)) + 1 = II ((i + 1 : Nat) : Int) := by rw [show (1 : Int32) = II 1 from rfl, I_add]; rfl
    have a1 : (12 : Int32) * II (t : Int) + II (i : Int) = II ((12 * t + i : Nat) : Int) := by rw [show (12 : Int32) = II 12 from rfl, I_mul, I_add]; rfl
    have k := tOk (h4 _ (gd_mem cl (0, []) i hi))
    rw [dr_s cl (0, []) i hi] at hv
    simp only [woC] at hv
    simp only [wbX12_worthOf_5]
    rw [I_cl (by omega), Int.toNat_natCast, Eqx_gI e (by simp), h1, I_le (by omega), a1, I_cl (by omega), Int.toNat_natCast, Eqx_gI e (q := 81) (by simp), (h5 i hi).1]
    refine ⟨of_eq_true (I_in (by omega)), fun z => by omega, fun _ => ⟨of_eq_true (I_in (by omega)), ?_⟩⟩
    refine isn 0 (by omega) (by decide) (fun z => ?_) (fun z => ⟨of_eq_true (I_in (by omega)), ?_⟩)
    · simp only [fe]
      rw [if_neg (fun y => z (k.1.mpr y))] at hv
      rw [i1]; exact ih υ v e hv
    · have c := k.1.mp z
      rw [if_pos c] at hv
      refine rclause_ok hR ht hi ((hg _ (gd_mem cl (0, []) i hi)).1 c) hb hw e (fun υ' e' => ?_)
      simp only [fe]
      rw [i1]; exact ih υ' _ e' hv
theorem rbarred_ok {τ : St} {t : Nat} {w : Nat → Int} {cl : Cls} {post : Int32 → St → Prop} (hR : RTs τ t cl) (ht : t < 6) (hg : GdC cl) (hb : WB w) (hw : ∀ i, i < 14 → gL τ 96 i = LL (w i))
    (hq : ∀ υ, Eqx [97] τ υ → post (II (if baC w cl false then 1 else 0)) υ) : wpX12_isBarred (II t) τ post := by
  obtain ⟨h1, h2, h3, h4, h5, h6⟩ := id hR
  have key := up (P := fun f i => ∀ (υ : St) (v : Bool), Eqx [97] τ υ → baC w (cl.drop i) v = baC w cl false → wbX12_isBarred_4 post f (II t) (II (b2 v)) (II i) υ) cl.length ?_ ?_ 0 (by omega)
  · obtain ⟨f, hf⟩ := key
    exact ⟨f, hf τ false (Eqx.refl _ _) rfl⟩
  · intro f υ v e hv
    rw [List.drop_length] at hv
    have hv : v = baC w cl false := hv
    simp only [wbX12_isBarred_4]
    rw [I_cl (by omega), Int.toNat_natCast, Eqx_gI e (by simp), h1, I_le (by omega)]
    refine ⟨of_eq_true (I_in (by omega)), fun _ => ⟨?_, ?_⟩, fun z => by omega⟩
    · cases v
      · exact Or.inl rfl
      · exact Or.inr rfl
    · have := hq υ e; rw [← hv] at this; exact this
  · intro f i hi ih υ v e hv
    have i1 : (II (i : Int)) + 1 = II ((i + 1 : Nat) : Int) := by rw [show (1 : Int32) = II 1 from rfl, I_add]; rfl
    have a1 : (12 : Int32) * II (t : Int) + II (i : Int) = II ((12 * t + i : Nat) : Int) := by rw [show (12 : Int32) = II 12 from rfl, I_mul, I_add]; rfl
    have k := tOk (h4 _ (gd_mem cl (0, []) i hi))
    rw [dr_s cl (0, []) i hi] at hv
    simp only [baC] at hv
    simp only [wbX12_isBarred_4]
    rw [I_cl (by omega), Int.toNat_natCast, Eqx_gI e (by simp), h1, I_le (by omega), a1, I_cl (by omega), Int.toNat_natCast, Eqx_gI e (q := 81) (by simp), (h5 i hi).1]
    refine ⟨of_eq_true (I_in (by omega)), fun z => by omega, fun _ => ⟨of_eq_true (I_in (by omega)), ?_⟩⟩
    refine isn 1 (by omega) (by decide) (fun z => ?_) (fun z => ?_)
    · simp only [fe]
      have c5 : ((cl.getD i (0, [])).1 == 15) = false := by rw [beq_eq_false_iff_ne]; exact fun y => z (k.2.1.mpr y)
      rw [c5, Bool.false_and, Bool.or_false] at hv
      rw [i1]; exact ih υ v e hv
    · have c := k.2.1.mp z
      have c5 : ((cl.getD i (0, [])).1 == 15) = true := by rw [c]; rfl
      rw [c5, Bool.true_and] at hv
      have vl := (hg _ (gd_mem cl (0, []) i hi)).2 c
      cases v with
      | true =>
        refine ⟨fun _ => ?_, fun z => absurd z (by decide)⟩
        simp only [fe]
        rw [Bool.true_or] at hv
        rw [i1]; exact ih υ true e hv
      | false =>
        refine ⟨fun z => absurd rfl z, fun _ => ⟨of_eq_true (I_in (by omega)), ?_⟩⟩
        refine rclause_ok hR ht hi vl hb hw e (fun υ' e' => ?_)
        rw [Bool.false_or] at hv
        simp only [fe]
        rw [i1]
        rcases (b01_iff _).mp ((Vl_vlu vl w).2 rfl) with y | y
        · rw [y] at hv ⊢
          exact ⟨fun _ => ih υ' false e' hv, fun z => absurd z (by decide)⟩
        · rw [y] at hv ⊢
          exact ⟨fun z => absurd z (by decide), fun _ => ih υ' true e' hv⟩
