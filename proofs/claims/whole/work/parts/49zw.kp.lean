/-! taste: the reference keeps what it read -/
def KpI (υ τ : St) (k : Nat) (cl : Cls) (i : Nat) : Prop := Eqx [81, 82] υ τ ∧ (∀ j, j < 12 * k → gI τ 81 j = gI υ 81 j ∧ gI τ 82 j = gI υ 82 j) ∧ (∀ j, j < i → gI τ 81 (12 * k + j) = II (tO (cl.getD j (0, [])).1 : Nat) ∧ gI τ 82 (12 * k + j) = II ((400 * k + (ords (cl.take j)).length : Nat) : Int))
def KpJ (υ τ : St) (k : Nat) (o : List (Nat × Nat)) (i : Nat) : Prop := Eqx [85, 86] υ τ ∧ (∀ j, j < 400 * k → gI τ 85 j = gI υ 85 j ∧ gI τ 86 j = gI υ 86 j) ∧ (∀ j, j < i → gI τ 85 (400 * k + j) = II ((o.getD j (0, 0)).1 : Nat) ∧ gI τ 86 (400 * k + j) = II ((o.getD j (0, 0)).2 : Nat))
theorem kp88_ok {υ : St} {k : Nat} {o : List (Nat × Nat)} {post : St → Prop} (hk : k < 6) (ho : o.length ≤ 400) (h35 : gI υ 75 35 = II (o.length : Nat)) (hP : PrA υ 94 95 o) (hq : ∀ τ, KpJ υ τ k o o.length → post τ) : ∃ f, wbX12_keepsText_88 post f (II k) (II 0) υ := by
  have key := up (P := fun f i => ∀ τ, KpJ υ τ k o i → wbX12_keepsText_88 post f (II k) (II i) τ) o.length ?_ ?_ 0 (by omega)
  · obtain ⟨f, hf⟩ := key
    exact ⟨f, hf υ ⟨Eqx.refl _ _, fun _ _ => ⟨rfl, rfl⟩, fun j hj => absurd hj (by omega)⟩⟩
  · intro f τ h
    simp only [wbX12_keepsText_88]
    rw [Eqx_gI h.1 (by simp), h35, I_le (by omega)]
    exact ⟨fun _ => hq τ h, fun z => by omega⟩
  · intro f i hi ih τ h
    have a1 : (400 : Int32) * II (k : Int) + II (i : Int) = II ((400 * k + i : Nat) : Int) := by rw [show (400 : Int32) = II 400 from rfl, I_mul, I_add]; rfl
    have i1 : (II (i : Int)) + 1 = II ((i + 1 : Nat) : Int) := by rw [show (1 : Int32) = II 1 from rfl, I_add]; rfl
    simp only [wbX12_keepsText_88]
    rw [Eqx_gI h.1 (q := 75) (by simp), h35, I_le (by omega), a1, I_cl (a := (i : Int)) (by omega), Int.toNat_natCast, I_cl (by omega), Int.toNat_natCast]
    refine ⟨fun z => by omega, fun _ => ⟨of_eq_true (I_in (by omega)), of_eq_true (I_in (by omega)), ?_⟩⟩
    simp only [fe]
    refine ⟨of_eq_true (I_in (by omega)), of_eq_true (I_in (by omega)), ?_⟩
    rw [rI2 (by omega), Eqx_gI h.1 (q := 94) (by simp), Eqx_gI h.1 (q := 95) (by simp), (hP i hi).1, (hP i hi).2, i1]
    refine ih _ ⟨Eqx_tI (Eqx_tI h.1 (by simp)) (by simp), fun j hj => ⟨?_, ?_⟩, fun j hj => ?_⟩
    · rw [rI2 (by omega), rI3 (by omega)]; exact (h.2.1 j hj).1
    · rw [rI3 (by omega), rI2 (by omega)]; exact (h.2.1 j hj).2
    · by_cases e : j = i
      · rw [e]; exact ⟨by rw [rI2 (by omega), rI1], by rw [rI1]⟩
      · exact ⟨by rw [rI2 (by omega), rI3 (by omega)]; exact (h.2.2 j (by omega)).1, by rw [rI3 (by omega), rI2 (by omega)]; exact (h.2.2 j (by omega)).2⟩
theorem kp32_ok {υ : St} {A B : CS} {k : Nat} {cl : Cls} {post : St → Prop} (hk : k < 6) (hc : cl.length ≤ 12) (ho : (ords cl).length ≤ 400) (h30 : gI υ 75 30 = II (cl.length : Nat)) (h92 : υ 92 = A) (h93 : υ 93 = B) (hA : AF A B cl) (hK : Kd cl) (h35 : gI υ 75 35 = II ((ords cl).length : Nat)) (hP : PrA υ 94 95 (ords cl)) (hq : ∀ ρ τ, KpI υ ρ k cl cl.length → KpJ ρ τ k (ords cl) (ords cl).length → post τ) : ∃ f, wbX12_keepsText_32 post f (II k) (II 0) υ := by
  have key := up (P := fun f i => ∀ τ, KpI υ τ k cl i → wbX12_keepsText_32 post f (II k) (II i) τ) cl.length ?_ ?_ 0 (by omega)
  · obtain ⟨f, hf⟩ := key
    exact ⟨f, hf υ ⟨Eqx.refl _ _, fun _ _ => ⟨rfl, rfl⟩, fun j hj => absurd hj (by omega)⟩⟩
  · intro f τ h
    simp only [wbX12_keepsText_32]
    rw [Eqx_gI h.1 (by simp), h30, I_le (by omega)]
    refine ⟨fun _ => kp88_ok hk ho (by rw [Eqx_gI h.1 (by simp)]; exact h35) (PrA_eq hP (h.1 94 (by simp)).symm (h.1 95 (by simp)).symm) (fun ρ hr => hq τ ρ h hr), fun z => by omega⟩
  · intro f i hi ih τ h
    have a1 : (12 : Int32) * II (k : Int) + II (i : Int) = II ((12 * k + i : Nat) : Int) := by rw [show (12 : Int32) = II 12 from rfl, I_mul, I_add]; rfl
    have i1 : (II (i : Int)) + 1 = II ((i + 1 : Nat) : Int) := by rw [show (1 : Int32) = II 1 from rfl, I_add]; rfl
    have g92 : gI υ 92 i = II (tO (cl.getD i (0, [])).1 : Nat) := by unfold gI; rw [h92]; exact (hA i hi).1
    have g93 : gI υ 93 i = II ((ords (cl.take i)).length : Nat) := by unfold gI; rw [h93]; exact (hA i hi).2
    have a2 : (400 : Int32) * II (k : Int) + II ((ords (cl.take i)).length : Nat) = II ((400 * k + (ords (cl.take i)).length : Nat) : Int) := by rw [show (400 : Int32) = II 400 from rfl, I_mul, I_add]; rfl
    simp only [wbX12_keepsText_32]
    rw [Eqx_gI h.1 (q := 75) (by simp), h30, I_le (by omega), a1, I_cl (a := (i : Int)) (by omega), Int.toNat_natCast, I_cl (by omega), Int.toNat_natCast]
    refine ⟨fun z => by omega, fun _ => ⟨of_eq_true (I_in (by omega)), of_eq_true (I_in (by omega)), ?_⟩⟩
    simp only [fe]
    refine ⟨of_eq_true (I_in (by omega)), of_eq_true (I_in (by omega)), ?_⟩
    rw [rI2 (by omega), Eqx_gI h.1 (q := 92) (by simp), Eqx_gI h.1 (q := 93) (by simp), g92, g93, i1, a2]
    refine ih _ ⟨Eqx_tI (Eqx_tI h.1 (by simp)) (by simp), fun j hj => ⟨?_, ?_⟩, fun j hj => ?_⟩
    · rw [rI2 (by omega), rI3 (by omega)]; exact (h.2.1 j hj).1
    · rw [rI3 (by omega), rI2 (by omega)]; exact (h.2.1 j hj).2
    · by_cases e : j = i
      · rw [e]; exact ⟨by rw [rI2 (by omega), rI1], by rw [rI1]⟩
      · exact ⟨by rw [rI2 (by omega), rI3 (by omega)]; exact (h.2.2 j (by omega)).1, by rw [rI3 (by omega), rI2 (by omega)]; exact (h.2.2 j (by omega)).2⟩
def TC : List Nat := [80, 81, 82, 83, 84, 85, 86]
theorem keeps_ok {υ : St} {A B : CS} {k nr ps : Nat} {cl : Cls} {post : St → Prop} (hk : k < 6) (hc : cl.length ≤ 12) (ho : (ords cl).length ≤ 400) (h30 : gI υ 75 30 = II (cl.length : Nat)) (h31 : gI υ 75 31 = II nr) (h32 : gI υ 75 32 = II ps) (h92 : υ 92 = A) (h93 : υ 93 = B) (hA : AF A B cl) (hK : Kd cl) (h35 : gI υ 75 35 = II ((ords cl).length : Nat)) (hP : PrA υ 94 95 (ords cl))
    (hq : ∀ τ, Eqx TC υ τ → RTs τ k cl → (∀ t, t < k → RWe t υ τ ∧ gI τ 83 t = gI υ 83 t ∧ gI τ 84 t = gI υ 84 t) → gI τ 83 k = II nr → gI τ 84 k = II ps → post τ) : wpX12_keepsText (II k) υ post := by
  unfold wpX12_keepsText
  simp only [fe]
  rw [I_cl (by omega), Int.toNat_natCast, h30, rI2 (by omega), h31, rI2 (by omega), rI2 (by omega), h32]
  obtain ⟨α, eα⟩ : ∃ α, α = sI (sI (sI υ 80 k (II (cl.length : Nat))) 83 k (II nr)) 84 k (II ps) := ⟨_, rfl⟩
  rw [← eα]
  have aE : Eqx [80, 83, 84] υ α := by rw [eα]; exact Eqx_tI (Eqx_tI (Eqx_tI (Eqx.refl _ _) (by simp)) (by simp)) (by simp)
  have a80 : gI α 80 k = II (cl.length : Nat) := by rw [eα, rI2 (by omega), rI2 (by omega), rI1]
  have a83 : gI α 83 k = II nr := by rw [eα, rI2 (by omega), rI1]
  have a84 : gI α 84 k = II ps := by rw [eα, rI1]
  have o80 : ∀ t, t < k → gI α 80 t = gI υ 80 t := fun t ht => by rw [eα, rI2 (by omega), rI2 (by omega), rI3 (by omega)]
  have o83 : ∀ t, t < k → gI α 83 t = gI υ 83 t := fun t ht => by rw [eα, rI2 (by omega), rI3 (by omega), rI2 (by omega)]
  have o84 : ∀ t, t < k → gI α 84 t = gI υ 84 t := fun t ht => by rw [eα, rI3 (by omega), rI2 (by omega), rI2 (by omega)]
  clear eα
  refine ⟨of_eq_true (I_in (by omega)), of_eq_true (I_in (by omega)), of_eq_true (I_in (by omega)), ?_⟩
  refine kp32_ok hk hc ho (by rw [Eqx_gI aE (by simp)]; exact h30) (by rw [← h92]; exact (aE 92 (by simp)).symm) (by rw [← h93]; exact (aE 93 (by simp)).symm) hA hK (by rw [Eqx_gI aE (by simp)]; exact h35) (PrA_eq hP (aE 94 (by simp)).symm (aE 95 (by simp)).symm) (fun ρ τ hr ht => ?_)
  refine hq τ (fun q hq' => ?_) ⟨?_, hc, ho, hK, fun i hi => ?_, fun j hj => ht.2.2 j hj⟩ (fun t ht' => ⟨⟨?_, fun i hi => ⟨?_, ?_⟩, fun j hj => ⟨?_, ?_⟩⟩, ?_, ?_⟩) ?_ ?_
  · have hn : q ∉ [85, 86] ∧ q ∉ [81, 82] ∧ q ∉ [80, 83, 84] := by simp [TC] at hq'; refine ⟨?_, ?_, ?_⟩ <;> simp <;> omega
    rw [aE q hn.2.2, hr.1 q hn.2.1, ht.1 q hn.1]
  · rw [Eqx_gI ht.1 (by simp), Eqx_gI hr.1 (by simp)]; exact a80
  · rw [Eqx_gI ht.1 (q := 81) (by simp), Eqx_gI ht.1 (q := 82) (by simp)]; exact hr.2.2 i hi
  · rw [Eqx_gI ht.1 (by simp), Eqx_gI hr.1 (by simp)]; exact o80 t ht'
  · rw [Eqx_gI ht.1 (by simp), (hr.2.1 (12 * t + i) (by omega)).1, Eqx_gI aE (by simp)]
  · rw [Eqx_gI ht.1 (by simp), (hr.2.1 (12 * t + i) (by omega)).2, Eqx_gI aE (by simp)]
  · rw [(ht.2.1 (400 * t + j) (by omega)).1, Eqx_gI hr.1 (by simp), Eqx_gI aE (by simp)]
  · rw [(ht.2.1 (400 * t + j) (by omega)).2, Eqx_gI hr.1 (by simp), Eqx_gI aE (by simp)]
  · rw [Eqx_gI ht.1 (by simp), Eqx_gI hr.1 (by simp)]; exact o83 t ht'
  · rw [Eqx_gI ht.1 (by simp), Eqx_gI hr.1 (by simp)]; exact o84 t ht'
  · rw [Eqx_gI ht.1 (by simp), Eqx_gI hr.1 (by simp)]; exact a83
  · rw [Eqx_gI ht.1 (by simp), Eqx_gI hr.1 (by simp)]; exact a84
