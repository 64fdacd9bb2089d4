/-! queries: returned -/
def lz (f : Nat → Int) : Nat → Int
  | 0 => -60
  | i + 1 => if 0 < f i then i else lz f i
theorem lz_in (f : Nat → Int) (i : Nat) : lz f i = -60 ∨ 0 ≤ lz f i ∧ lz f i < i := by
  induction i with
  | zero => exact Or.inl rfl
  | succ i ih => simp only [lz]; split <;> omega
def eA (f : Nat → Int) (i : Nat) : Int := if lz f i = -60 then i else i - 1 - lz f i
def cB (f : Nat → Int) (g : Int) (i : Nat) : Prop := 40 ≤ i ∧ 0 < f i ∧ lz f i ≠ -60 ∧ g ≤ (i : Int) - 1 - lz f i
def f6 (G : GV) (n i : Nat) : Int := gt G i 6 n
theorem f6_in {G : GV} (h : GB G) (n i : Nat) : 0 ≤ f6 G n i ∧ f6 G n i ≤ 119988 := ⟨gt_nn h _ _ _, gt_le h _ _ _⟩
theorem c6_ok {σ : St} {G : GV} {o n i : Nat} {post : Int32 → St → Prop} (B : Bk σ 0 G o) (hn : n < 16) (hi : i ≤ 100) (hp : post (II (f6 G n i)) σ) : wpX10_in (II n) (II ((i : Int) - 40)) σ post := cin_ok B hn (by omega) (by rw [show ((i : Int) - 40 + 40).toNat = i by omega]; exact hp)
theorem a6_ok {σ : St} {G : GV} {n i : Nat} {post : Int32 → St → Prop} (h : RG σ G) (hn : n < 16) (hi : i ≤ 100) (hp : post (II (f6 G n i)) σ) : wpX12_all (II ((i : Int) - 40)) (II n) σ post := all_ok h hn (by omega) (by rw [if_neg (by omega), show ((i : Int) - 40 + 40).toNat = i by omega]; exact hp)
theorem emptyAhead_ok {σ : St} {G : GV} {o n i : Nat} {post : Int32 → St → Prop} (B : Bk σ 0 G o) (hG : GB G) (hn : n < 16) (hi : i ≤ 101) (hp : post (II (eA (f6 G n) i)) σ) : wpX10_emptyAhead (II n) (II ((i : Int) - 40)) σ post := by
  unfold wpX10_emptyAhead
  simp only [fe, I_lit, I_sub]
  have key := dn (P := fun f j => j ≤ i → lz (f6 G n) i = lz (f6 G n) j → wbX10_emptyAhead_7 post f (II n) (II ((i : Int) - j)) (II ((j : Int) - 40 - 1)) σ) ?_ ?_ i
  · obtain ⟨f, hf⟩ := key
    have := hf (Nat.le_refl _) rfl
    rw [Int.sub_self] at this
    exact ⟨f, this⟩
  · intro f _ he
    have : eA (f6 G n) i = i := by unfold eA; rw [he]; exact if_pos rfl
    rw [this] at hp
    simp (disch := omega) only [wbX10_emptyAhead_7, I_lit, I_neg, I_lt]
    refine ⟨fun _ => ?_, fun q => absurd (by omega) q⟩
    rw [show (i : Int) - ((0 : Nat) : Int) = i by omega]; exact hp
  · intro f j ih hj he
    have b := f6_in hG n j
    simp (disch := omega) only [wbX10_emptyAhead_7, I_lit, I_neg, I_lt]
    refine ⟨fun q => absurd q (by omega), fun _ => ?_⟩
    rw [show ((j + 1 : Nat) : Int) - 40 - 1 = (j : Int) - 40 by omega]
    refine c6_ok B hn (by omega) ?_
    have e1 : lz (f6 G n) (j + 1) = if 0 < f6 G n j then (j : Int) else lz (f6 G n) j := rfl
    rw [I_eq (by omega)]
    simp only [fe, I_add]
    refine ⟨fun q => ?_, fun q => ?_⟩
    · rw [if_pos (by omega)] at e1
      have : eA (f6 G n) i = (i : Int) - ((j + 1 : Nat) : Int) := by unfold eA; rw [he, e1, if_neg (by omega)]; omega
      rw [this] at hp; exact hp
    · rw [if_neg (by omega)] at e1
      have := ih (by omega) (by rw [he, e1])
      rw [show (i : Int) - ((j + 1 : Nat) : Int) + 1 = (i : Int) - j by omega, show (j : Int) - 40 + -1 = (j : Int) - 40 - 1 by omega]
      exact this
theorem comesBack_ok {σ : St} {G : GV} {o n E : Nat} {M g : Int} {post : Int32 → St → Prop} (B : Bk σ 0 G o) (hG : GB G) (hn : n < 16) (h9 : gI σ 9 0 = II M) (hM : 0 ≤ M ∧ M ≤ 61) (hg : 1 ≤ g ∧ g ≤ 60) (h40 : 40 ≤ E) (hE : (E : Int) ≤ M + 40) (hno : ∀ i, i < E → ¬ cB (f6 G n) g i) (h1 : (E : Int) = M + 40 → post (II (-1)) σ) (h2 : (E : Int) < M + 40 → cB (f6 G n) g E ∧ post (II ((E : Int) - 40)) σ) : wpX10_comesBack (II n) (II g) σ post := by
  unfold wpX10_comesBack
  have step : ∀ (i : Nat) (K : Int32 → Int32 → Int32 → St → Prop), 40 ≤ i → (i : Int) < M + 40 → 0 < f6 G n i → (cB (f6 G n) g i → post (II ((i : Int) - 40)) σ) → (¬ cB (f6 G n) g i → K (II n) (II g) (II ((i : Int) - 40 + 1)) σ) →
      wpX10_emptyAhead (II n) (II ((i : Int) - 40)) σ (fun r_4 σ_5 => (((II ((i : Int) - 40) - r_4) ≤ II (-40) → wbX10_comesBack_44 K post (II n) (II g) (II ((i : Int) - 40)) r_4 (II 0) σ_5) ∧ (¬ (II ((i : Int) - 40) - r_4) ≤ II (-40) → wbX10_comesBack_44 K post (II n) (II g) (II ((i : Int) - 40)) r_4 (II 1) σ_5))) := by
    intro i K hi hiM hf hc hk
    refine emptyAhead_ok B hG hn (by omega) ?_
    have l := lz_in (f6 G n) i
    have eb : (lz (f6 G n) i = -60 ∧ eA (f6 G n) i = i) ∨ (lz (f6 G n) i ≠ -60 ∧ eA (f6 G n) i = i - 1 - lz (f6 G n) i) := by
      unfold eA; split <;> omega
    rw [I_sub, I_le (by omega)]
    refine ⟨fun q => ?_, fun q => ?_⟩
    · unfold wbX10_comesBack_44
      simp (disch := omega) only [I_lt, I_lit, I_add, fe]
      have nk := hk (fun z => by unfold cB at z; omega)
      exact ⟨fun _ => nk, fun _ => ⟨fun _ => nk, fun z => absurd trivial z⟩⟩
    · unfold wbX10_comesBack_44
      simp (disch := omega) only [I_lt, I_lit, I_add, fe]
      refine ⟨fun q2 => hk (fun z => by unfold cB at z; omega), fun q2 => t1 (hc ?_)⟩
      unfold cB; omega
  have key := up (P := fun f i => 40 ≤ i → wbX10_comesBack_2 post f (II n) (II g) (II ((i : Int) - 40)) σ) E ?_ ?_ 40 h40
  · obtain ⟨f, hf⟩ := key
    exact ⟨f, hf (Nat.le_refl _)⟩
  · intro f _
    simp (disch := omega) only [wbX10_comesBack_2, h9, I_lit, I_neg, I_le]
    refine ⟨fun q => h1 (by omega), fun q => ?_⟩
    obtain ⟨h3, h4⟩ := h2 (by omega)
    have b := f6_in hG n E
    refine c6_ok B hn (by omega) ?_
    have h5 : 0 < f6 G n E := h3.2.1
    rw [I_le (by omega)]
    exact ⟨fun q2 => by omega, fun _ => step E _ h40 (by omega) h5 (fun _ => h4) (fun z => absurd h3 z)⟩
  · intro f i hi ih h4
    have ih' := ih (by omega)
    rw [show ((i + 1 : Nat) : Int) - 40 = (i : Int) - 40 + 1 by omega] at ih'
    simp (disch := omega) only [wbX10_comesBack_2, h9, I_lit, I_neg, I_le, fe, I_add]
    refine ⟨fun q => absurd q (by omega), fun q => ?_⟩
    have b := f6_in hG n i
    refine c6_ok B hn (by omega) ?_
    rw [I_le (by omega)]
    refine ⟨fun _ => ih', fun q2 => step i _ h4 (by omega) (by omega) (fun z => absurd z (hno i hi)) (fun _ => ih')⟩
theorem rreturn1 {σ : St} {G : GV} {m : MT} {n E : Nat} {g k : Int} {post : Int32 → St → Prop} (hR : RG σ G) (hG : GB G) (hn : n < 16) (hm : RM σ m) (hM : 0 ≤ m 0 ∧ m 0 ≤ 61) (h6 : 20 ≤ m 6 ∧ m 6 ≤ 90) (hg : 1 ≤ g ∧ g ≤ 60) (hk : 0 ≤ k ∧ k ≤ 2) (h40 : 40 ≤ E) (hE : (E : Int) ≤ m 0 + 40) (hno : ∀ i, i < E → ¬ cB (f6 G n) g i)
    (h1 : (E : Int) = m 0 + 40 → post (II (-1)) σ)
    (h2 : (E : Int) < m 0 + 40 → cB (f6 G n) g E ∧ (k = 0 → post (II ((E : Int) - 40)) σ) ∧ (k = 1 → post (II ((E : Int) - 1 - lz (f6 G n) E)) σ) ∧ (k = 2 → post (II (rg (gy G 6 n) ((E : Int) - 40 - 1 - m 6 + 41).toNat ((E : Int) - 40 - 1 + 41).toNat)) σ)) :
    ∃ f, wbX12_returned_41 post f (II n) (II g) (II k) (-100) (-40) σ := by
  have e0 : gI σ 76 0 = II (m 0) := hm 0
  refine up (P := fun f i => wbX12_returned_41 post f (II n) (II g) (II k) (II (lz (f6 G n) i - 40)) (II ((i : Int) - 40)) σ) E ?_ ?_ 0 (by omega)
  · intro f
    simp (disch := omega) only [wbX12_returned_41, I_lit, I_neg, I_in, true_and, I_cl, Int.reduceToNat, e0, I_le]
    refine ⟨fun q => h1 (by omega), fun q => ?_⟩
    obtain ⟨h3, h4, h5, h7⟩ := h2 (by omega)
    have b := f6_in hG n E
    have l := lz_in (f6 G n) E
    have c1 : 0 < f6 G n E := h3.2.1
    have c2 : lz (f6 G n) E ≠ -60 := h3.2.2.1
    have c3 : g ≤ (E : Int) - 1 - lz (f6 G n) E := h3.2.2.2
    refine a6_ok hR hn (by omega) ?_
    rw [I_le (by omega)]
    refine ⟨fun q2 => by omega, fun q2 => ?_⟩
    simp (disch := omega) only [fe, I_sub, I_add, I_lt, I_le, I_eq]
    refine ⟨fun q3 => by omega, fun q3 => ⟨fun q4 => by omega, fun q4 => ⟨fun q5 => by omega, fun q5 => ⟨fun q6 => ⟨fun q7 => ?_, fun q7 => ?_⟩, fun q6 => h4 q6⟩⟩⟩⟩
    · exact living_ok hR hm h6 hn (by omega) (h7 (by omega))
    · rw [show (E : Int) - 40 - (lz (f6 G n) E - 40) - 1 = (E : Int) - 1 - lz (f6 G n) E by omega]
      exact h5 q7
  · intro f i hi ih
    rw [show ((i + 1 : Nat) : Int) - 40 = (i : Int) - 40 + 1 by omega] at ih
    have e1 : lz (f6 G n) (i + 1) = if 0 < f6 G n i then (i : Int) else lz (f6 G n) i := rfl
    have b := f6_in hG n i
    have l := lz_in (f6 G n) i
    have no := hno i hi
    simp (disch := omega) only [wbX12_returned_41, I_lit, I_neg, I_in, true_and, I_cl, Int.reduceToNat, e0, I_le]
    refine ⟨fun q => absurd q (by omega), fun q => a6_ok hR hn (by omega) ?_⟩
    rw [I_le (by omega)]
    simp (disch := omega) only [fe, I_sub, I_add, I_lt, I_le, I_eq]
    refine ⟨fun q2 => ?_, fun q2 => ?_⟩
    · rw [e1, if_neg (by omega)] at ih; exact ih
    · rw [e1, if_pos (by omega)] at ih
      refine ⟨fun _ => ih, fun q3 => ⟨fun _ => ih, fun q4 => ⟨fun _ => ih, fun q5 => absurd ?_ no⟩⟩⟩
      unfold cB; omega
theorem returned_ok {σ : St} (h : Inv σ) (a b c : Int32) : wpX11_returned a b c σ (fun r τ => wpX12_returned a b c τ (Q2 r)) := by
  obtain ⟨m, mi, U, T, hA, hB⟩ := id h
  obtain ⟨n, n1, n2, rfl⟩ := I_of a
  obtain ⟨g, g1, g2, rfl⟩ := I_of b
  obtain ⟨k, k1, k2, rfl⟩ := I_of c
  have hM := hA.1
  have hW := hA.2.2.1
  have w0 := hW.1
  have w1 := hW.2.1
  have w6 := hW.2.2.2.2.2.2.1
  have e9 := hB.2.2.1.1
  have hb := hB.2.2.2.2.1
  have hG : GB (run (KK m U T) (m 0).toNat) := GC_GB (run_GC (K := KK m U T) hW _).1
  have ref0 : ¬ ((0 ≤ n ∧ n < m 1) ∧ (1 ≤ g ∧ g ≤ 60) ∧ (0 ≤ k ∧ k ≤ 2)) → wpX12_returned (II n) (II g) (II k) σ (Q2 (II (-1))) := by
    intro hz
    unfold wpX12_returned
    refine isName_ok hM w1 (by omega) (fun q => t1 ?_) (fun q => t0 ⟨rfl, h⟩)
    refine in_ok (b := 1) (c := 60) (by omega) (fun q2 => t1 ?_) (fun q2 => t0 ⟨rfl, h⟩)
    exact in_ok (b := 0) (c := 2) (by omega) (fun q3 => absurd ⟨q, q2, q3⟩ hz) (fun q2 => s0 ⟨rfl, h⟩)
  unfold wpX11_returned
  refine has_ok hB.1.1 w1 (by omega) (fun z => t1 ?_) (fun z => t0 (ref0 (fun q => z q.1)))
  refine wi_ok (b := 1) (c := 60) (by omega) (fun y => t1 ?_) (fun x => t0 (ref0 (fun q => x q.2.1)))
  refine wi_ok (b := 0) (c := 2) (by omega) (fun x => s1 ?_) (fun x => s0 (ref0 (fun q => x q.2.2)))
  obtain ⟨N, rfl⟩ : ∃ N : Nat, n = N := ⟨n.toNat, by omega⟩
  obtain ⟨G, eG⟩ : ∃ G, G = run (KK m U T) (m 0).toNat := ⟨_, rfl⟩
  rw [← eG] at hG hb
  have hEx : ∃ E : Nat, 40 ≤ E ∧ (E : Int) ≤ m 0 + 40 ∧ (∀ i, i < E → ¬ cB (f6 G N) g i) ∧ ((E : Int) < m 0 + 40 → cB (f6 G N) g E) := by
    obtain ⟨E, hE1, hE2⟩ := pk_least (fun i => (i : Int) = m 0 + 40 ∨ (i : Int) < m 0 + 40 ∧ cB (f6 G N) g i) ⟨(m 0 + 40).toNat, Or.inl (by omega)⟩
    refine ⟨E, ?_, ?_, ?_, ?_⟩
    · rcases hE1 with q | q
      · omega
      · exact q.2.1
    · omega
    · intro i hi hc
      exact hE2 i hi (Or.inr ⟨by omega, hc⟩)
    · intro q
      rcases hE1 with q2 | q2
      · omega
      · exact q2.2
  obtain ⟨E, hE1, hE2, hE3, hE4⟩ := hEx
  have ref : ∀ r : Int32, ((E : Int) = m 0 + 40 → r = II (-1)) → ((E : Int) < m 0 + 40 → k = 0 → r = II ((E : Int) - 40)) → ((E : Int) < m 0 + 40 → k = 1 → r = II ((E : Int) - 1 - lz (f6 G N) E)) → ((E : Int) < m 0 + 40 → k = 2 → r = II (rg (gy G 6 N) ((E : Int) - 40 - 1 - m 6 + 41).toNat ((E : Int) - 40 - 1 + 41).toNat)) → wpX12_returned (II N) (II g) (II k) σ (Q2 r) := by
    intro r r0 r1 r2 r3
    unfold wpX12_returned
    refine isName_ok hM w1 (by omega) (fun _ => t1 ?_) (fun q => absurd z q)
    refine in_ok (b := 1) (c := 60) (by omega) (fun _ => t1 ?_) (fun q => absurd y q)
    refine in_ok (b := 0) (c := 2) (by omega) (fun _ => s1 ?_) (fun q => absurd x q)
    refine runsAll_ok hA hB ?_
    intro τ tR tG tn
    have tA := SR_A hA tR
    have tI := SR_I h tR
    rw [← eG] at tG
    exact rreturn1 tG hG (by omega) tA.1 w0 w6 y x hE1 hE2 hE3 (fun q => ⟨r0 q, tI⟩) (fun q => ⟨hE4 q, fun q2 => ⟨r1 q q2, tI⟩, fun q2 => ⟨r2 q q2, tI⟩, fun q2 => ⟨r3 q q2, tI⟩⟩)
  refine comesBack_ok hb hG (by omega) e9 w0 y hE1 hE2 hE3 (fun q => ?_) (fun q => ⟨hE4 q, ?_⟩)
  · rw [I_lit, I_neg, I_eq (by omega)]
    exact ⟨fun _ => ref _ (fun _ => rfl) (by omega) (by omega) (by omega), fun z => absurd rfl z⟩
  · have c2 : lz (f6 G N) E ≠ -60 := (hE4 q).2.2.1
    simp (disch := omega) only [I_lit, I_neg, I_eq, I_sub]
    refine ⟨fun q2 => by omega, fun q2 => ⟨fun q3 => ⟨fun q4 => ?_, fun q4 => ?_⟩, fun q3 => ref _ (by omega) (fun _ _ => rfl) (by omega) (by omega)⟩⟩
    · exact clivingAt_ok hb hB.2.2.1.2.1 w6 (by omega) (by omega) (ref _ (by omega) (by omega) (by omega) (fun _ _ => rfl))
    · refine emptyAhead_ok hb hG (by omega) (by omega) ?_
      have : eA (f6 G N) E = (E : Int) - 1 - lz (f6 G N) E := if_neg c2
      exact ref _ (by omega) (by omega) (fun _ _ => by rw [this]) (by omega)
