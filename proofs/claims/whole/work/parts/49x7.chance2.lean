/-! chance: the call -/
theorem gT72 {G : GV} (h : GC G) {Y : Nat} (hY : 40 ≤ Y) : 0 ≤ gT G 6 Y ∧ gT G 6 Y ≤ 72 ∧ ∀ n, n < 16 → 0 ≤ gt G Y 6 n ∧ gt G Y 6 n ≤ gT G 6 Y := by
  have b := fun n hn => gT_b (GC_GB h) 6 Y n hn
  refine ⟨by have := b 0 (by omega); omega, ?_, fun n hn => ⟨(b n hn).1, (b n hn).2.1⟩⟩
  have e := rg_swap (fun n c => if ing 6 c then G Y c n else 0) 0 12 16
  have e1 : ∀ n, rg (fun c => if ing 6 c then G Y c n else 0) 0 12 = gt G Y 6 n := fun n => by
    unfold rg gt; rw [show max 0 12 = 12 from rfl, show sm (fun c => if ing 6 c = true then G Y c n else 0) 0 = 0 from rfl, Int.sub_zero]
  simp only [e1] at e
  unfold gT
  rw [e]
  have e2 : ∀ c, sm (fun n => if ing 6 c = true then G Y c n else 0) 16 ≤ 6 := fun c => by
    rw [show ing 6 c = true from rfl]
    exact h.2.2.1 Y c hY
  have e3 := sm_le (f := fun c => sm (fun n => if ing 6 c = true then G Y c n else 0) 16) (n := 12) (B := 6) (fun c _ => e2 c)
  unfold rg
  rw [show max 0 12 = 12 from rfl, show sm (fun Y_1 => sm (fun n => if ing 6 Y_1 = true then G Y Y_1 n else 0) 16) 0 = 0 from rfl, Int.sub_zero]
  omega
def bcv (o e n x t : Nat) : Nat := if (cs o e n (n + 1) - cs o e n x) * t ≤ (o + e) ^ n then 1 else if (cs o e n (x + 1) - cs o e n 0) * t ≤ (o + e) ^ n then 2 else 0
theorem bcv_le (o e n x t : Nat) : bcv o e n x t ≤ 2 := by unfold bcv; split; omega; split <;> omega
/-- of name N in the year behind Y -/
def bcg (G : GV) (Y N t : Nat) : Nat := bcv (gT G 6 (Y - 1) - gt G (Y - 1) 6 N).toNat (gt G (Y - 1) 6 N).toNat (gT G 6 Y).toNat (gt G Y 6 N).toNat t
theorem beyond_ok {σ : St} {G : GV} {o N t : Nat} {y : Int} {post : Int32 → St → Prop} (B : Bk σ 0 G o) (hG : GC G) (hN : N < 16) (hy : 1 ≤ y ∧ y ≤ 60) (ht : t ≤ 1000000) (hp : ∀ τ, Eqx [60, 61, 62, 63] σ τ → post (II (bcg G (y + 40).toNat N t : Nat)) τ) : wpX11_beyondChance (II N) (II y) (II t) σ post := by
  obtain ⟨a1, a2, a3⟩ := gT72 hG (Y := (y + 40).toNat) (by omega)
  obtain ⟨b1, b2, b3⟩ := gT72 hG (Y := (y + 40).toNat - 1) (by omega)
  have a4 := a3 N hN
  have b4 := b3 N hN
  unfold wpX11_beyondChance
  refine groupTotal_ok (g := 6) B (by omega) (by omega) (by omega) ?_
  refine cin_ok B hN (by omega) ?_
  rw [show (1 : Int32) = II 1 from rfl, I_sub]
  refine cin_ok B hN (by omega) ?_
  refine groupTotal_ok (g := 6) B (by omega) (by omega) (by omega) ?_
  rw [show (y + 41).toNat = (y + 40).toNat + 1 by omega, rg_one, show (y - 1 + 40).toNat = (y + 40).toNat - 1 by omega, show (y - 1 + 41).toNat = (y + 40).toNat - 1 + 1 by omega, rg_one, I_sub]
  simp only [fe, wpX6_setDraw]
  unfold bcg at hp
  generalize gT G 6 (y + 40).toNat = n at *
  generalize gT G 6 ((y + 40).toNat - 1) = M at *
  generalize gt G (y + 40).toNat 6 N = x at *
  generalize gt G ((y + 40).toNat - 1) 6 N = e at *
  have sE : Eqx [60, 61, 62, 63] σ (sI (sI (sI σ 60 3 (II n)) 60 4 (II e)) 60 5 (II (M - e))) := Eqx_tI (Eqx_tI (Eqx_tI (Eqx.refl _ _) (by simp)) (by simp)) (by simp)
  have f3 : gI (sI (sI (sI σ 60 3 (II n)) 60 4 (II e)) 60 5 (II (M - e))) 60 3 = II (n.toNat : Nat) := by rw [rI3 (by omega), rI3 (by omega), rI1]; congr 1; omega
  have f4 : gI (sI (sI (sI σ 60 3 (II n)) 60 4 (II e)) 60 5 (II (M - e))) 60 4 = II (e.toNat : Nat) := by rw [rI3 (by omega), rI1]; congr 1; omega
  have f5 : gI (sI (sI (sI σ 60 3 (II n)) 60 4 (II e)) 60 5 (II (M - e))) 60 5 = II ((M - e).toNat : Nat) := by rw [rI1]; congr 1; omega
  generalize sI (sI (sI σ 60 3 (II n)) 60 4 (II e)) 60 5 (II (M - e)) = ρ at *
  rw [show II x = II (x.toNat : Nat) by congr 1; omega, show II n = II (n.toNat : Nat) by congr 1; omega]
  refine cisRare_ok (t := t) f3 f4 f5 (by omega) (by omega) ht (by omega) (Nat.le_refl _) ?_
  intro τ tE
  unfold bcv at hp
  by_cases c : (cs (M - e).toNat e.toNat n.toNat (n.toNat + 1) - cs (M - e).toNat e.toNat n.toNat x.toNat) * t ≤ ((M - e).toNat + e.toNat) ^ n.toNat
  · rw [if_pos c] at hp ⊢
    exact t1 (hp τ (Eqx.trans sE (Eqx.mono tE (by simp))))
  · rw [if_neg c] at hp ⊢
    refine t0 ?_
    refine cisRare_ok (f := 0) (t := t) (by rw [Eqx_gI tE (by simp)]; exact f3) (by rw [Eqx_gI tE (by simp)]; exact f4) (by rw [Eqx_gI tE (by simp)]; exact f5) (by omega) (by omega) ht (by omega) (by omega) ?_
    intro υ uE
    have hp := hp υ (Eqx.trans sE (Eqx.trans (Eqx.mono tE (by simp)) (Eqx.mono uE (by simp))))
    by_cases c2 : (cs (M - e).toNat e.toNat n.toNat (x.toNat + 1) - cs (M - e).toNat e.toNat n.toNat 0) * t ≤ ((M - e).toNat + e.toNat) ^ n.toNat
    · rw [if_pos c2] at hp ⊢; exact t1 hp
    · rw [if_neg c2] at hp ⊢; exact t0 hp
theorem allOf_ok {σ : St} {m : MT} {G : GV} {y : Int} {post : Int32 → St → Prop} (hR : RG σ G) (hM : RM σ m) (w1 : 0 ≤ m 1 ∧ m 1 ≤ 16) (hN : GN G (m 1).toNat) (hy : -40 ≤ y ∧ y ≤ 60) (hp : post (II (gT G 6 (y + 40).toNat)) σ) : wpX12_allOf (II y) σ post := by
  have e1 : gI σ 76 1 = II (m 1) := hM 1
  have et : gT G 6 (y + 40).toNat = sm (fun n => gt G (y + 40).toNat 6 n) (m 1).toNat := sm_ext (by omega) (fun k hk _ => gt_GN hN _ _ k hk)
  rw [et] at hp
  unfold wpX12_allOf
  refine up (P := fun f i => wbX12_allOf_4 post f (II y) (II (sm (fun n => gt G (y + 40).toNat 6 n) i)) (II i) σ) (m 1).toNat ?_ ?_ 0 (by omega)
  · intro f
    simp (disch := omega) only [wbX12_allOf_4, I_lit, I_in, true_and, I_cl, Int.reduceToNat, e1, I_le]
    exact ⟨fun _ => hp, fun z => absurd (by omega) z⟩
  · intro f i hi ih
    have es : sm (fun n => gt G (y + 40).toNat 6 n) (i + 1) = sm (fun n => gt G (y + 40).toNat 6 n) i + gt G (y + 40).toNat 6 i := rfl
    rw [es] at ih
    simp (disch := omega) only [wbX12_allOf_4, I_lit, I_in, true_and, I_cl, Int.reduceToNat, e1, I_le]
    refine ⟨fun z => absurd z (by omega), fun _ => all_ok hR (by omega) (by omega) ?_⟩
    rw [if_neg (by omega)]
    simp only [fe, I_add]
    exact ih
theorem chanceOf_ok {σ : St} {m : MT} {G : GV} {N t : Nat} {y : Int} {post : Int32 → St → Prop} (hR : RG σ G) (hG : GC G) (hM : RM σ m) (w1 : 0 ≤ m 1 ∧ m 1 ≤ 16) (hNN : GN G (m 1).toNat) (hN : N < 16) (hy : 1 ≤ y ∧ y ≤ 60) (ht : t ≤ 1000000) (hp : ∀ τ, Eqx [114, 115, 116] σ τ → post (II (bcg G (y + 40).toNat N t : Nat)) τ) : wpX12_chanceOf (II N) (II y) (II t) σ post := by
  obtain ⟨a1, a2, a3⟩ := gT72 hG (Y := (y + 40).toNat) (by omega)
  obtain ⟨b1, b2, b3⟩ := gT72 hG (Y := (y + 40).toNat - 1) (by omega)
  have a4 := a3 N hN
  have b4 := b3 N hN
  unfold wpX12_chanceOf
  refine allOf_ok hR hM w1 hNN (by omega) ?_
  rw [show (1 : Int32) = II 1 from rfl, I_sub]
  refine allOf_ok hR hM w1 hNN (by omega) ?_
  refine all_ok hR hN (by omega) ?_
  refine all_ok hR hN (by omega) ?_
  rw [if_neg (by omega), if_neg (by omega), show (y - 1 + 40).toNat = (y + 40).toNat - 1 by omega]
  unfold bcg at hp
  generalize gT G 6 (y + 40).toNat = n at *
  generalize gT G 6 ((y + 40).toNat - 1) = M at *
  generalize gt G (y + 40).toNat 6 N = x at *
  generalize gt G ((y + 40).toNat - 1) 6 N = e at *
  obtain ⟨n, rfl⟩ : ∃ k : Nat, n = k := ⟨n.toNat, by omega⟩
  obtain ⟨x, rfl⟩ : ∃ k : Nat, x = k := ⟨x.toNat, by omega⟩
  obtain ⟨e, rfl⟩ : ∃ k : Nat, e = k := ⟨e.toNat, by omega⟩
  obtain ⟨o, ho⟩ : ∃ k : Nat, M - e = k := ⟨(M - e).toNat, by omega⟩
  rw [ho, Int.toNat_natCast, Int.toNat_natCast, Int.toNat_natCast, Int.toNat_natCast] at hp
  have hs : o + e ≤ 72 := by omega
  have key := up (P := fun f i => ∀ υ, Eqx [114, 115, 116] σ υ → (∀ k, k < i → gL υ 114 k = LL 0) → wbX12_chanceOf_37 post f (II t) (II n) (II M) (II e) (II x) (II i) υ) 2400 ?_ ?_ 0 (by omega)
  · obtain ⟨f, hf⟩ := key
    exact ⟨f, hf σ (Eqx.refl _ _) (fun k hk => absurd hk (by omega))⟩
  · intro f υ uE u0
    simp (disch := omega) only [wbX12_chanceOf_37, I_lit, L_lit, I_le, I_in, true_and, I_cl, Int.reduceToNat, fe]
    refine ⟨fun _ => ?_, fun z => absurd (by decide) z⟩
    have k2 := up (P := fun g i => ∀ ω, Eqx [114, 115, 116] σ ω → RwS ω (cf o e i) → wbX12_chanceOf_69 post g (II t) (II n) (II M) (II e) (II x) (II ((i : Int) + 1)) ω) n ?_ ?_ 0 (by omega)
    · obtain ⟨g, hg⟩ := k2
      refine ⟨g, hg _ (Eqx_tL uE (by simp)) (fun j hj i hi => ?_)⟩
      by_cases c : 30 * j + i = 0
      · rw [c, rL1, show j = 0 by omega, show i = 0 by omega]
        show LL 1 = LL (Dg 1000000000 1 0 : Nat)
        rw [Dg_one (by decide), if_pos rfl]; rfl
      · rw [rL3 c, u0 _ (by omega)]
        simp only [cf]
        by_cases cj : j = 0
        · rw [if_pos cj, Dg_one (by decide), if_neg (by omega)]; rfl
        · rw [if_neg cj, Dg_zero]; rfl
    · intro g ω wE wS
      simp (disch := omega) only [wbX12_chanceOf_69, I_lt]
      refine ⟨fun _ => ?_, fun z => absurd (by omega) z⟩
      refine sums_ok (a := 0) wS (by omega) (by omega) ?_
      intro α aE aL
      have e0 : cs o e n (n + 1) - cs o e n 0 = (o + e) ^ n := by rw [cs_all o e n (n + 1) (by omega)]; rfl
      rw [e0] at aL
      have aS : RwS α (cf o e n) := fun j hj i hi => by rw [Eqx_gL aE (by simp)]; exact wS j hj i hi
      have aE2 : Eqx [114, 115, 116] σ α := Eqx.trans wE (Eqx.mono aE (by simp))
      have k3 := up (P := fun h i => ∀ β, Eqx [116] α β → (∀ k, k < i → gL β 116 k = LL (Dg 1000000000 ((o + e) ^ n) k : Nat)) → wbX12_chanceOf_105 post h (II t) (II n) (II x) (II i) β) 30 ?_ ?_ 0 (by omega)
      · obtain ⟨h, hh⟩ := k3
        exact ⟨h, hh α (Eqx.refl _ _) (fun k hk => absurd hk (by omega))⟩
      · intro h β bE bL
        have bS : RwS β (cf o e n) := fun j hj i hi => by rw [Eqx_gL bE (by simp)]; exact aS j hj i hi
        have bE2 : Eqx [114, 115, 116] σ β := Eqx.trans aE2 (Eqx.mono bE (by simp))
        simp (disch := omega) only [wbX12_chanceOf_105, I_lit, I_le]
        refine ⟨fun _ => ?_, fun z => absurd (by decide) z⟩
        refine sums_ok (a := x) bS (by omega) (by omega) ?_
        intro γ cE cL
        have c1 := cs_le o e n (n + 1)
        have c2 := cs_le o e n (x + 1)
        have sA := small9 hs (show n ≤ 72 by omega) (show cs o e n (n + 1) - cs o e n x ≤ _ by omega)
        have sB := small9 hs (show n ≤ 72 by omega) (show cs o e n (x + 1) - cs o e n 0 ≤ _ by omega)
        have sW := small9 hs (show n ≤ 72 by omega) (Nat.le_refl ((o + e) ^ n))
        have lA := Nat.mul_le_mul_left (cs o e n (n + 1) - cs o e n x) ht
        have lB := Nat.mul_le_mul_left (cs o e n (x + 1) - cs o e n 0) ht
        have yL : ∀ ρ, Eqx [115] β ρ → LR ρ 116 0 ((o + e) ^ n) := fun ρ rE i hi => by rw [Nat.zero_add, Eqx_gL rE (by simp)]; exact bL i hi
        unfold bcv at hp
        refine risRare_ok ht cL (yL γ cE) (Nat.lt_of_le_of_lt lA sA) (by omega) ?_
        intro δ dE
        have dE2 : Eqx [115] β δ := Eqx.trans cE dE
        by_cases c : (cs o e n (n + 1) - cs o e n x) * t ≤ (o + e) ^ n
        · rw [if_pos c] at hp ⊢
          exact ⟨fun z => absurd z i10, fun _ => hp δ (Eqx.trans bE2 (Eqx.mono dE2 (by simp)))⟩
        · rw [if_neg c] at hp ⊢
          refine ⟨fun _ => ?_, fun z => absurd rfl z⟩
          refine sums_ok (a := 0) (o := o) (e := e) (n := n) (fun j hj i hi => by rw [Eqx_gL dE2 (by simp)]; exact bS j hj i hi) (by omega) (by omega) ?_
          intro ε eE eL
          have eE2 : Eqx [115] β ε := Eqx.trans dE2 eE
          refine risRare_ok ht eL (yL ε eE2) (Nat.lt_of_le_of_lt lB sB) (by omega) ?_
          intro ζ zE
          have hp := hp ζ (Eqx.trans bE2 (Eqx.mono (Eqx.trans eE2 zE) (by simp)))
          by_cases c2 : (cs o e n (x + 1) - cs o e n 0) * t ≤ (o + e) ^ n
          · rw [if_pos c2] at hp ⊢; exact ⟨fun z => absurd z i10, fun _ => hp⟩
          · rw [if_neg c2] at hp ⊢; exact ⟨fun _ => hp, fun z => absurd rfl z⟩
      · intro h i hi ih β bE bL
        have e115 : gL β 115 i = LL (Dg 1000000000 ((o + e) ^ n) i : Nat) := by
          rw [Eqx_gL bE (by simp)]
          have := aL i hi
          rw [Nat.zero_add] at this; exact this
        simp (disch := omega) only [wbX12_chanceOf_105, I_lit, I_le, I_in, true_and, I_cl, Int.toNat_natCast, e115, fe, I_add]
        refine ⟨fun z => absurd z (by omega), fun _ => ih _ (Eqx_tL bE (by simp)) (fun k hk => ?_)⟩
        by_cases ek : k = i
        · rw [ek, rL1]
        · rw [rL3 ek]; exact bL k (by omega)
    · intro g i hi ih ω wE wS
      simp (disch := omega) only [wbX12_chanceOf_69, I_lt]
      refine ⟨fun z => absurd z (by omega), fun _ => ?_⟩
      rw [I_sub, ho]
      refine adds_ok (o := o) (e := e) (by omega) (by omega) (by omega) wS ?_
      intro τ tE tS
      simp only [fe, I_lit, I_add]
      exact ih τ (Eqx.trans wE (Eqx.mono tE (by simp))) tS
  · intro f i hi ih υ uE u0
    simp (disch := omega) only [wbX12_chanceOf_37, I_lit, L_lit, I_le, I_in, true_and, I_cl, Int.toNat_natCast, fe, I_add]
    refine ⟨fun z => absurd z (by omega), fun _ => ih _ (Eqx_tL uE (by simp)) (fun k hk => ?_)⟩
    by_cases ek : k = i
    · rw [ek, rL1]
    · rw [rL3 ek]; exact u0 k (by omega)
