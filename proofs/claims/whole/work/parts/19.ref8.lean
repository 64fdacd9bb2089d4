theorem run_year {σ : St} {G : GV} {K : KT} {y : Nat} {u : Nat → Int} {v1 : Int32} {v6 : Int} {K1 : Int32 → Int32 → Int32 → Int32 → Int32 → St → Prop} {post : St → Prop} (C : Cy σ K) (hy : y ≤ 60) (hI : IY G y 0 0) (hG : RG σ G) (hv6 : v6 = if y < kc K then 1 else 0) (hu : ∀ y, y < 61 → gI σ 103 y = II (u y))
    (hk : ∀ τ, Eqx RL σ τ → F75 σ τ → RG τ (yrG K G y 12) → (∀ z, z < 61 → gI τ 103 z = II (if z = y then u z + yrU K G y 12 else u z)) → K1 v1 (II (kw K)) (II (if kq K then 1 else 0)) (II (kb K)) (II ((y : Int) + 1)) τ) :
    ∃ f, wbX12_runs_135 K1 post f v1 (II (kw K)) (II (if kq K then 1 else 0)) (II (kb K)) (II y) (II v6) (II 0) σ := by
  have hW := C.1.2.1
  have hb := C.2.2.2
  have w4 := hW.2.2.2.2.1
  have key := up (P := fun f i => ∀ τ : St, Eqx RL σ τ → F75 σ τ → RG τ G → (∀ y, y < 61 → gI τ 103 y = II (u y)) → (∀ s, s < i → gI τ 104 s = II (tas K y s)) → wbX12_runs_135 K1 post f v1 (II (kw K)) (II (if kq K then 1 else 0)) (II (kb K)) (II y) (II v6) (II i) τ) 2 ?_ ?_ 0 (by omega)
  · obtain ⟨f, hf⟩ := key
    exact ⟨f, hf σ (Eqx.refl _ _) (fun _ _ => rfl) hG hu (fun s hs => absurd hs (by omega))⟩
  · intro f τ tE tF tG tu t104
    simp (disch := omega) only [wbX12_runs_135, I_lit, I_le]
    refine ⟨fun _ => ?_, fun z => absurd (by omega) z⟩
    have C2 := Cy_eq C tE
    have C1 : Cx1 τ G K y (tas K y) := ⟨C2.1, tG, hI.1.gb, t104, tas_in hW hb y, hy⟩
    refine lays_ok C1 C.2.2.1 ?_
    intro υ uE uF uL
    have key2 := up (P := fun f c => ∀ ω : St, Eqx RL σ ω → F75 σ ω → RG ω (yrG K G y c) → LY ω (yrG K G y c) K y (tas K y) → (∀ s, s < 2 → gI ω 104 s = II (tas K y s)) → (∀ z, z < 61 → gI ω 103 z = II (if z = y then u z + yrU K G y c else u z)) → wbX12_runs_214 K1 post f v1 (II (kw K)) (II (if kq K then 1 else 0)) (II (kb K)) (II y) (II v6) (II c) ω) 12 ?_ ?_ 0 (by omega)
    · obtain ⟨f, hf⟩ := key2
      refine ⟨f, hf υ (Eqx.trans tE (Eqx.mono uE (by decide))) (tF.trans uF) (RG_eq tG (fun q a b => (uE q (by simp; omega)).symm)) uL (fun s hs => by rw [Eqx_gI uE (by simp)]; exact t104 s hs) (fun z hz => ?_)⟩
      rw [Eqx_gI uE (by simp), tu z hz]
      simp only [yrU, Int.add_zero, ite_self]
    · intro f ω wE wF wG wL w104 wu
      simp (disch := omega) only [wbX12_runs_214, I_lit, I_le, fe, I_add]
      exact ⟨fun _ => hk ω wE wF wG wu, fun z => absurd (by omega) z⟩
    · intro f c hc ih ω wE wF wG wL w104 wu
      have C3 := Cy_eq C wE
      have wM := C3.1.1
      have hrow := run_row (post := post) (v1 := v1) (v2 := II (kw K)) (v3 := II (if kq K then 1 else 0)) (v4 := II (kb K)) (v6 := II v6) (K2 := wbX12_runs_214 K1 post f) (u := fun z => if z = y then u z + yrU K G y c else u z) (ag := 0) (ag2 := 0) C3 hy hc (IY_yr hW hI c hc) wL wG w104 wu ?_
      · have i1 : (10 + (c : Int)).toNat = 10 + c := by omega
        have i2 : (1000 + 14 * (y : Int) + c).toNat = 1000 + 14 * y + c := by omega
        simp (disch := omega) only [wbX12_runs_214, I_lit, I_le, I_in, true_and, fe, I_add, I_mul, I_cl, i1, i2, wM (10 + c), wM (1000 + 14 * y + c), I_eq]
        refine ⟨fun z => absurd z (by omega), fun _ => ⟨fun d => ?_, fun d => ?_⟩⟩
        · have e : mny K y c = K.1 (10 + c) := by
            unfold mny
            by_cases g : y < kc K
            · rw [if_pos g] at hv6; omega
            · rw [if_neg g]
          rw [e] at hrow; exact hrow
        · have e : mny K y c = K.1 (1000 + 14 * y + c) := by
            unfold mny
            by_cases g : y < kc K
            · rw [if_pos g]
            · rw [if_neg g] at hv6; omega
          rw [e] at hrow; exact hrow
      · intro ρ rE rF rG rL ru
        refine ih ρ (Eqx.trans wE (Eqx.mono rE (by decide))) (wF.trans rF) rG rL (fun s hs => by rw [Eqx_gI rE (by simp)]; exact w104 s hs) (fun z hz => ?_)
        rw [ru z hz]
        congr 1
        by_cases e : z = y
        · rw [if_pos e, if_pos e, if_pos e]; simp only [yrU]; omega
        · rw [if_neg e, if_neg e, if_neg e]
  · intro f i hi ih τ tE tF tG tu t104
    have C2 := Cy_eq C tE
    have tM := C2.1.1
    have step : ∀ v : Int, v = tas K y i → ∀ τ', τ' = sI τ 104 i (II v) → wbX12_runs_135 K1 post f v1 (II (kw K)) (II (if kq K then 1 else 0)) (II (kb K)) (II y) (II v6) (II ((i : Int) + 1)) τ' := by
      intro v hv τ' e
      subst e; subst hv
      refine ih _ (Eqx_tI tE (by decide)) (fun k hk => by rw [rI2 (by omega)]; exact tF k hk) (RG_eq tG (fun q a b => ce_sI _ _ _ _ _ (by omega))) (fun z hz => by rw [rI2 (by omega)]; exact tu z hz) (fun s hs => ?_)
      by_cases e : s = i
      · subst e; rw [rI1]
      · rw [rI3 e]; exact t104 s (by omega)
    have i1 : (7 + (i : Int)).toNat = 7 + i := by omega
    have i2 : (1000 + 14 * (y : Int) + 12 + i).toNat = 1000 + 14 * y + 12 + i := by omega
    have hv6' : v6 = 0 ∨ v6 = 1 := by rw [hv6]; split <;> simp
    simp (disch := omega) only [wbX12_runs_135, I_lit, I_le, I_in, true_and, fe, I_add, I_mul, I_cl, i1, i2, Int.toNat_natCast, tM (7 + i), tM (1000 + 14 * y + 12 + i), I_eq, I_neg]
    refine ⟨fun z => absurd z (by omega), fun _ => ⟨fun d => ⟨fun e => step _ ?_ _ rfl, fun e => step _ ?_ _ rfl⟩, fun d => step _ ?_ _ rfl⟩⟩
    · unfold tas
      rw [if_neg (by omega), if_neg]
      intro g; rw [if_pos g] at hv6; omega
    · unfold tas
      rw [if_neg (by omega), if_pos]
      by_cases g : y < kc K
      · exact g
      · rw [if_neg g] at hv6; omega
    · unfold tas
      rw [if_pos d]
theorem runs_ok {σ : St} {K : KT} {N : Nat} {post : St → Prop} (C : Cy σ K) (hN : N ≤ 61)
    (hp : ∀ τ, Eqx RL σ τ → F75 σ τ → RG τ (run K N) → (∀ y, y < 61 → gI τ 103 y = II (if y < N then nml K y else 0)) → post τ) : wpX12_runs (II N) (II (kw K)) (II (if kq K then 1 else 0)) (II (kb K)) σ post := by
  have hW := C.1.2.1
  have hb := C.2.2.2
  have w1 := hW.2.1
  have w0 := hW.1
  have w4 := hW.2.2.2.2.1
  have kn16 : kn K ≤ 16 := by unfold kn; omega
  have kne : K.1 1 = (kn K : Int) := by unfold kn; omega
  have kce : K.1 0 = (kc K : Int) := by unfold kc; omega
  have years : ∀ τ : St, Eqx RL σ τ → F75 σ τ → RG τ (run K 0) → (∀ y, y < 61 → gI τ 103 y = II 0) → ∃ f, wbX12_runs_108 post f (II N) (II (kw K)) (II (if kq K then 1 else 0)) (II (kb K)) (II 0) τ := by
    intro τ tE tF tG tu
    have key := up (P := fun f y => ∀ τ : St, Eqx RL σ τ → F75 σ τ → RG τ (run K y) → (∀ z, z < 61 → gI τ 103 z = II (if z < y then nml K z else 0)) → wbX12_runs_108 post f (II N) (II (kw K)) (II (if kq K then 1 else 0)) (II (kb K)) (II y) τ) N ?_ ?_ 0 (by omega)
    · obtain ⟨f, hf⟩ := key
      exact ⟨f, hf τ tE tF tG (fun z hz => by rw [tu z hz, if_neg (by omega)])⟩
    · intro f τ tE tF tG tu
      simp (disch := omega) only [wbX12_runs_108, I_lit, I_le]
      exact ⟨fun _ => hp τ tE tF tG tu, fun z => absurd (by omega) z⟩
    · intro f y hy ih τ tE tF tG tu
      have C2 := Cy_eq C tE
      have e0 : gI τ 76 0 = II (K.1 0) := C2.1.1 0
      have rG := run_GC hW y
      have hyr := fun v6 hv6 => run_year (post := post) (v1 := II N) (v6 := v6) (K1 := wbX12_runs_108 post f) (u := fun z => if z < y then nml K z else 0) C2 (by omega) (IY_start rG.1 rG.2) tG hv6 tu (by
        intro ω wE wF wG wu
        refine ih ω (Eqx.trans tE wE) (tF.trans wF) wG (fun z hz => ?_)
        rw [wu z hz]
        congr 1
        by_cases e : z = y
        · subst e
          rw [if_pos rfl, if_neg (by omega), if_pos (by omega), Int.zero_add]; rfl
        · by_cases g : z < y
          · rw [if_neg e, if_pos g, if_pos (by omega)]
          · rw [if_neg e, if_neg g, if_neg (by omega)])
      simp (disch := omega) only [wbX12_runs_108, I_lit, I_le, I_in, true_and, I_cl, Int.reduceToNat, e0]
      refine ⟨fun z => absurd z (by omega), fun _ => ⟨fun d => hyr 0 (by rw [if_neg (by omega)]), fun d => hyr 1 (by rw [if_pos (by omega)])⟩⟩
  unfold wpX12_runs
  refine clears_ok ?_
  intro τ tG tu tE
  have t75 : F75 σ τ := fun k _ => Eqx_gI tE (by simp) k
  have key := up (P := fun f a => 1 ≤ a → ∀ τ : St, Eqx RL σ τ → F75 σ τ → RG τ (Gp K.1 (kn K) a 0 0) → (∀ y, y < 61 → gI τ 103 y = II 0) → wbX12_runs_7 post f (II N) (II (kw K)) (II (if kq K then 1 else 0)) (II (kb K)) (II a) τ) 41 ?_ ?_ 1 (by omega)
  · obtain ⟨f, hf⟩ := key
    exact ⟨f, hf (by omega) τ (Eqx.mono tE (by decide)) t75 (by rw [Gp_0]; exact tG) tu⟩
  · clear t75 tG tu tE
    intro f _ τ tE tF tG tu
    simp (disch := omega) only [wbX12_runs_7, I_lit, I_lt]
    refine ⟨fun _ => years τ tE tF (by rw [Gp_end] at tG; exact tG) tu, fun z => absurd (by omega) z⟩
  · clear t75 tG tu tE
    intro f a ha ih ha1 τ tE tF tG tu
    simp (disch := omega) only [wbX12_runs_7, I_lit, I_lt]
    refine ⟨fun z => absurd z (by omega), fun _ => ?_⟩
    have key2 := up (P := fun g c => ∀ τ : St, Eqx RL σ τ → F75 σ τ → RG τ (Gp K.1 (kn K) a c 0) → (∀ y, y < 61 → gI τ 103 y = II 0) → wbX12_runs_17 (wbX12_runs_7 post f) post g (II N) (II (kw K)) (II (if kq K then 1 else 0)) (II (kb K)) (II a) (II c) τ) 12 ?_ ?_ 0 (by omega)
    · obtain ⟨g, hg⟩ := key2
      exact ⟨g, hg τ tE tF tG tu⟩
    · clear tE tF tG tu
      intro g τ tE tF tG tu
      simp (disch := omega) only [wbX12_runs_17, I_lit, I_le, fe, I_add]
      refine ⟨fun _ => ih (by omega) τ tE tF (by rw [← Gp_a _ _ _ 12 (by omega)]; exact tG) tu, fun z => absurd (by omega) z⟩
    · clear tE tF tG tu
      intro g c hc ih2 τ tE tF tG tu
      simp (disch := omega) only [wbX12_runs_17, I_lit, I_le]
      refine ⟨fun z => absurd z (by omega), fun _ => ?_⟩
      have key3 := up (P := fun h n => ∀ τ : St, Eqx RL σ τ → F75 σ τ → RG τ (Gp K.1 (kn K) a c n) → (∀ y, y < 61 → gI τ 103 y = II 0) → wbX12_runs_27 (wbX12_runs_17 (wbX12_runs_7 post f) post g) post h (II N) (II (kw K)) (II (if kq K then 1 else 0)) (II (kb K)) (II a) (II c) (II n) τ) (kn K) ?_ ?_ 0 (by omega)
      · obtain ⟨h, hh⟩ := key3
        exact ⟨h, hh τ tE tF tG tu⟩
      · clear tE tF tG tu
        intro h τ tE tF tG tu
        have e1 : gI τ 76 1 = II (K.1 1) := (Cy_eq C tE).1.1 1
        simp (disch := omega) only [wbX12_runs_27, I_lit, I_in, true_and, I_cl, Int.reduceToNat, e1, I_le, fe, I_add]
        refine ⟨fun _ => ih2 τ tE tF (by rw [← Gp_c _ _ _ _ _ (Nat.le_refl _)]; exact tG) tu, fun z => absurd (by omega) z⟩
      · clear tE tF tG tu
        intro h n hn ih3 τ tE tF tG tu
        have tM := (Cy_eq C tE).1.1
        have e1 : gI τ 76 1 = II (K.1 1) := tM 1
        have i1 : (2000 + ((a : Int) - 1) * 192 + c * 16 + n).toNat = 2000 + (a - 1) * 192 + c * 16 + n := by omega
        have ec : c = (c / 4 * 2 + c / 2 % 2) * 2 + c % 2 := by omega
        simp (disch := omega) only [wbX12_runs_27, I_lit, I_in, true_and, I_cl, Int.reduceToNat, e1, I_le, fe, I_add, I_sub, I_mul, i1, tM (2000 + (a - 1) * 192 + c * 16 + n), I_div, I_neg]
        refine ⟨fun z => absurd z (by omega), fun _ => ?_⟩
        rw [show (c : Int) / 4 = ((c / 4 : Nat) : Int) by omega, show (c : Int) / 2 - (c : Int) / 2 / 2 * 2 = ((c / 2 % 2 : Nat) : Int) by omega, show (c : Int) - (c : Int) / 2 * 2 = ((c % 2 : Nat) : Int) by omega, show -(a : Int) = ((40 - a : Nat) : Int) - 40 by omega]
        refine gives_ok tG (by omega) (by omega) (by omega) (by omega) (by omega) ?_
        rw [← ec, Gp_add _ _ _ _ _ ⟨ha1, by omega⟩ hc hn]
        intro υ uG uE
        exact ih3 υ (Eqx.trans tE (Eqx.mono uE (by decide))) (fun k hk => by rw [Eqx_gI uE (by simp)]; exact tF k hk) uG (fun y hy => by rw [Eqx_gI uE (by simp)]; exact tu y hy)
