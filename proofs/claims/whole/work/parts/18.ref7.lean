def Cy (σ : St) (K : KT) : Prop := Cx0 σ K ∧ RW σ (kT K) (K.1 4) ∧ (-1 ≤ kw K ∧ kw K < 8) ∧ (-1 ≤ kb K ∧ kb K < K.1 4)
def RL : List Nat := [75, 96, 97, 98, 99, 100, 101, 102, 103, 104, 105, 106, 107, 108, 109, 110, 111, 112]
theorem Cy_eq {σ τ : St} {K : KT} (h : Cy σ K) (e : Eqx RL σ τ) : Cy τ K :=
  ⟨Cx0_eq h.1 (e 76 (by decide)).symm (e 78 (by decide)).symm (e 83 (by decide)).symm (e 84 (by decide)).symm, RW_eq h.2.1 (fun q a b => (e q (by
    intro hm
    simp only [RL, List.mem_cons, List.not_mem_nil, or_false] at hm
    omega)).symm), h.2.2⟩
theorem tas_in {K : KT} (hW : WFm K.1) (hb : -1 ≤ kb K ∧ kb K < K.1 4) (y s : Nat) (hs : s < 2) : -1 ≤ tas K y s ∧ tas K y s < K.1 4 := by
  unfold tas
  split
  · exact hb
  · split
    · rename_i h
      have := hW.1
      exact (hW.2.2.2.2.2.2.2.2.2.2.2.2.1 y (by unfold kc at h; omega)).2 s hs
    · exact hW.2.2.2.2.2.2.2.1 s hs
theorem rocks_ok {σ : St} {G : GV} {K : KT} {y p s x : Nat} {post : St → Prop} (C : Cx1 σ G K y (tas K y)) (hT : RW σ (kT K) (K.1 4)) (hL : LY σ G K y (tas K y)) (hp : p < 3) (hs : s < 2) (hx : x < 2)
    (h : ∀ τ, Eqx [75, 96, 97, 98, 99, 100, 101, 102, 103] σ τ → (∀ k, k < 56 → gI τ 75 k = gI σ 75 k) → RG τ (rock K G y ((p * 2 + s) * 2 + x)) → gI τ 103 y = gI σ 103 y + II (if ch K G y ((p * 2 + s) * 2 + x) = -1 then 1 else 0) → (∀ k, k ≠ y → gI τ 103 k = gI σ 103 k) → post τ) : wpX12_rocks (II y) (II p) (II s) (II x) σ post := by
  have hy := C.2.2.2.2.2
  have hc : ch K G y ((p * 2 + s) * 2 + x) = chp K G y p s x := by
    unfold ch chp
    rw [show ((p * 2 + s) * 2 + x) / 2 % 2 = s by omega, show ((p * 2 + s) * 2 + x) / 4 = p by omega, show ((p * 2 + s) * 2 + x) % 2 = x by omega]
  have cr := ch_range K G y ((p * 2 + s) * 2 + x)
  have kn16 : kn K ≤ 16 := by unfold kn; have := C.1.2.1.2.1; omega
  unfold rock at h
  rw [hc] at h cr
  unfold wpX12_rocks
  refine chooses_ok C hT hL hp hs hx ?_
  intro τ tE tk t56 _
  simp (disch := omega) only [t56, I_lit, I_neg, I_eq]
  refine ⟨fun c => ?_, fun c => ?_⟩
  · rw [if_neg c, if_neg c] at h
    have tG : RG τ G := RG_eq C.2.1 (fun q a b => (tE q (by simp; omega)).symm)
    have cr2 := cr.2 c
    rw [show (y : Int) = ((40 + y : Nat) : Int) - 40 by omega, show chp K G y p s x = (((chp K G y p s x).toNat : Nat) : Int) by omega]
    refine gives_ok tG (by omega) hp hs hx (by omega) ?_
    intro υ uG uE
    refine h υ (Eqx.trans (Eqx.mono tE (by simp)) (Eqx.mono uE (by simp))) (fun k hk => by rw [Eqx_gI uE (by simp)]; exact tk k hk) uG ?_ ?_
    · rw [Eqx_gI uE (by simp), Eqx_gI tE (by simp)]
      rw [I_self (gI σ 103 y), I_add, Int.add_zero]
    · intro k hk
      rw [Eqx_gI uE (by simp), Eqx_gI tE (by simp)]
  · rw [if_pos c, if_pos c] at h
    simp (disch := omega) only [I_in, true_and, fe, I_cl, Int.toNat_natCast]
    refine h _ (Eqx_tI (Eqx.mono tE (by simp)) (by simp)) (fun k hk => by rw [rI2 (by omega)]; exact tk k hk) (RG_eq C.2.1 (fun q a b => by rw [ce_sI _ _ _ _ _ (by omega), ← tE q (by simp; omega)])) ?_ ?_
    · rw [rI1, Eqx_gI tE (by simp)]
    · intro k hk
      rw [rI3 hk, Eqx_gI tE (by simp)]
def Gp (m : MT) (N a c n : Nat) : GV := fun Y c' n' => if Y < 40 ∧ c' < 12 ∧ n' < N ∧ (40 - Y < a ∨ 40 - Y = a ∧ (c' < c ∨ c' = c ∧ n' < n)) then m (2000 + (39 - Y) * 192 + c' * 16 + n') else 0
theorem Gp_add (m : MT) (N a c n : Nat) (ha : 1 ≤ a ∧ a ≤ 40) (hc : c < 12) (hn : n < N) : gadd (Gp m N a c n) (40 - a) c n (m (2000 + (a - 1) * 192 + c * 16 + n)) = Gp m N a c (n + 1) := by
  funext Y c' n'
  unfold gadd Gp
  by_cases e : Y = 40 - a ∧ c' = c ∧ n' = n
  · obtain ⟨rfl, rfl, rfl⟩ := e
    rw [if_pos ⟨rfl, rfl, rfl⟩, if_neg (by omega), if_pos (by omega), Int.zero_add, show 39 - (40 - a) = a - 1 by omega]
  · rw [if_neg e]
    by_cases d : Y < 40 ∧ c' < 12 ∧ n' < N ∧ (40 - Y < a ∨ 40 - Y = a ∧ (c' < c ∨ c' = c ∧ n' < n))
    · rw [if_pos d, if_pos (by omega)]
    · rw [if_neg d, if_neg (by omega)]
theorem Gp_c (m : MT) (N a c n : Nat) (hn : N ≤ n) : Gp m N a c n = Gp m N a (c + 1) 0 := by
  funext Y c' n'
  unfold Gp
  by_cases d : Y < 40 ∧ c' < 12 ∧ n' < N ∧ (40 - Y < a ∨ 40 - Y = a ∧ (c' < c ∨ c' = c ∧ n' < n))
  · rw [if_pos d, if_pos (by omega)]
  · rw [if_neg d, if_neg (by omega)]
theorem Gp_a (m : MT) (N a c : Nat) (hc : 12 ≤ c) : Gp m N a c 0 = Gp m N (a + 1) 0 0 := by
  funext Y c' n'
  unfold Gp
  by_cases d : Y < 40 ∧ c' < 12 ∧ n' < N ∧ (40 - Y < a ∨ 40 - Y = a ∧ (c' < c ∨ c' = c ∧ n' < 0))
  · rw [if_pos d, if_pos (by omega)]
  · rw [if_neg d, if_neg (by omega)]
theorem Gp_0 (m : MT) (N : Nat) : Gp m N 1 0 0 = GZ := by
  funext Y c' n'
  unfold Gp GZ
  rw [if_neg (by omega)]
theorem Gp_end (m : MT) (N : Nat) : Gp m N 41 0 0 = G0 m N := by
  funext Y c' n'
  unfold Gp G0
  by_cases d : Y < 40 ∧ c' < 12 ∧ n' < N
  · rw [if_pos d, if_pos ⟨d.1, d.2.1, d.2.2, by omega⟩]
  · rw [if_neg d, if_neg (fun z => d ⟨z.1, z.2.1, z.2.2.1⟩)]
def RQ (σ : St) (G : GV) (u : Nat → Int) (τ : St) : Prop := Eqx RL σ τ ∧ F75 σ τ ∧ RG τ G ∧ (∀ y, y < 61 → gI τ 103 y = II (u y))
theorem run_row {σ : St} {G : GV} {K : KT} {y c : Nat} {u : Nat → Int} {ag ag2 : Int32} {v1 v2 v3 v4 v6 : Int32} {K2 : Int32 → Int32 → Int32 → Int32 → Int32 → Int32 → Int32 → St → Prop} {post : St → Prop} (C : Cy σ K) (hy : y ≤ 60) (hc : c < 12) (hI : IY G y c 0) (hL : LY σ G K y (tas K y)) (hG : RG σ G) (hta : ∀ s, s < 2 → gI σ 104 s = II (tas K y s)) (hu : ∀ y, y < 61 → gI σ 103 y = II (u y))
    (hk : ∀ τ, Eqx [75, 96, 97, 98, 99, 100, 101, 102, 103] σ τ → F75 σ τ → RG τ (rocks K G y c (mny K y c).toNat) → LY τ (rocks K G y c (mny K y c).toNat) K y (tas K y) → (∀ z, z < 61 → gI τ 103 z = II (if z = y then u z + unn K G y c (mny K y c).toNat else u z)) → K2 v1 v2 v3 v4 (II y) v6 (II ((c : Int) + 1)) τ) :
    ∃ f, wbX12_runs_261 K2 post f v1 v2 v3 v4 (II y) v6 (II c) (II (mny K y c)) (II 0) σ := by
  have hW := C.1.2.1
  have kn16 : kn K ≤ 16 := by unfold kn; have := hW.2.1; omega
  have mi := mny_in hW y c hc
  have hta' := tas_in hW C.2.2.2 y
  have key := up (P := fun f k => ∀ τ : St, Eqx [75, 96, 97, 98, 99, 100, 101, 102, 103] σ τ → (∀ k, k < 56 → gI τ 75 k = gI σ 75 k) → RG τ (rocks K G y c k) → LY τ (rocks K G y c k) K y (tas K y) → (∀ z, z < 61 → gI τ 103 z = II (if z = y then u z + unn K G y c k else u z)) → wbX12_runs_261 K2 post f v1 v2 v3 v4 (II y) v6 (II c) (II (mny K y c)) (II k) τ) (mny K y c).toNat ?_ ?_ 0 (by omega)
  · obtain ⟨f, hf⟩ := key
    refine ⟨f, hf σ (Eqx.refl _ _) (fun _ _ => rfl) hG hL (fun z hz => ?_)⟩
    rw [hu z hz]
    simp only [unn, Int.add_zero, ite_self]
  · intro f τ tE tk tG tL tu
    simp (disch := omega) only [wbX12_runs_261, I_lit, I_le, fe, I_add]
    exact ⟨fun _ => hk τ tE (fun k hk => tk k (by omega)) tG tL tu, fun z => absurd (by omega) z⟩
  · intro f k hk2 ih τ tE tk tG tL tu
    have hIk := IY_rocks (K := K) hI hc kn16 k (by omega)
    have C1 : Cx1 τ (rocks K G y c k) K y (tas K y) := by
      refine ⟨Cx0_eq C.1 (tE 76 (by simp)).symm (tE 78 (by simp)).symm (tE 83 (by simp)).symm (tE 84 (by simp)).symm, tG, hIk.1.gb, fun s hs => by rw [Eqx_gI tE (by simp)]; exact hta s hs, hta', hy⟩
    have hT : RW τ (kT K) (K.1 4) := RW_eq C.2.1 (fun q a b => (tE q (by simp; omega)).symm)
    have ec : c = (c / 4 * 2 + c / 2 % 2) * 2 + c % 2 := by omega
    simp (disch := omega) only [wbX12_runs_261, I_lit, I_le, I_div, I_mul, I_sub, fe, I_add]
    refine ⟨fun z => absurd z (by omega), fun _ => ?_⟩
    rw [show (c : Int) / 4 = ((c / 4 : Nat) : Int) by omega, show (c : Int) / 2 - (c : Int) / 2 / 2 * 2 = ((c / 2 % 2 : Nat) : Int) by omega, show (c : Int) - (c : Int) / 2 * 2 = ((c % 2 : Nat) : Int) by omega]
    refine rocks_ok C1 hT tL (by omega) (by omega) (by omega) ?_
    rw [← ec]
    intro υ uE uk uG u1 u2
    refine ih υ (Eqx.trans tE uE) (fun k hk => (uk k hk).trans (tk k hk)) uG ?_ (fun z hz => ?_)
    · have L2 : LY υ (rocks K G y c k) K y (tas K y) := by
        have uI : ∀ q, 105 ≤ q → q ≤ 112 → υ q = τ q := fun q a b => (uE q (by simp; omega)).symm
        refine ⟨fun n hn => ?_, by rw [uk 55 (by omega)]; exact tL.2⟩
        obtain ⟨a1, a2, a3, a4, a5, a6, a7⟩ := tL.1 n hn
        refine ⟨by rw [gI_of (uI 108 (by omega) (by omega))]; exact a1, by rw [gI_of (uI 108 (by omega) (by omega))]; exact a2, by rw [gI_of (uI 109 (by omega) (by omega))]; exact a3, by rw [gI_of (uI 110 (by omega) (by omega))]; exact a4, by rw [gI_of (uI 111 (by omega) (by omega))]; exact a5, by rw [gI_of (uI 112 (by omega) (by omega))]; exact a6, fun s hs hne => ?_⟩
        obtain ⟨b1, b2, b3⟩ := a7 s hs hne
        exact ⟨fun p hp => by rw [gI_of (uI 105 (by omega) (by omega))]; exact b1 p hp, fun q hq => by rw [gI_of (uI 106 (by omega) (by omega))]; exact b2 q hq, by rw [gI_of (uI 107 (by omega) (by omega))]; exact b3⟩
      refine LY_same hW (fun s hs hne => ?_) L2 (ST_rock K _ y c hc)
      have a := hta' s hs
      have b := C.1.2.2.1 (tas K y s).toNat (by omega)
      exact ⟨b.2.2.1, b.2.2.2.2.1⟩
    · by_cases e : z = y
      · subst e
        rw [u1, tu z hz, if_pos rfl, if_pos rfl, I_add]
        congr 1
        simp only [unn]
        omega
      · rw [u2 z e, tu z hz, if_neg e, if_neg e]
