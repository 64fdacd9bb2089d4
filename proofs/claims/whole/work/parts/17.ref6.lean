theorem I_bit {l : Int} {k : Nat} (h : 0 ≤ l ∧ l < 2147483648 ∧ k < 31) : ((II l >>> (II (k : Int) &&& II 31)) &&& II 1 = II 1) = (bit l k = true) := by
  have hd : ((II (k : Int) &&& II 31).toBitVec.smod 32).toNat = k := by
    have : ∀ d : Fin 32, ((Int32.ofInt (d.val : Int) &&& Int32.ofInt 31).toBitVec.smod 32).toNat = d.val := by decide +kernel
    exact this ⟨k, by omega⟩
  have hs := pk_shrN (n := l.toNat) (by omega) _ _ hd
  have ha := pk_andN (n := l.toNat / 2 ^ k) (Nat.lt_of_le_of_lt (Nat.div_le_self _ _) (by omega)) (m := II 1) 1 (by decide)
  rw [I_nI, show ((l.toNat : Nat) : Int) = l by omega] at hs
  rw [hs, ha, I_nI]
  have h2 := Nat.mod_lt (l.toNat / 2 ^ k) (show 0 < 2 ^ 1 by decide)
  have e : ((l.toNat / 2 ^ k % 2 ^ 1 : Nat) : Int) = l / ((2 ^ k : Nat) : Int) % 2 := by
    rw [Int.natCast_emod, Int.natCast_ediv, show ((l.toNat : Nat) : Int) = l by omega]; rfl
  rw [I_eq (by omega), e]
  unfold bit
  simp
/-- the cells of a taste -/
def RWe (t : Nat) (σ τ : St) : Prop := gI τ 80 t = gI σ 80 t ∧ (∀ i, i < 12 → gI τ 81 (12 * t + i) = gI σ 81 (12 * t + i) ∧ gI τ 82 (12 * t + i) = gI σ 82 (12 * t + i)) ∧ (∀ j, j < 400 → gI τ 85 (400 * t + j) = gI σ 85 (400 * t + j) ∧ gI τ 86 (400 * t + j) = gI σ 86 (400 * t + j))
theorem RWe_of {σ τ : St} {t : Nat} (e : ∀ q, 80 ≤ q → q ≤ 86 → τ q = σ q) : RWe t σ τ :=
  ⟨gI_of (e 80 (by omega) (by omega)) _, fun i _ => ⟨gI_of (e 81 (by omega) (by omega)) _, gI_of (e 82 (by omega) (by omega)) _⟩, fun j _ => ⟨gI_of (e 85 (by omega) (by omega)) _, gI_of (e 86 (by omega) (by omega)) _⟩⟩
theorem RWe_tr {σ τ υ : St} {t : Nat} (h : RWe t σ τ) (h2 : RWe t τ υ) : RWe t σ υ :=
  ⟨h2.1.trans h.1, fun i hi => ⟨(h2.2.1 i hi).1.trans (h.2.1 i hi).1, (h2.2.1 i hi).2.trans (h.2.1 i hi).2⟩, fun j hj => ⟨(h2.2.2 j hj).1.trans (h.2.2 j hj).1, (h2.2.2 j hj).2.trans (h.2.2 j hj).2⟩⟩
def RW (σ : St) (T : TT) (N : Int) : Prop := ∀ t : Nat, (t : Int) < N → ∀ τ : St, RWe t σ τ → ∀ w : Nat → Int, WB w → (∀ i, i < 14 → gL τ 96 i = LL (w i)) →
  (-2000000000 < woT T t w ∧ woT T t w < 2000000000) ∧
  (∀ post : Int64 → St → Prop, (∀ υ, Eqx [97] τ υ → post (LL (woT T t w)) υ) → wpX12_worthOf (II t) τ post) ∧
  (∀ post : Int32 → St → Prop, (∀ υ, Eqx [97] τ υ → post (II (if baT T t w then 1 else 0)) υ) → wpX12_isBarred (II t) τ post)
theorem RW_eq {σ τ : St} {T : TT} {N : Int} (h : RW σ T N) (e : ∀ q, 80 ≤ q → q ≤ 86 → τ q = σ q) : RW τ T N :=
  fun t ht υ hu w hw hc => h t ht υ (RWe_tr (RWe_of e) hu) w hw hc
theorem lsn_in {m : MT} (hW : WFm m) (y : Nat) : ∀ k : Nat, (k : Int) ≤ m 2 → 0 ≤ lsn m y k ∧ lsn m y k < 65536 := by
  intro k
  induction k with
  | zero => intro _; simp only [lsn]; omega
  | succ k ih =>
    intro hk
    have a := ih (by omega)
    have b := hW.2.2.2.2.2.2.2.2.2.2.1 k (by omega)
    simp only [lsn]; split
    · exact ⟨b.2.2.1, b.2.2.2⟩
    · exact a
theorem may_ok {σ : St} {G : GV} {K : KT} {y p s x n : Nat} {ta : Nat → Int} {post : Int32 → St → Prop} (C : Cx1 σ G K y ta) (hT : RW σ (kT K) (K.1 4)) (h55 : gI σ 75 55 = II (lsn K.1 y (K.1 2).toNat)) (hs : s < 2) (hx : x < 2) (hn : n < kn K) (ht : ta s ≠ -1)
    (wb : WB (wv K G (40 + y) p s n (ta s).toNat)) (hw : ∀ i, i < 14 → gL σ 96 i = LL (wv K G (40 + y) p s n (ta s).toNat i))
    (h : ∀ τ, Eqx [97] σ τ → post (II (if my K G y p s x n (ta s).toNat then 1 else 0)) τ) : wpX12_may (II y) (II s) (II x) (II n) σ post := by
  have hW := C.1.2.1
  have w1 := hW.2.1
  have w0 := hW.1
  have w2 := hW.2.2.1
  have kn16 : kn K ≤ 16 := by unfold kn; omega
  have kne : K.1 1 = (kn K : Int) := by unfold kn; omega
  have hy := C.2.2.2.2.2
  have cta := C.2.2.2.2.1 s hs
  have nn := hW.2.2.2.2.2.2.2.2.2.1 n (by omega)
  have e1 : gI σ 76 (1900 + n) = II (K.1 (1900 + n)) := C.1.1 _
  have e2 : gI σ 76 (30 + n) = II (K.1 (30 + n)) := C.1.1 _
  have i1 : (1900 + (n : Int)).toNat = 1900 + n := by omega
  have i2 : (30 + (n : Int)).toNat = 30 + n := by omega
  have hl := lsn_in hW y (K.1 2).toNat (by omega)
  have c104 := C.2.2.2.1 s hs
  obtain ⟨-, -, hbar⟩ := hT (ta s).toNat (by omega) σ (RWe_of (fun _ _ _ => rfl)) _ wb hw
  rw [show (((ta s).toNat : Nat) : Int) = ta s by omega] at hbar
  have c53 : ft K y x n = true → wbX12_may_53 post (II s) σ := by
    intro hf
    simp (disch := omega) only [wbX12_may_53, I_in, true_and, I_cl, Int.toNat_natCast, c104]
    refine hbar _ (fun υ hE => ?_)
    have := h υ hE
    unfold my at this
    rw [hf] at this
    cases hb : baT (kT K) (ta s).toNat (wv K G (40 + y) p s n (ta s).toNat) with
    | true =>
      rw [hb] at this
      refine ⟨fun _ => this, fun z => ?_⟩
      simp (disch := omega) only [I_lit, if_true, I_eq] at z
      omega
    | false =>
      rw [hb] at this
      refine ⟨fun z => ?_, fun _ => this⟩
      exact absurd rfl z
  have no : ft K y x n = false → post (II 0) σ := by
    intro hf
    have := h σ (Eqx.refl _ _)
    unfold my at this
    rw [hf] at this
    exact this
  simp (disch := omega) only [wpX12_may, I_lit, I_in, true_and, I_cl, I_add, i1, i2, e1, e2, I_lt, I_bit, h55, I_eq]
  refine ⟨fun c => no ?_, fun c => ⟨fun c2 => no ?_, fun c2 => ⟨fun c3 => c53 ?_, fun c3 => ⟨fun c4 => no ?_, fun c4 => c53 ?_⟩⟩⟩⟩
  · unfold ft
    simp; intro z; omega
  · unfold ft
    simp at c2; simp [c2]
  · unfold ft
    simp [c2, c3]; omega
  · unfold ft
    simp at c4
    simp [c4, c3]
  · unfold ft
    simp [c2, c4]; omega
def chp (K : KT) (G : GV) (y p s x : Nat) : Int := if tas K y s = -1 then -1 else pck (fun n => my K G y p s x n (tas K y s).toNat) (fun n => wo K G y p s n (tas K y s).toNat) (kn K)
theorem chooses_ok {σ : St} {G : GV} {K : KT} {y p s x : Nat} {post : St → Prop} (C : Cx1 σ G K y (tas K y)) (hT : RW σ (kT K) (K.1 4)) (hL : LY σ G K y (tas K y)) (hp : p < 3) (hs : s < 2) (hx : x < 2)
    (h : ∀ τ, Eqx [75, 96, 97] σ τ → (∀ k, k < 56 → gI τ 75 k = gI σ 75 k) → gI τ 75 56 = II (chp K G y p s x) → (chp K G y p s x ≠ -1 → gL τ 75 57 = LL (wo K G y p s (chp K G y p s x).toNat (tas K y s).toNat)) → post τ) : wpX12_chooses (II y) (II p) (II s) (II x) σ post := by
  have hW := C.1.2.1
  have w1 := hW.2.1
  have kn16 : kn K ≤ 16 := by unfold kn; omega
  have kne : K.1 1 = (kn K : Int) := by unfold kn; omega
  have hy := C.2.2.2.2.2
  have cta := C.2.2.2.2.1 s hs
  have w4 := hW.2.2.2.2.1
  simp only [wpX12_chooses, fe]
  by_cases ht : tas K y s = -1
  · refine ⟨1, ?_⟩
    have hc : chp K G y p s x = -1 := by unfold chp; rw [if_pos ht]
    have hpost := h (sL (sI σ 75 56 (II (-1))) 75 57 0) (Eqx_tL (Eqx_tI (Eqx.refl _ _) (by simp)) (by simp)) (fun k hk => by rw [gI_sL, rI3 (by omega)]) (by rw [gI_sL, rI1, hc]) (fun z => absurd hc z)
    have e1 : gI (sL (sI σ 75 56 (II (-1))) 75 57 0) 76 1 = II (K.1 1) := by rw [gI_sL, rI2 (by omega)]; exact C.1.1 1
    have e104 : gI (sL (sI σ 75 56 (II (-1))) 75 57 0) 104 s = II (-1) := by rw [gI_sL, rI2 (by omega), C.2.2.2.1 s hs, ht]
    show wbX12_chooses_13 post 1 _ _ _ _ _ (sL (sI σ 75 56 (II (-1))) 75 57 0)
    simp (disch := omega) only [wbX12_chooses_13, I_lit, I_in, true_and, I_cl, Int.reduceToNat, e1, I_le, e104, Int.toNat_natCast, I_neg, I_eq]
    exact ⟨fun _ => hpost, fun _ => ⟨fun _ => hpost, fun z => absurd trivial z⟩⟩
  · have hch : chp K G y p s x = pck (fun n => my K G y p s x n (tas K y s).toNat) (fun n => wo K G y p s n (tas K y s).toNat) (kn K) := by unfold chp; rw [if_neg ht]
    rw [hch] at h
    obtain ⟨nr1, nr2, nr3, nr4, nr5, nr6⟩ := C.1.2.2.1 (tas K y s).toNat (by omega)
    obtain ⟨en, -, -, en3⟩ := C.1.2.2.2
    have wb : ∀ n, n < kn K → WB (wv K G (40 + y) p s n (tas K y s).toNat) := fun n hn => wv_wb C.2.2.1 hW ⟨(en3 n hn).1, (en3 n hn).2.1⟩ hy nr5
    have hws : ∀ n, n < kn K → -2000000000 < wo K G y p s n (tas K y s).toNat ∧ wo K G y p s n (tas K y s).toNat < 2000000000 := by
      intro n hn
      exact (hT (tas K y s).toNat (by omega) (fun q => if q = 96 then ((σ 96).1, (fun i => LL (wv K G (40 + y) p s n (tas K y s).toNat i)), (σ 96).2.2) else σ q) (RWe_of (fun q a b => if_neg (by omega))) _ (wb n hn) (fun i hi => by unfold gL; simp)).1
    have key := up (P := fun f i => ∀ υ : St, Eqx [75, 96, 97] σ υ → (∀ k, k < 56 → gI υ 75 k = gI σ 75 k) → gI υ 75 56 = II (pck (fun n => my K G y p s x n (tas K y s).toNat) (fun n => wo K G y p s n (tas K y s).toNat) i) → (pck (fun n => my K G y p s x n (tas K y s).toNat) (fun n => wo K G y p s n (tas K y s).toNat) i ≠ -1 → gL υ 75 57 = LL (wo K G y p s (pck (fun n => my K G y p s x n (tas K y s).toNat) (fun n => wo K G y p s n (tas K y s).toNat) i).toNat (tas K y s).toNat)) → wbX12_chooses_13 post f (II y) (II p) (II s) (II x) (II i) υ) (kn K) ?_ ?_ 0 (by omega)
    · obtain ⟨f, hf⟩ := key
      exact ⟨f, hf _ (Eqx_tL (Eqx_tI (Eqx.refl _ _) (by simp)) (by simp)) (fun k hk => by rw [gI_sL, rI3 (by omega)]) (by rw [gI_sL, rI1]; rfl) (fun z => absurd rfl z)⟩
    · intro f υ uE uk u56 u57
      have e1 : gI υ 76 1 = II (K.1 1) := by rw [Eqx_gI uE (by simp)]; exact C.1.1 1
      simp (disch := omega) only [wbX12_chooses_13, I_lit, I_in, true_and, I_cl, Int.reduceToNat, e1, I_le]
      exact ⟨fun _ => h υ uE uk u56 u57, fun z => absurd (by omega) z⟩
    · intro f i hi ih υ uE uk u56 u57
      have e1 : gI υ 76 1 = II (K.1 1) := by rw [Eqx_gI uE (by simp)]; exact C.1.1 1
      have e104 : gI υ 104 s = II (tas K y s) := by rw [Eqx_gI uE (by simp)]; exact C.2.2.2.1 s hs
      have pr := pck_range (fun n => my K G y p s x n (tas K y s).toNat) (fun n => wo K G y p s n (tas K y s).toNat) i
      have hpc : pck (fun n => my K G y p s x n (tas K y s).toNat) (fun n => wo K G y p s n (tas K y s).toNat) (i + 1) = if my K G y p s x i (tas K y s).toNat = true ∧ (pck (fun n => my K G y p s x n (tas K y s).toNat) (fun n => wo K G y p s n (tas K y s).toNat) i = -1 ∨ wo K G y p s (pck (fun n => my K G y p s x n (tas K y s).toNat) (fun n => wo K G y p s n (tas K y s).toNat) i).toNat (tas K y s).toNat < wo K G y p s i (tas K y s).toNat) then (i : Int) else pck (fun n => my K G y p s x n (tas K y s).toNat) (fun n => wo K G y p s n (tas K y s).toNat) i := rfl
      rw [hpc] at ih
      generalize hP : pck (fun n => my K G y p s x n (tas K y s).toNat) (fun n => wo K G y p s n (tas K y s).toNat) i = P at *
      have C2 : Cx1 υ G K y (tas K y) := by
        obtain ⟨h1, h2, h3, h4, h5, h6⟩ := C
        exact ⟨Cx0_eq h1 (uE 76 (by simp)).symm (uE 78 (by simp)).symm (uE 83 (by simp)).symm (uE 84 (by simp)).symm, RG_eq h2 (fun q a b => (uE q (by simp; omega)).symm), h3, fun s hs => by rw [Eqx_gI uE (by simp)]; exact h4 s hs, h5, h6⟩
      have L2 : LY υ G K y (tas K y) := by
        have uI : ∀ q, 105 ≤ q → q ≤ 112 → υ q = σ q := fun q a b => (uE q (by simp; omega)).symm
        refine ⟨fun n hn => ?_, by rw [uk 55 (by omega)]; exact hL.2⟩
        obtain ⟨a1, a2, a3, a4, a5, a6, a7⟩ := hL.1 n hn
        refine ⟨by rw [gI_of (uI 108 (by omega) (by omega))]; exact a1, by rw [gI_of (uI 108 (by omega) (by omega))]; exact a2, by rw [gI_of (uI 109 (by omega) (by omega))]; exact a3, by rw [gI_of (uI 110 (by omega) (by omega))]; exact a4, by rw [gI_of (uI 111 (by omega) (by omega))]; exact a5, by rw [gI_of (uI 112 (by omega) (by omega))]; exact a6, fun s hs hne => ?_⟩
        obtain ⟨b1, b2, b3⟩ := a7 s hs hne
        exact ⟨fun p hp => by rw [gI_of (uI 105 (by omega) (by omega))]; exact b1 p hp, fun q hq => by rw [gI_of (uI 106 (by omega) (by omega))]; exact b2 q hq, by rw [gI_of (uI 107 (by omega) (by omega))]; exact b3⟩
      simp (disch := omega) only [wbX12_chooses_13, I_lit, I_in, true_and, I_cl, Int.reduceToNat, e1, I_le, e104, Int.toNat_natCast, I_neg, I_eq]
      refine ⟨fun z => absurd z (by omega), fun _ => ⟨fun z => absurd z ht, fun _ => ?_⟩⟩
      refine words_ok C2 L2 hp hs hi ht ?_
      intro τ tE tw
      have C3 : Cx1 τ G K y (tas K y) := by
        obtain ⟨h1, h2, h3, h4, h5, h6⟩ := C2
        exact ⟨Cx0_eq h1 (tE 76 (by simp)).symm (tE 78 (by simp)).symm (tE 83 (by simp)).symm (tE 84 (by simp)).symm, RG_eq h2 (fun q a b => (tE q (by simp; omega)).symm), h3, fun s hs => by rw [Eqx_gI tE (by simp)]; exact h4 s hs, h5, h6⟩
      have tT : RW τ (kT K) (K.1 4) := RW_eq hT (fun q a b => by rw [← tE q (by simp; omega), ← uE q (by simp; omega)])
      refine may_ok (p := p) C3 tT (by rw [Eqx_gI tE (by simp)]; exact L2.2) hs hx hi ht (wb i hi) tw ?_
      intro ρ rE
      have f56 : gI ρ 75 56 = II P := by rw [Eqx_gI rE (by simp), Eqx_gI tE (by simp)]; exact u56
      have fE : Eqx [75, 96, 97] σ ρ := Eqx.trans uE (Eqx.trans (Eqx.mono tE (by simp)) (Eqx.mono rE (by simp)))
      have fk : ∀ k, k < 56 → gI ρ 75 k = gI σ 75 k := fun k hk => by rw [Eqx_gI rE (by simp), Eqx_gI tE (by simp)]; exact uk k hk
      have f57 : P ≠ -1 → gL ρ 75 57 = LL (wo K G y p s P.toNat (tas K y s).toNat) := fun z => by rw [Eqx_gL rE (by simp), Eqx_gL tE (by simp)]; exact u57 z
      have hno : ¬ (my K G y p s x i (tas K y s).toNat = true ∧ (P = -1 ∨ wo K G y p s P.toNat (tas K y s).toNat < wo K G y p s i (tas K y s).toNat)) → ∀ ρ' : St, Eqx [97] ρ ρ' → wbX12_chooses_13 post f (II y) (II p) (II s) (II x) (II ((i : Int) + 1)) ρ' := by
        intro c ρ' hE'
        rw [if_neg c] at ih
        exact ih ρ' (Eqx.trans fE (Eqx.mono hE' (by simp))) (fun k hk => by rw [Eqx_gI hE' (by simp)]; exact fk k hk) (by rw [Eqx_gI hE' (by simp)]; exact f56) (fun z => by rw [Eqx_gL hE' (by simp)]; exact f57 z)
      have hyes : (my K G y p s x i (tas K y s).toNat = true ∧ (P = -1 ∨ wo K G y p s P.toNat (tas K y s).toNat < wo K G y p s i (tas K y s).toNat)) → ∀ ρ' : St, Eqx [97] ρ ρ' → wbX12_chooses_86 (wbX12_chooses_13 post f) post (II y) (II p) (II s) (II x) (II i) (LL (wo K G y p s i (tas K y s).toNat)) ρ' := by
        intro c ρ' hE'
        rw [if_pos c] at ih
        simp (disch := omega) only [wbX12_chooses_86, fe, I_lit, I_add]
        refine ih _ (Eqx_tL (Eqx_tI (Eqx.trans fE (Eqx.mono hE' (by simp))) (by simp)) (by simp)) (fun k hk => ?_) (by rw [gI_sL, rI1]) (fun _ => ?_)
        · rw [gI_sL, rI3 (by omega), Eqx_gI hE' (by simp)]; exact fk k hk
        · rw [rL1]; rfl
      cases hmy : my K G y p s x i (tas K y s).toNat with
      | false =>
        refine ⟨fun _ => ?_, fun z => absurd rfl z⟩
        simp only [fe, I_add]
        exact hno (by rw [hmy]; simp) ρ (Eqx.refl _ _)
      | true =>
        refine ⟨fun z => ?_, fun _ => ?_⟩
        · simp (disch := omega) only [if_true, I_eq] at z; omega
        · have r104 : gI ρ 104 s = II (tas K y s) := by rw [Eqx_gI fE (by simp)]; exact C.2.2.2.1 s hs
          rw [r104]
          obtain ⟨-, hwo, -⟩ := hT (tas K y s).toNat (by omega) ρ (RWe_of (fun q a b => (fE q (by simp; omega)).symm)) _ (wb i hi) (fun j hj => by rw [Eqx_gL rE (by simp)]; exact tw j hj)
          rw [show (((tas K y s).toNat : Nat) : Int) = tas K y s by omega] at hwo
          refine hwo _ (fun ρ' hE' => ?_)
          have g56 : gI ρ' 75 56 = II P := by rw [Eqx_gI hE' (by simp)]; exact f56
          simp (disch := omega) only [g56, I_eq]
          refine ⟨fun c => hyes ⟨hmy, Or.inl c⟩ ρ' hE', fun c => ?_⟩
          have g57 : gL ρ' 75 57 = LL (wo K G y p s P.toNat (tas K y s).toNat) := by rw [Eqx_gL hE' (by simp)]; exact f57 c
          have b1 := hws i hi
          have b2 := hws P.toNat (by omega)
          have b1' : -2000000000 < woT (kT K) (tas K y s).toNat (wv K G (40 + y) p s i (tas K y s).toNat) ∧ woT (kT K) (tas K y s).toNat (wv K G (40 + y) p s i (tas K y s).toNat) < 2000000000 := b1
          have hwe : wo K G y p s i (tas K y s).toNat = woT (kT K) (tas K y s).toNat (wv K G (40 + y) p s i (tas K y s).toNat) := rfl
          rw [g57, L_le (by omega)]
          refine ⟨fun d => ?_, fun d => hyes ⟨hmy, Or.inr (by omega)⟩ ρ' hE'⟩
          simp only [fe, I_add]
          exact hno (fun z => by rcases z.2 with z | z <;> omega) ρ' hE'
