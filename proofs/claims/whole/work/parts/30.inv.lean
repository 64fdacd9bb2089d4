/-! what holds between calls -/
def ExB (a b : MT) : Prop :=
  a 0 ≤ b 0 ∧ a 1 ≤ b 1 ∧ a 2 ≤ b 2 ∧ a 3 ≤ b 3 ∧ a 4 ≤ b 4 ∧ a 5 ≤ b 5 ∧
  (∀ n : Nat, (n : Int) < a 1 → b (30 + n) = a (30 + n) ∧ b (1900 + n) = a (1900 + n)) ∧
  (∀ n : Nat, a 1 ≤ (n : Int) → (n : Int) < b 1 → a 0 ≤ b (1900 + n)) ∧
  (∀ k : Nat, (k : Int) < a 2 → b (50 + 2 * k) = a (50 + 2 * k) ∧ b (50 + 2 * k + 1) = a (50 + 2 * k + 1)) ∧
  (∀ k : Nat, a 2 ≤ (k : Int) → (k : Int) < b 2 → a 0 ≤ b (50 + 2 * k)) ∧
  (∀ k : Nat, (k : Int) < a 3 → b (70 + 3 * k) = a (70 + 3 * k) ∧ b (70 + 3 * k + 1) = a (70 + 3 * k + 1) ∧ b (70 + 3 * k + 2) = a (70 + 3 * k + 2)) ∧
  (∀ k : Nat, a 3 ≤ (k : Int) → (k : Int) < b 3 → a 0 ≤ b (70 + 3 * k + 1)) ∧
  (∀ y : Nat, (y : Int) < a 0 → ∀ c, c < 14 → b (1000 + 14 * y + c) = a (1000 + 14 * y + c)) ∧
  (∀ k : Nat, (k : Int) < a 5 → ∀ j, j < 6 → b (100 + 6 * k + j) = a (100 + 6 * k + j)) ∧ (∀ k, 9680 ≤ k → b k = a k)
def ExS (a b : MT) : Prop := b 6 = a 6 ∧ ∀ Y, Y < 40 → ∀ c, c < 12 → ∀ n, n < 16 → b (2000 + (39 - Y) * 192 + c * 16 + n) = a (2000 + (39 - Y) * 192 + c * 16 + n)
def Ex1 (a b : MT) : Prop := ExB a b ∧ (0 < a 0 → ExS a b)
theorem Ex1.trans {a b c : MT} (h : Ex1 a b) (h2 : Ex1 b c) (hs : ExS b c ∨ a 0 = 0) : Ex1 a c := by
  obtain ⟨⟨p0, p1, p2, p3, p4, p5, p6, p7, p8, p9, p10, p11, p12, p13, p14⟩, ps⟩ := h
  obtain ⟨⟨q0, q1, q2, q3, q4, q5, q6, q7, q8, q9, q10, q11, q12, q13, q14⟩, qs⟩ := h2
  refine ⟨⟨by omega, by omega, by omega, by omega, by omega, by omega, fun n hn => ?_, fun n h1 h2 => ?_, fun k hk => ?_, fun k h1 h2 => ?_, fun k hk => ?_, fun k h1 h2 => ?_, fun y hy e he => ?_, fun k hk j hj => ?_, fun k hk => (q14 k hk).trans (p14 k hk)⟩, fun h0 => ?_⟩
  · have a1 := p6 n hn; have a2 := q6 n (by omega); exact ⟨a2.1.trans a1.1, a2.2.trans a1.2⟩
  · by_cases e : (n : Int) < b 1
    · rw [(q6 n e).2]; exact p7 n h1 e
    · have := q7 n (by omega) h2; omega
  · have a1 := p8 k hk; have a2 := q8 k (by omega); exact ⟨a2.1.trans a1.1, a2.2.trans a1.2⟩
  · by_cases e : (k : Int) < b 2
    · rw [(q8 k e).1]; exact p9 k h1 e
    · have := q9 k (by omega) h2; omega
  · have a1 := p10 k hk; have a2 := q10 k (by omega); exact ⟨a2.1.trans a1.1, a2.2.1.trans a1.2.1, a2.2.2.trans a1.2.2⟩
  · by_cases e : (k : Int) < b 3
    · rw [(q10 k e).2.1]; exact p11 k h1 e
    · have := q11 k (by omega) h2; omega
  · rw [q12 y (by omega) e he]; exact p12 y hy e he
  · rw [q13 k (by omega) j hj]; exact p13 k hk j hj
  · rcases hs with hs | hs
    · have := ps h0
      exact ⟨hs.1.trans this.1, fun Y hY e he n hn => (hs.2 Y hY e he n hn).trans (this.2 Y hY e he n hn)⟩
    · omega
theorem ExB.refl (a : MT) : ExB a a := ⟨Int.le_refl _, Int.le_refl _, Int.le_refl _, Int.le_refl _, Int.le_refl _, Int.le_refl _, fun _ _ => ⟨rfl, rfl⟩, fun n h1 h2 => absurd h2 (by omega), fun _ _ => ⟨rfl, rfl⟩, fun n h1 h2 => absurd h2 (by omega), fun _ _ => ⟨rfl, rfl, rfl⟩, fun n h1 h2 => absurd h2 (by omega), fun _ _ _ _ => rfl, fun _ _ _ _ => rfl, fun _ _ => rfl⟩
theorem ExS.refl (a : MT) : ExS a a := ⟨rfl, fun _ _ _ _ _ _ => rfl⟩
theorem Ex1.refl (a : MT) : Ex1 a a := ⟨ExB.refl a, fun _ => ExS.refl a⟩
def BZ (m : MT) : Prop := ∀ Y, Y < 40 → ∀ c, c < 12 → ∀ n : Nat, n < 16 → m 1 ≤ (n : Int) → m (2000 + (39 - Y) * 192 + c * 16 + n) = 0
def KB (m : MT) (U : Nat → Nat) (T : TT) (w : Int) (q : Bool) (b : Int) : KT := (m, fun i j => decide (enN (U i) = enN (U j)), fun n => (nl (U n) : Int), T, w, q, b)
abbrev KK (m : MT) (U : Nat → Nat) (T : TT) : KT := KB m U T (-1) false (-1)
def PW (m : MT) : Prop := ∀ k : Nat, (k : Int) < m 5 → (0 ≤ m (100 + 6 * k) ∧ m (100 + 6 * k) ≤ 60) ∧ (0 ≤ m (100 + 6 * k + 1) ∧ m (100 + 6 * k + 1) ≤ 2) ∧ (0 ≤ m (100 + 6 * k + 2) ∧ m (100 + 6 * k + 2) ≤ 1) ∧ (0 ≤ m (100 + 6 * k + 3) ∧ m (100 + 6 * k + 3) < m 1) ∧ (0 ≤ m (100 + 6 * k + 4) ∧ m (100 + 6 * k + 4) ≤ 99) ∧ (0 ≤ m (100 + 6 * k + 5) ∧ m (100 + 6 * k + 5) ≤ 61)
def NMs (σ : St) (m : MT) (U : Nat → Nat) : Prop :=
  gI σ 1 0 = II (m 1) ∧ ∀ n : Nat, (n : Int) < m 1 → good (U n) ∧ gL σ 78 n = lN (U n) ∧ gL σ 2 n = lN (U n) ∧ gI σ 3 n = II (nl (U n)) ∧ gI σ 4 n = II (m (30 + n)) ∧ gI σ 5 n = II (m (1900 + n)) ∧ gL σ 6 n = lN (enN (U n)) ∧ gI σ 8 n = II (SC (U n)) ∧ (∀ j, j < SC (U n) → gI σ 7 (n * 10 + j) = II (96 + (SN (U n) j : Nat)))
def PRs (σ : St) (m : MT) : Prop := gI σ 64 0 = II (m 5) ∧ ∀ k : Nat, (k : Int) < m 5 → gI σ 65 k = II (m (100 + 6 * k)) ∧ gI σ 66 k = II ((m (100 + 6 * k + 1) * 2 + m (100 + 6 * k + 2)) * 16 + m (100 + 6 * k + 3)) ∧ gI σ 67 k = II (m (100 + 6 * k + 4)) ∧ gI σ 68 k = II (m (100 + 6 * k + 5))
def RUs (σ : St) (m : MT) (U : Nat → Nat) (T : TT) : Prop := ∃ r : Nat, gI σ 64 6 = II r ∧ r < 64 ∧ ∀ t : Nat, t < 6 → bit (r : Int) t = true → (t : Int) < m 4 ∧ ∀ y, y < 61 → ∀ i, i < 6 → gL σ 69 ((t * 61 + y) * 6 + i) = LL (pk (fun n => run (KB m U T (-1) false t) 61 (40 + y) (i / 2 * 4 + i % 2) n) + pk (fun n => run (KB m U T (-1) false t) 61 (40 + y) (i / 2 * 4 + 2 + i % 2) n))
def TPs (σ : St) : Prop := ∃ l : Nat, l ≤ 300 ∧ gI σ 42 1 = II l ∧ gI σ 75 4 = II l ∧ (∀ j, j < l → ∃ b : Nat, b < 256 ∧ gI σ 43 j = II b ∧ gI σ 79 j = (II b).toInt8.toInt32) ∧ gI σ 42 2 = gI σ 75 5 ∧ gI σ 42 3 = gI σ 75 6
def IMs (σ : St) (mi : MT) : Prop :=
  gI σ 70 0 = II (mi 1) ∧ gI σ 70 1 = II (mi 4) ∧ gI σ 70 2 = II (mi 5) ∧ gI σ 70 3 = II (mi 0) ∧ gI σ 70 4 = II (mi 6) ∧ gI σ 70 5 = II (mi 2) ∧ gI σ 70 6 = II (mi 3) ∧
  (∀ c, c < 12 → gI σ 71 c = II (mi (10 + c))) ∧ (∀ s, s < 2 → gI σ 72 s = II (mi (7 + s))) ∧
  (∀ Y, Y < 40 → ∀ c, c < 12 → ∀ n, n < 16 → gI σ 73 ((Y * 12 + c) * 16 + n) = II (mi (2000 + (39 - Y) * 192 + c * 16 + n))) ∧
  (∀ Y, Y ≤ 40 → ∀ g, g < 7 → ∀ n, n < 16 → gI σ 74 (Y * 112 + (g * 16 + n)) = II (sm (gy (G0 mi (mi 1).toNat) g n) Y))
def IvA (σ : St) (m mi : MT) (U : Nat → Nat) (T : TT) : Prop :=
  RM σ m ∧ (∀ k, gI σ 77 k = II (mi k)) ∧ WFm m ∧ WFm mi ∧ BZ m ∧ BZ mi ∧ PW m ∧ PW mi ∧ Ex1 mi m
def IvB (σ : St) (m mi : MT) (U : Nat → Nat) (T : TT) : Prop :=
  NMs σ m U ∧ (NP σ T (m 4) ∧ RW σ T (m 4)) ∧ CL σ m ∧ (CW σ T (m 4) ∧ gI σ 0 5 = II (m 4)) ∧
  Bk σ 0 (run (KK m U T) (m 0).toNat) (min (m 0).toNat 60) ∧ (∀ y : Nat, (y : Int) < m 0 → gI σ 15 y = II (nml (KK m U T) y)) ∧
  PRs σ m ∧ RUs σ m U T ∧ (gI σ 47 6 = II (-1) ∧ gI σ 47 7 = II 0) ∧ TPs σ ∧ IMs σ mi
def Inv (σ : St) : Prop := ∃ (m mi : MT) (U : Nat → Nat) (T : TT), IvA σ m mi U T ∧ IvB σ m mi U T
theorem kn_KB (m : MT) (U : Nat → Nat) (T : TT) (w : Int) (q : Bool) (b : Int) : kn (KB m U T w q b) = (m 1).toNat := rfl
theorem NMs_CN {σ : St} {m : MT} {U : Nat → Nat} (hW : WFm m) (h : NMs σ m U) (T : TT) (w : Int) (q : Bool) (b : Int) : CN σ (KB m U T w q b) := by
  have w1 := hW.2.1
  refine ⟨h.1, fun n hn => ?_, fun i hi j hj => ?_⟩
  · have := h.2 n (by rw [kn_KB] at hn; omega)
    have h12 := (nl_spec (U n)).1
    exact ⟨this.2.2.2.2.1, this.2.2.2.2.2.1, this.2.2.2.1, by show (0 : Int) ≤ (nl (U n) : Int); omega, by show (nl (U n) : Int) ≤ 12; omega⟩
  · have a := h.2 i (by rw [kn_KB] at hi; omega)
    have b := h.2 j (by rw [kn_KB] at hj; omega)
    rw [a.2.2.2.2.2.2.1, b.2.2.2.2.2.2.1]
    have l1 : enN (U i) ≤ U i := Nat.div_le_self _ _
    have l2 : enN (U j) ≤ U j := Nat.div_le_self _ _
    have g1 := good_lt a.1
    have g2 := good_lt b.1
    rw [pk_lEQ (by omega) (by omega)]
    show _ ↔ decide (enN (U i) = enN (U j)) = true
    simp
theorem NMs_RN {σ : St} {m : MT} {U : Nat → Nat} (hW : WFm m) (h : NMs σ m U) (T : TT) (w : Int) (q : Bool) (b : Int) : RN σ (KB m U T w q b) := by
  have w1 := hW.2.1
  refine ⟨fun x => lN (enN x.toBitVec.toNat), fun n hn τ post hp => ?_, fun i hi j hj => ?_, fun n hn => ?_⟩
  · have a := h.2 n (by rw [kn_KB] at hn; omega)
    have g := good_lt a.1
    have hp' : post (lN (enN (gL σ 78 n).toBitVec.toNat)) τ := hp
    rw [a.2.1, wb_tn (show U n < 2 ^ 64 by omega)] at hp'
    rw [a.2.1]
    exact rending_ok (by omega) hp'
  · have a := h.2 i (by rw [kn_KB] at hi; omega)
    have b := h.2 j (by rw [kn_KB] at hj; omega)
    have g1 := good_lt a.1
    have g2 := good_lt b.1
    have l1 : enN (U i) ≤ U i := Nat.div_le_self _ _
    have l2 : enN (U j) ≤ U j := Nat.div_le_self _ _
    rw [a.2.1, b.2.1]
    simp only [wb_tn (show U i < 2 ^ 64 by omega), wb_tn (show U j < 2 ^ 64 by omega)]
    rw [pk_lEQ (by omega) (by omega)]
    show _ ↔ decide (enN (U i) = enN (U j)) = true
    simp
  · have a := h.2 n (by rw [kn_KB] at hn; omega)
    have g := good_lt a.1
    have h12 := (nl_spec (U n)).1
    refine ⟨by show (0 : Int) ≤ (nl (U n) : Int); omega, by show (nl (U n) : Int) ≤ 12; omega, fun τ post hp => ?_⟩
    rw [a.2.1]
    exact size_ok (by omega) hp
theorem IvCK {σ : St} {m mi : MT} {U : Nat → Nat} {T : TT} (hA : IvA σ m mi U T) (hB : IvB σ m mi U T) (w : Int) (q : Bool) (b : Int) (hw : -1 ≤ w ∧ w < 8) (hb : -1 ≤ b ∧ b < m 4) : CK σ (KB m U T w q b) :=
  ⟨NMs_CN hA.2.2.1 hB.1 T w q b, hB.2.2.1, hA.2.2.1, hB.2.2.2.1.1, hw, hb⟩
theorem IvCy {σ : St} {m mi : MT} {U : Nat → Nat} {T : TT} (hA : IvA σ m mi U T) (hB : IvB σ m mi U T) (w : Int) (q : Bool) (b : Int) (hw : -1 ≤ w ∧ w < 8) (hb : -1 ≤ b ∧ b < m 4) : Cy σ (KB m U T w q b) :=
  ⟨⟨hA.1, hA.2.2.1, hB.2.1.1, NMs_RN hA.2.2.1 hB.1 T w q b⟩, hB.2.1.2, hw, hb⟩
/-! years gone by of a state that grew -/
theorem flm_ext {a b : MT} {w : Int} {y n : Nat} (h : ExB a b) (hy : (y : Int) < a 0) (h3 : 0 ≤ a 3) : flm b w y n = flm a w y n := by
  unfold flm
  have e10 := h.2.2.2.2.2.2.2.2.2.2.1
  have e11 := h.2.2.2.2.2.2.2.2.2.2.2.1
  have e3 := h.2.2.2.1
  rw [sm_ext (a := (a 3).toNat) (b := (b 3).toNat) (by omega) (fun k h1 h2 => if_neg (fun z => by have := e11 k (by omega) (by omega); omega))]
  exact sm_congr (fun k hk => by obtain ⟨x1, x2, x3⟩ := e10 k (by omega); rw [x1, x2, x3])
theorem lsn_ext {a b : MT} {y : Nat} (h : ExB a b) (hy : (y : Int) < a 0) (h2 : 0 ≤ a 2) : lsn b y (b 2).toNat = lsn a y (a 2).toNat := by
  have e8 := h.2.2.2.2.2.2.2.2.1
  have e9 := h.2.2.2.2.2.2.2.2.2.1
  have e2 := h.2.2.1
  have s1 : ∀ k : Nat, (k : Int) ≤ a 2 → lsn b y k = lsn a y k := by
    intro k
    induction k with
    | zero => intro _; rfl
    | succ k ih => intro hk; simp only [lsn]; rw [(e8 k (by omega)).1, (e8 k (by omega)).2, ih (by omega)]
  have s2 : ∀ d : Nat, ((a 2).toNat + d : Nat) ≤ (b 2).toNat → lsn b y ((a 2).toNat + d) = lsn a y (a 2).toNat := by
    intro d
    induction d with
    | zero => intro _; exact s1 _ (by omega)
    | succ d ih =>
      intro hd
      have := e9 ((a 2).toNat + d) (by omega) (by omega)
      show (if b (50 + 2 * ((a 2).toNat + d)) ≤ y then _ else lsn b y ((a 2).toNat + d)) = _
      rw [if_neg (by omega), ih (by omega)]
  have := s2 ((b 2).toNat - (a 2).toNat) (by omega)
  rw [show (a 2).toNat + ((b 2).toNat - (a 2).toNat) = (b 2).toNat by omega] at this
  exact this
theorem ft_ext {a b : MT} {U : Nat → Nat} {T T' : TT} {w w' : Int} {q q' : Bool} {t t' : Int} {y : Nat} (h : ExB a b) (hy : (y : Int) < a 0) (h2 : 0 ≤ a 2) (h1 : 0 ≤ a 1) (U' : Nat → Nat) :
    (∀ n, n < (a 1).toNat → ∀ x, x < 2 → ft (KB b U' T' w' q' t') y x n = ft (KB a U T w q t) y x n) ∧ (∀ n, (a 1).toNat ≤ n → n < (b 1).toNat → ∀ x, x < 2 → ft (KB b U' T' w' q' t') y x n = false) := by
  have hl := lsn_ext h hy h2
  have e6 := h.2.2.2.2.2.2.1
  have e7 := h.2.2.2.2.2.2.2.1
  refine ⟨fun n hn x hx => ?_, fun n h3 h4 x hx => ?_⟩
  · unfold ft
    show (decide (b (1900 + n) ≤ (y : Int)) && bit (b (30 + n)) x && (lsn b y (b 2).toNat == 0 || bit (lsn b y (b 2).toNat) n)) = (decide (a (1900 + n) ≤ (y : Int)) && bit (a (30 + n)) x && (lsn a y (a 2).toNat == 0 || bit (lsn a y (a 2).toNat) n))
    rw [hl, (e6 n (by omega)).1, (e6 n (by omega)).2]
  · unfold ft
    have := e7 n (by omega) (by omega)
    have : decide ((KB b U' T' w' q' t').1 (1900 + n) ≤ (y : Int)) = false := decide_eq_false (by show ¬ (b (1900 + n) ≤ (y : Int)); omega)
    rw [this]; rfl
theorem G0_ext {a b : MT} (h : ExS a b) (hB : ExB a b) (hz : BZ a) (h1 : 0 ≤ a 1) (hb : b 1 ≤ 16) : G0 b (b 1).toNat = G0 a (a 1).toNat := by
  funext Y c n
  unfold G0
  have e1 := hB.2.1
  by_cases d : Y < 40 ∧ c < 12 ∧ n < (b 1).toNat
  · rw [if_pos d, h.2 Y d.1 c d.2.1 n (by omega)]
    by_cases g : n < (a 1).toNat
    · rw [if_pos ⟨d.1, d.2.1, g⟩]
    · rw [if_neg (fun z => g z.2.2)]; exact hz Y d.1 c d.2.1 n (by omega) (by omega)
  · rw [if_neg d, if_neg (by omega)]
/-- tastes that stay -/
def TE (T T' : TT) (N : Int) : Prop := ∀ t : Nat, (t : Int) < N → nrT T' t = nrT T t ∧ psT T' t = psT T t ∧ woT T' t = woT T t ∧ baT T' t = baT T t
def UE (U U' : Nat → Nat) (N : Int) : Prop := ∀ n : Nat, (n : Int) < N → U' n = U n
theorem NE_ext {a b : MT} {U U' : Nat → Nat} {T T' : TT} {w : Int} {q : Bool} {t t' : Int} (h : ExB a b) (h6 : b 6 = a 6) (hU : UE U U' (a 1)) (h1 : 0 ≤ a 1) : NE (KB a U T w q t) (KB b U' T' w q t') := by
  have e1 := h.2.1
  refine ⟨by rw [kn_KB, kn_KB]; omega, h6, rfl, fun n hn => ?_, fun i hi j hj => ?_⟩
  · show ((nl (U' n) : Nat) : Int) = (nl (U n) : Int); rw [hU n (by rw [kn_KB] at hn; omega)]
  · show decide (enN (U' i) = enN (U' j)) = decide (enN (U i) = enN (U j)); rw [hU i (by rw [kn_KB] at hi; omega), hU j (by rw [kn_KB] at hj; omega)]
theorem run_grow {a b : MT} {U U' : Nat → Nat} {T T' : TT} (hW : WFm a) (hWb : WFm b) (h : ExB a b) (hS : ExS a b) (hz : BZ a) (hT : TE T T' (a 4)) (hU : UE U U' (a 1)) : ∀ y, y ≤ (a 0).toNat → run (KK b U' T') y = run (KK a U T) y ∧ (y < (a 0).toNat → nml (KK b U' T') y = nml (KK a U T) y) := by
  have w0 := hW.1
  have w1 := hW.2.1
  have w2 := hW.2.2.1
  have w3 := hW.2.2.2.1
  refine run_ext (NE_ext h hS.1 hU w1.1) (by rw [kn_KB, kn_KB]; exact G0_ext hS h hz w1.1 hWb.2.1.2) (fun y hy => ?_)
  have e12 := h.2.2.2.2.2.2.2.2.2.2.2.2.1
  have e0 := h.1
  have k1 : y < kc (KK b U' T') := by show y < (b 0).toNat; omega
  have k2 : y < kc (KK a U T) := by show y < (a 0).toNat; omega
  have ht : ∀ s, s < 2 → tas (KK b U' T') y s = tas (KK a U T) y s ∧ tas (KK a U T) y s < a 4 ∧ -1 ≤ tas (KK a U T) y s := by
    intro s hs
    have tb : tas (KK b U' T') y s = b (1000 + 14 * y + 12 + s) := by
      unfold tas
      rw [if_neg (by show ¬ ((-1 : Int) ≠ -1); omega), if_pos k1]; rfl
    have ta : tas (KK a U T) y s = a (1000 + 14 * y + 12 + s) := by
      unfold tas
      rw [if_neg (by show ¬ ((-1 : Int) ≠ -1); omega), if_pos k2]; rfl
    have := (hW.2.2.2.2.2.2.2.2.2.2.2.2.1 y (by omega)).2 s hs
    rw [tb, ta]
    have e := e12 y (by omega) (12 + s) (by omega)
    rw [show 1000 + 14 * y + (12 + s) = 1000 + 14 * y + 12 + s by omega] at e
    exact ⟨e, this.2, this.1⟩
  have hft := ft_ext (U := U) (T := T) (T' := T') (w := -1) (w' := -1) (q := false) (q' := false) (t := -1) (t' := -1) (y := y) h (by omega) w2.1 w1.1 U'
  refine ⟨fun c hc => ?_, fun s hs => (ht s hs).1, fun s hs hne => ?_, fun n hn => (show flm b (-1) y n = flm a (-1) y n from flm_ext h (by omega) w3.1), hft.1, hft.2⟩
  · unfold mny
    rw [if_pos k1, if_pos k2]
    exact e12 y (by omega) c (by omega)
  · have := ht s hs
    exact hT (tas (KK a U T) y s).toNat (by omega)
