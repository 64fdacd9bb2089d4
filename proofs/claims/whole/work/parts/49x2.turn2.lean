/-! turnover: the foremost -/
def av (b : Nat → Int) (i n : Nat) : Bool := decide (b n < b i) || (decide (b i = b n) && decide (i < n))
theorem av_iff (b : Nat → Int) (i n : Nat) : av b i n = true ↔ (b n < b i ∨ (b i = b n ∧ i < n)) := by unfold av; simp
def ahd (b : Nat → Int) (M n : Nat) : Int := sm (fun i => if av b i n = true then 1 else 0) M
theorem sm_le2 {f g : Nat → Int} {n : Nat} (h : ∀ k, k < n → f k ≤ g k) : sm f n ≤ sm g n := by
  induction n with
  | zero => exact Int.le_refl _
  | succ n ih => exact Int.add_le_add (ih (fun k hk => h k (by omega))) (h n (by omega))
theorem sm_lt2 {f g : Nat → Int} {n j : Nat} (h : ∀ k, k < n → f k ≤ g k) (hj : j < n) (hlt : f j < g j) : sm f n < sm g n := by
  induction n with
  | zero => omega
  | succ n ih =>
    have e1 : sm f (n + 1) = sm f n + f n := rfl
    have e2 : sm g (n + 1) = sm g n + g n := rfl
    have h1 := h n (by omega)
    by_cases e : j = n
    · have h2 := sm_le2 (f := f) (g := g) (n := n) (fun k hk => h k (by omega))
      rw [e] at hlt; omega
    · have h2 := ih (fun k hk => h k (by omega)) (by omega)
      omega
theorem ahd_b (b : Nat → Int) (M n : Nat) : 0 ≤ ahd b M n ∧ ahd b M n ≤ M := by
  refine ⟨sm_nonneg (fun i _ => by split <;> omega), ?_⟩
  have := sm_le (f := fun i => if av b i n = true then 1 else 0) (n := M) (B := 1) (fun i _ => by split <;> omega)
  unfold ahd; omega
/-- the mask of the foremost j -/
def FM (b : Nat → Int) (M x j : Nat) : Prop :=
  x < 2 ^ M ∧ sm (fun i => if x.testBit i = true then 1 else 0) M = j ∧ (∀ n, n < M → x.testBit n = true → 0 < b n ∧ ∀ i, i < M → av b i n = true → x.testBit i = true)
theorem FM_end {b : Nat → Int} {M x j k : Nat} (h : FM b M x j) (hj : j = k ∨ (j ≤ k ∧ ∀ n, n < M → x.testBit n = false → b n ≤ 0)) (n : Nat) (hn : n < M) : x.testBit n = decide (0 < b n ∧ ahd b M n < k) := by
  obtain ⟨h0, h1, h2⟩ := h
  cases c : x.testBit n with
  | true =>
    refine (decide_eq_true ⟨(h2 n hn c).1, ?_⟩).symm
    have := sm_lt2 (f := fun i => if av b i n = true then 1 else 0) (g := fun i => if x.testBit i = true then 1 else 0) (n := M) (j := n) (fun i hi => by
      by_cases a : av b i n = true
      · simp only [a, (h2 n hn c).2 i hi a, if_true]; omega
      · rw [if_neg a]; split <;> omega) hn (by
      have : ¬ av b n n = true := fun z => by have := (av_iff b n n).mp z; omega
      simp only [this, c, if_true, if_false]; decide)
    unfold ahd; omega
  | false =>
    refine (decide_eq_false (fun z => ?_)).symm
    rcases hj with hj | ⟨hj, hz⟩
    · have := sm_le2 (f := fun i => if x.testBit i = true then 1 else 0) (g := fun i => if av b i n = true then 1 else 0) (n := M) (fun i hi => by
        by_cases a : x.testBit i = true
        · have : av b i n = true := by
            rw [av_iff]
            have hne : i ≠ n := fun e => by rw [e, c] at a; exact absurd a (by decide)
            by_cases a2 : av b n i = true
            · have := (h2 i hi a).2 n hn a2
              rw [c] at this; exact absurd this (by decide)
            · rw [av_iff] at a2; omega
          simp only [a, this, if_true]; omega
        · rw [if_neg a]; split <;> omega)
      unfold ahd at z; omega
    · have := hz n hn c; omega
theorem FM_add {b : Nat → Int} {M x j v : Nat} (h : FM b M x j) (hv : v < M) (hx : x.testBit v = false) (hb : 0 < b v) (hm : ∀ i, i < M → x.testBit i = false → ¬ av b i v = true) : FM b M (x ||| 2 ^ v) (j + 1) := by
  obtain ⟨h0, h1, h2⟩ := h
  have tb : ∀ i, (x ||| 2 ^ v).testBit i = (x.testBit i || decide (i = v)) := fun i => by
    rw [Nat.testBit_or]
    by_cases e : i = v
    · rw [e, Nat.testBit_two_pow_self]; simp
    · rw [Nat.testBit_two_pow_of_ne (by omega)]; simp [e]
  refine ⟨Nat.or_lt_two_pow h0 (Nat.pow_lt_pow_right (by decide) hv), ?_, fun n hn hx2 => ?_⟩
  · have e : ∀ i, i < M → (if (x ||| 2 ^ v).testBit i = true then (1 : Int) else 0) = (if x.testBit i = true then 1 else 0) + (if i = v then 1 else 0) := fun i _ => by
      rw [tb]
      by_cases e : i = v
      · rw [e, hx]; simp
      · simp [e]
    rw [sm_congr e, sm_add, h1, sm_one v 1 hv]; omega
  · rw [tb] at hx2
    refine ⟨?_, fun i hi a => ?_⟩
    · by_cases e : n = v
      · rw [e]; exact hb
      · simp [e] at hx2; exact (h2 n hn hx2).1
    · rw [tb]
      by_cases e : n = v
      · rw [e] at a
        cases c : x.testBit i with
        | true => rfl
        | false => exact absurd a (hm i hi c)
      · simp [e] at hx2
        rw [(h2 n hn hx2).2 i hi a]; rfl
theorem foremost_ok {σ : St} {m : MT} {G : GV} {o : Nat} {y : Int} {k : Nat} {post : Int32 → St → Prop} (B : Bk σ 0 G o) (hG : GB G) (n1 : gI σ 1 0 = II (m 1)) (w1 : 0 ≤ m 1 ∧ m 1 ≤ 16) (hy : -40 ≤ y ∧ y ≤ 60) (hk : k ≤ 16)
    (hp : ∀ x : Nat, x < 65536 → (∀ n, n < (m 1).toNat → x.testBit n = decide (0 < gt G (y + 40).toNat 6 n ∧ ahd (fun n => gt G (y + 40).toNat 6 n) (m 1).toNat n < k)) → (∀ n, (m 1).toNat ≤ n → x.testBit n = false) → post (II x) σ) : wpX10_foremost (II y) (II k) σ post := by
  obtain ⟨b, eb⟩ : ∃ b : Nat → Int, b = fun n => gt G (y + 40).toNat 6 n := ⟨_, rfl⟩
  have hb : ∀ n, gt G (y + 40).toNat 6 n = b n := fun n => by rw [eb]
  have bb : ∀ n, 0 ≤ b n ∧ b n ≤ 119988 := fun n => by rw [eb]; exact ⟨gt_nn hG _ _ _, gt_le hG _ _ _⟩
  simp only [hb] at hp
  have hlt : ∀ x, x < 2 ^ (m 1).toNat → x < 65536 := fun x hx => Nat.lt_of_lt_of_le hx (Nat.le_trans (Nat.pow_le_pow_right (by decide) (show (m 1).toNat ≤ 16 by omega)) (by decide))
  have fin : ∀ x j, FM b (m 1).toNat x j → (j = k ∨ (j ≤ k ∧ ∀ n, n < (m 1).toNat → x.testBit n = false → b n ≤ 0)) → post (II x) σ := fun x j h1 h2 =>
    hp x (hlt x h1.1) (fun n hn => by
      have := FM_end h1 h2 n hn
      exact this) (fun n hn => Nat.testBit_lt_two_pow (Nat.lt_of_lt_of_le h1.1 (Nat.pow_le_pow_right (by decide) hn)))
  clear hp
  unfold wpX10_foremost
  have key := up (P := fun f j => ∀ x, FM b (m 1).toNat x j → wbX10_foremost_5 post f (II y) (II k) (II x) (II j) σ) k ?_ ?_ 0 (by omega)
  · obtain ⟨f, hf⟩ := key
    exact ⟨f, hf 0 ⟨Nat.pow_pos (by decide), by rw [sm_zero (fun i _ => by simp)]; rfl, fun n _ z => absurd z (by simp)⟩⟩
  · intro f x hx
    simp (disch := omega) only [wbX10_foremost_5, I_le]
    exact ⟨fun _ => fin x k hx (Or.inl rfl), fun z => absurd (Int.le_refl _) z⟩
  · intro f j hj ih x hx
    have x16 := hlt x hx.1
    simp (disch := omega) only [wbX10_foremost_5, I_le]
    refine ⟨fun z => absurd z (by omega), fun _ => ?_⟩
    have k2 := up (P := fun g i => ∀ v : Int, -1 ≤ v → v < i → (v = -1 → ∀ n, n < i → x.testBit n = false → b n ≤ 0) → (v ≠ -1 → x.testBit v.toNat = false ∧ 0 < b v.toNat ∧ ∀ n, n < i → x.testBit n = false → ¬ av b n v.toNat = true) → wbX10_foremost_20 (wbX10_foremost_5 post f) post g (II y) (II k) (II x) (II j) (II v) (II (if v = -1 then 0 else b v.toNat)) (II i) σ) (m 1).toNat ?_ ?_ 0 (by omega)
    · obtain ⟨g, hg⟩ := k2
      exact ⟨g, hg (-1) (by omega) (by omega) (fun _ n hn => absurd hn (by omega)) (fun z => absurd rfl z)⟩
    · intro g v v1 v2 v3 v4
      simp (disch := omega) only [wbX10_foremost_20, n1, I_le, I_lit, I_neg, I_eq, fe, I_add]
      refine ⟨fun _ => ⟨fun q => ?_, fun q => fin x j hx (Or.inr ⟨by omega, v3 q⟩)⟩, fun z => absurd (by omega) z⟩
      obtain ⟨a1, a2, a3⟩ := v4 q
      have := ih (x ||| 2 ^ v.toNat) (FM_add hx (by omega) a1 a2 a3)
      have sh := I_shl1 v.toNat (by omega)
      rw [show ((v.toNat : Nat) : Int) = v by omega] at sh
      rw [sh, I_or]
      exact this
    · intro g i hi ih2 v v1 v2 v3 v4
      have bi := bb i
      have bv := bb v.toNat
      simp (disch := omega) only [wbX10_foremost_20, n1, I_le, I_lit, I_tb0, fe, I_add]
      refine ⟨fun z => absurd z (by omega), fun _ => cin_ok B (by omega) hy ?_⟩
      rw [hb]
      refine ⟨fun q => ih2 v v1 (by omega) (fun e n hn hx2 => ?_) (fun e => ⟨(v4 e).1, (v4 e).2.1, fun n hn hx2 => ?_⟩), fun q => ?_⟩
      · by_cases en : n = i
        · rw [en] at hx2; exact absurd hx2 q
        · exact v3 e n (by omega) hx2
      · by_cases en : n = i
        · rw [en] at hx2; exact absurd hx2 q
        · exact (v4 e).2.2 n (by omega) hx2
      · by_cases e : v = -1
        · rw [if_pos e, I_le (by omega)]
          rw [e]
          refine ⟨fun q2 => ?_, fun q2 => ?_⟩
          · have := ih2 (-1) (by omega) (by omega) (fun _ n hn hx2 => by
              by_cases en : n = i
              · rw [en]; exact q2
              · exact v3 e n (by omega) hx2) (fun z => absurd rfl z)
            exact this
          · have := ih2 i (by omega) (by omega) (fun z => by omega) (fun _ => by
              rw [Int.toNat_natCast]
              refine ⟨q, by omega, fun n hn hx2 => fun z => ?_⟩
              rw [av_iff] at z
              by_cases en : n = i
              · rw [en] at z; omega
              · have := v3 e n (by omega) hx2
                omega)
            rw [if_neg (by omega), Int.toNat_natCast] at this
            exact this
        · rw [if_neg e, I_le (by omega)]
          obtain ⟨a1, a2, a3⟩ := v4 e
          refine ⟨fun q2 => ?_, fun q2 => ?_⟩
          · have := ih2 v v1 (by omega) (fun z => absurd z e) (fun _ => ⟨a1, a2, fun n hn hx2 => by
              by_cases en : n = i
              · rw [en, av_iff]; omega
              · exact a3 n (by omega) hx2⟩)
            rw [if_neg e] at this
            exact this
          · have := ih2 i (by omega) (by omega) (fun z => by omega) (fun _ => by
              rw [Int.toNat_natCast]
              refine ⟨q, by omega, fun n hn hx2 => fun z => ?_⟩
              rw [av_iff] at z
              by_cases en : n = i
              · rw [en] at z; omega
              · have := a3 n (by omega) hx2
                rw [av_iff] at this
                omega)
            rw [if_neg (by omega), Int.toNat_natCast] at this
            exact this
theorem aheadOf_ok {σ : St} {m : MT} {G : GV} {y : Int} {n : Nat} {post : Int32 → St → Prop} (hR : RG σ G) (hG : GB G) (hM : RM σ m) (w1 : 0 ≤ m 1 ∧ m 1 ≤ 16) (hy : -40 ≤ y ∧ y ≤ 60) (hn : (n : Int) < m 1)
    (hp : post (II (ahd (fun n => gt G (y + 40).toNat 6 n) (m 1).toNat n)) σ) : wpX12_aheadOf (II y) (II n) σ post := by
  have e1 : gI σ 76 1 = II (m 1) := hM 1
  obtain ⟨b, eb⟩ : ∃ b : Nat → Int, b = fun n => gt G (y + 40).toNat 6 n := ⟨_, rfl⟩
  have bb : ∀ n, 0 ≤ b n ∧ b n ≤ 119988 := fun n => by rw [eb]; exact ⟨gt_nn hG _ _ _, gt_le hG _ _ _⟩
  have al : ∀ (i : Nat) (post : Int32 → St → Prop), i < 16 → post (II (b i)) σ → wpX12_all (II y) (II i) σ post := fun i post hi hq => all_ok hR hi (by omega) (by rw [if_neg (by omega)]; rw [eb] at hq; exact hq)
  rw [← eb] at hp
  unfold wpX12_aheadOf
  refine up (P := fun f i => wbX12_aheadOf_5 post f (II y) (II n) (II (ahd b i n)) (II i) σ) (m 1).toNat ?_ ?_ 0 (by omega)
  · intro f
    simp (disch := omega) only [wbX12_aheadOf_5, I_lit, I_in, true_and, I_cl, Int.reduceToNat, e1, I_le]
    exact ⟨fun _ => hp, fun z => absurd (by omega) z⟩
  · intro f i hi ih
    have es : ahd b (i + 1) n = ahd b i n + (if av b i n = true then 1 else 0) := rfl
    rw [es] at ih
    have bi := bb i
    have bn := bb n
    have yes : (b n < b i ∨ (b i = b n ∧ i < n)) → wbX12_aheadOf_5 post f (II y) (II n) (II (ahd b i n + 1)) (II ((i : Int) + 1)) σ := fun z => by
      rw [if_pos ((av_iff b i n).mpr z)] at ih; exact ih
    have no : ¬ (b n < b i ∨ (b i = b n ∧ i < n)) → wbX12_aheadOf_5 post f (II y) (II n) (II (ahd b i n + 0)) (II ((i : Int) + 1)) σ := fun z => by
      rw [if_neg (fun q => z ((av_iff b i n).mp q))] at ih; exact ih
    simp (disch := omega) only [wbX12_aheadOf_5, I_lit, I_in, true_and, I_cl, Int.reduceToNat, e1, I_le, fe, I_add]
    refine ⟨fun z => absurd z (by omega), fun _ => al i _ (by omega) (al n _ (by omega) ?_)⟩
    rw [I_lt (by omega)]
    refine ⟨fun q => yes (Or.inl q), fun q => al i _ (by omega) (al n _ (by omega) ?_)⟩
    rw [I_eq (by omega)]
    exact ⟨fun q2 => no (by omega), fun q2 => ⟨fun q3 => no (by omega), fun q3 => yes (Or.inr ⟨q2, by omega⟩)⟩⟩
theorem turnover_ok {σ : St} (h : Inv σ) (a b : Int32) : wpX11_turnover a b σ (fun r τ => wpX12_turnover a b τ (Q2 r)) := by
  obtain ⟨m, mi, U, T, hA, hB⟩ := id h
  obtain ⟨y, y1, y2, rfl⟩ := I_of a
  obtain ⟨k, k1, k2, rfl⟩ := I_of b
  have hM := hA.1
  have hW := hA.2.2.1
  have w0 := hW.1
  have w1 := hW.2.1
  have e9 := hB.2.2.1.1
  have ref0 : ¬ ((0 ≤ y ∧ y < m 0) ∧ (1 ≤ k ∧ k ≤ 16)) → wpX12_turnover (II y) (II k) σ (Q2 (II (-1))) := by
    intro hz
    unfold wpX12_turnover
    refine isGone_ok hM w0 (by omega) (fun q => t1 ?_) (fun q => t0 ⟨rfl, h⟩)
    exact in_ok (b := 1) (c := 16) (by omega) (fun q2 => absurd ⟨q, q2⟩ hz) (fun q2 => s0 ⟨rfl, h⟩)
  unfold wpX11_turnover
  refine wentBy_ok e9 w0 (by omega) (fun z => t1 ?_) (fun z => t0 (ref0 (fun q => z q.1)))
  refine wi_ok (b := 1) (c := 16) (by omega) (fun z2 => s1 ?_) (fun z2 => s0 (ref0 (fun q => z2 q.2)))
  obtain ⟨K, rfl⟩ : ∃ K : Nat, k = K := ⟨k.toNat, by omega⟩
  have hG : GB (run (KK m U T) (m 0).toNat) := GC_GB (run_GC (K := KK m U T) hW _).1
  refine foremost_ok hB.2.2.2.2.1 hG hB.1.1 w1 (by omega) (by omega) ?_
  intro x x1 x2 x3
  rw [show (1 : Int32) = II 1 from rfl, I_sub]
  refine foremost_ok hB.2.2.2.2.1 hG hB.1.1 w1 (by omega) (by omega) ?_
  intro u u1 u2 u3
  rw [I_neg, I_andn x1]
  have dlt : x &&& (u ^^^ 65535) < 65536 := Nat.lt_of_le_of_lt Nat.and_le_left x1
  have dtb : ∀ i, i < 16 → (x &&& (u ^^^ 65535)).testBit i = (x.testBit i && !u.testBit i) := fun i hi => by
    rw [show 65535 = 2 ^ 16 - 1 from rfl, Nat.testBit_and, Nat.testBit_xor, Nat.testBit_two_pow_sub_one]
    simp [hi]
  refine bitCount_ok dlt ?_
  generalize hd : x &&& (u ^^^ 65535) = d at *
  have hcut : ∀ j, pc d ((m 1).toNat + j) = pc d (m 1).toNat ∨ 16 < (m 1).toNat + j := fun j => by
    induction j with
    | zero => exact Or.inl rfl
    | succ j ih =>
      rcases ih with ih | ih
      · by_cases c : (m 1).toNat + j < 16
        · left
          show pc d ((m 1).toNat + j) + (if d.testBit ((m 1).toNat + j) = true then 1 else 0) = _
          rw [dtb _ c, x3 _ (by omega), ih]; rfl
        · right; omega
      · right; omega
  have h16 : pc d 16 = pc d (m 1).toNat := by
    rcases hcut (16 - (m 1).toNat) with c | c
    · rw [show (m 1).toNat + (16 - (m 1).toNat) = 16 by omega] at c; exact c
    · omega
  rw [h16]
  clear hd hcut h16 dlt
  unfold wpX12_turnover
  refine isGone_ok hM w0 (by omega) (fun _ => t1 ?_) (fun q => absurd z q)
  refine in_ok (b := 1) (c := 16) (by omega) (fun _ => s1 ?_) (fun q => absurd z2 q)
  refine runsAll_ok hA hB ?_
  intro τ tR tG tn
  have tA := SR_A hA tR
  have tI := SR_I h tR
  have e1 : gI τ 76 1 = II (m 1) := tA.1 1
  refine up (P := fun f i => wbX12_turnover_29 (Q2 (II (pc d (m 1).toNat : Nat))) f (II y) (II K) (II (pc d i : Nat)) (II i) τ) (m 1).toNat ?_ ?_ 0 (by omega)
  · intro f
    simp (disch := omega) only [wbX12_turnover_29, I_lit, I_in, true_and, I_cl, Int.reduceToNat, e1, I_le]
    exact ⟨fun _ => ⟨rfl, tI⟩, fun q => absurd (by omega) q⟩
  · intro f i hi ih
    have es : pc d (i + 1) = pc d i + (if d.testBit i = true then 1 else 0) := rfl
    have eb := dtb i (by omega)
    rw [es, eb, x2 i hi, u2 i hi] at ih
    have gb := gt_nn hG (y + 40).toNat 6 i
    have gb2 := gt_le hG (y + 40).toNat 6 i
    have gc := gt_nn hG (y - 1 + 40).toNat 6 i
    have gc2 := gt_le hG (y - 1 + 40).toNat 6 i
    have ab := ahd_b (fun n => gt (run (KK m U T) (m 0).toNat) (y + 40).toNat 6 n) (m 1).toNat i
    have ac := ahd_b (fun n => gt (run (KK m U T) (m 0).toNat) (y - 1 + 40).toNat 6 n) (m 1).toNat i
    have iTT : (0 < gt (run (KK m U T) (m 0).toNat) (y + 40).toNat 6 i ∧ ahd (fun n => gt (run (KK m U T) (m 0).toNat) (y + 40).toNat 6 n) (m 1).toNat i < (K : Int)) → (0 < gt (run (KK m U T) (m 0).toNat) (y - 1 + 40).toNat 6 i ∧ ahd (fun n => gt (run (KK m U T) (m 0).toNat) (y - 1 + 40).toNat 6 n) (m 1).toNat i < (K : Int)) → wbX12_turnover_29 (Q2 (II (pc d (m 1).toNat : Nat))) f (II y) (II K) (II ((pc d i : Int) + 0)) (II ((i : Int) + 1)) τ := fun c1 c2 => by
      rw [decide_eq_true c1, decide_eq_true c2] at ih; exact ih
    have iTF : (0 < gt (run (KK m U T) (m 0).toNat) (y + 40).toNat 6 i ∧ ahd (fun n => gt (run (KK m U T) (m 0).toNat) (y + 40).toNat 6 n) (m 1).toNat i < (K : Int)) → ¬ (0 < gt (run (KK m U T) (m 0).toNat) (y - 1 + 40).toNat 6 i ∧ ahd (fun n => gt (run (KK m U T) (m 0).toNat) (y - 1 + 40).toNat 6 n) (m 1).toNat i < (K : Int)) → wbX12_turnover_29 (Q2 (II (pc d (m 1).toNat : Nat))) f (II y) (II K) (II ((pc d i : Int) + 1)) (II ((i : Int) + 1)) τ := fun c1 c2 => by
      rw [decide_eq_true c1, decide_eq_false c2] at ih; exact ih
    have iF : ¬ (0 < gt (run (KK m U T) (m 0).toNat) (y + 40).toNat 6 i ∧ ahd (fun n => gt (run (KK m U T) (m 0).toNat) (y + 40).toNat 6 n) (m 1).toNat i < (K : Int)) → wbX12_turnover_29 (Q2 (II (pc d (m 1).toNat : Nat))) f (II y) (II K) (II ((pc d i : Int) + 0)) (II ((i : Int) + 1)) τ := fun c1 => by
      rw [decide_eq_false c1] at ih; exact ih
    have c98 : ∀ p q : Prop, [Decidable p] → [Decidable q] → (p = (0 < gt (run (KK m U T) (m 0).toNat) (y + 40).toNat 6 i ∧ ahd (fun n => gt (run (KK m U T) (m 0).toNat) (y + 40).toNat 6 n) (m 1).toNat i < (K : Int))) → (q = (0 < gt (run (KK m U T) (m 0).toNat) (y - 1 + 40).toNat 6 i ∧ ahd (fun n => gt (run (KK m U T) (m 0).toNat) (y - 1 + 40).toNat 6 n) (m 1).toNat i < (K : Int))) → wbX12_turnover_98 (wbX12_turnover_29 (Q2 (II (pc d (m 1).toNat : Nat))) f) (Q2 (II (pc d (m 1).toNat : Nat))) (II y) (II K) (II (pc d i : Nat)) (II i) (II (if p then 1 else 0)) (II (if q then 1 else 0)) τ := by
      intro p q dp dq ep eq
      subst ep eq
      by_cases c1 : 0 < gt (run (KK m U T) (m 0).toNat) (y + 40).toNat 6 i ∧ ahd (fun n => gt (run (KK m U T) (m 0).toNat) (y + 40).toNat 6 n) (m 1).toNat i < (K : Int)
      · by_cases c2 : 0 < gt (run (KK m U T) (m 0).toNat) (y - 1 + 40).toNat 6 i ∧ ahd (fun n => gt (run (KK m U T) (m 0).toNat) (y - 1 + 40).toNat 6 n) (m 1).toNat i < (K : Int)
        · rw [if_pos c1, if_pos c2]
          simp only [wbX12_turnover_98, fe, I_lit, I_add]
          exact t1 (s1 (iTT c1 c2))
        · rw [if_pos c1, if_neg c2]
          simp only [wbX12_turnover_98, fe, I_lit, I_add]
          exact t1 ⟨fun z => absurd trivial z, fun _ => iTF c1 c2⟩
      · rw [if_neg c1]
        simp only [wbX12_turnover_98, fe, I_lit, I_add]
        exact ⟨fun _ => iF c1, fun z => absurd trivial z⟩
    have c66 : ∀ p : Prop, [Decidable p] → (p = (0 < gt (run (KK m U T) (m 0).toNat) (y + 40).toNat 6 i ∧ ahd (fun n => gt (run (KK m U T) (m 0).toNat) (y + 40).toNat 6 n) (m 1).toNat i < (K : Int))) → wbX12_turnover_66 (wbX12_turnover_29 (Q2 (II (pc d (m 1).toNat : Nat))) f) (Q2 (II (pc d (m 1).toNat : Nat))) (II y) (II K) (II (pc d i : Nat)) (II i) (II (if p then 1 else 0)) τ := by
      intro p dp ep
      simp only [wbX12_turnover_66, I_lit, I_sub]
      refine all_ok tG (by omega) (by omega) ?_
      rw [if_neg (show ¬ (y - 1 < -40) by omega), I_le (by omega)]
      refine ⟨fun q => ?_, fun q => aheadOf_ok tG hG tA.1 w1 (by omega) (by omega) ?_⟩
      · exact c98 p False ep (propext ⟨fun z => z.elim, fun z => by omega⟩)
      · rw [I_le (by omega)]
        refine ⟨fun q2 => ?_, fun q2 => ?_⟩
        · exact c98 p False ep (propext ⟨fun z => z.elim, fun z => by omega⟩)
        · exact c98 p True ep (propext ⟨fun _ => ⟨by omega, by omega⟩, fun _ => trivial⟩)
    simp (disch := omega) only [wbX12_turnover_29, I_lit, I_in, true_and, I_cl, Int.reduceToNat, e1, I_le]
    refine ⟨fun q => absurd q (by omega), fun _ => all_ok tG (by omega) (by omega) ?_⟩
    rw [if_neg (show ¬ (y < -40) by omega), I_le (by omega)]
    refine ⟨fun q => ?_, fun q => aheadOf_ok tG hG tA.1 w1 (by omega) (by omega) ?_⟩
    · exact c66 False (propext ⟨fun z => z.elim, fun z => by omega⟩)
    · rw [I_le (by omega)]
      refine ⟨fun q2 => ?_, fun q2 => ?_⟩
      · exact c66 False (propext ⟨fun z => z.elim, fun z => by omega⟩)
      · exact c66 True (propext ⟨fun _ => ⟨by omega, by omega⟩, fun _ => trivial⟩)
