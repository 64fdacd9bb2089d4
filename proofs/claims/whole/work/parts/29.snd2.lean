def la (u : Nat) : Nat → Nat
  | 0 => 0
  | k + 1 => so (le u k)
def sc (u : Nat) : Nat → Nat
  | 0 => 0
  | k + 1 => if so (le u k) = la u k then sc u k else sc u k + 1
def sq (u : Nat) : Nat → Nat → Nat
  | 0 => fun _ => 0
  | k + 1 => if so (le u k) = la u k then sq u k else fun j => if j = sc u k then so (le u k) else sq u k j
def SC (u : Nat) : Nat := sc u (nl u)
def SN (u : Nat) : Nat → Nat := sq u (nl u)
theorem sc_le (u k : Nat) : sc u k ≤ k := by
  induction k with
  | zero => exact Nat.le_refl _
  | succ k ih => simp only [sc]; split <;> omega
theorem good_le {u : Nat} (g : good u) {k : Nat} (hk : k < nl u) : 1 ≤ le u k ∧ le u k < 27 := by
  have := (nl_spec u).2.1 k hk
  exact ⟨by omega, g.2.2.2 k hk⟩
theorem good_lt {u : Nat} (g : good u) : u < 2 ^ 50 := Nat.lt_of_lt_of_le g.2.2.1 (Nat.pow_le_pow_right (by decide) (by have := g.2.1; omega))
theorem sq_in {u : Nat} (g : good u) : ∀ k, k ≤ nl u → ∀ j, j < sc u k → 1 ≤ sq u k j ∧ sq u k j < 20 := by
  intro k
  induction k with
  | zero => intro _ j hj; simp only [sc] at hj; omega
  | succ k ih =>
    intro hk j hj
    have gl := good_le g (show k < nl u by omega)
    have s1 := so_in (le u k) gl.2 gl.1
    simp only [sc] at hj
    simp only [sq]
    split
    · rename_i h; rw [if_pos h] at hj; exact ih (by omega) j hj
    · rename_i h
      rw [if_neg h] at hj
      by_cases e : j = sc u k
      · simp only [e, if_true]; omega
      · simp only [e, if_false]; exact ih (by omega) j (by omega)
theorem SN_in {u : Nat} (g : good u) : SC u ≤ 10 ∧ ∀ j, j < SC u → 1 ≤ SN u j ∧ SN u j < 20 := ⟨by have := sc_le u (nl u); have := g.2.1; unfold SC; omega, sq_in g _ (Nat.le_refl _)⟩
theorem pkq_congr {s t : Nat → Nat} {c : Nat} (h : ∀ j, j < c → s j = t j) : pkq s c = pkq t c := by
  induction c with
  | zero => rfl
  | succ c ih => show pkq s c + s c * _ = pkq t c + t c * _; rw [ih (fun j hj => h j (by omega)), h c (by omega)]
theorem soundsOf_ok {σ : St} {u : Nat} {post : Int64 → St → Prop} (g : good u) (hp : post (lN (pkq (SN u) (SC u))) σ) : wpX12_soundsOf (lN u) σ post := by
  have hu := good_lt g
  have h10 := g.2.1
  unfold wpX12_soundsOf
  refine up (P := fun f i => wbX12_soundsOf_11 post f (lN u) (lN (pkq (sq u i) (sc u i))) (II (sc u i)) (II (la u i)) (II i) σ) (nl u) ?_ ?_ 0 (by omega)
  · intro f
    simp only [wbX12_soundsOf_11]
    refine size_ok (by omega) ?_
    simp (disch := omega) only [I_le]
    exact ⟨fun _ => hp, fun z => absurd (by omega) z⟩
  · intro f i hi ih
    have gl := good_le g hi
    have s1 := so_in (le u i) gl.2 gl.1
    have hla : la u i < 20 := by
      cases i with
      | zero => simp only [la]; omega
      | succ i => have gl2 := good_le g (show i < nl u by omega); have := so_in (le u i) gl2.2 gl2.1; simp only [la]; omega
    have hsc := sc_le u i
    simp only [wbX12_soundsOf_11]
    refine size_ok (by omega) ?_
    simp (disch := omega) only [I_le]
    refine ⟨fun z => absurd z (by omega), fun _ => ?_⟩
    refine rletterAt_ok (by omega) (by omega) ?_
    refine sounds_ok gl.2 gl.1 ?_
    have ih' := ih
    simp only [sq, sc] at ih'
    rw [show la u (i + 1) = so (le u i) from rfl] at ih'
    have e5 : (5 : Int32) * II (sc u i : Int) = II ((5 * sc u i : Nat) : Int) := by rw [I_lit, I_mul]; rfl
    have ex : (II (so (le u i) : Int)).toInt64 = lN (so (le u i)) := by rw [I_wide (by omega), L_lN]
    simp (disch := omega) only [I_eq, fe]
    refine ⟨fun z => ?_, fun z => ?_⟩
    · have z' : so (le u i) = la u i := by omega
      rw [if_pos z', if_pos z'] at ih'
      rw [I_lit, I_add]
      exact ih'
    · have z' : ¬ so (le u i) = la u i := by omega
      rw [if_neg z', if_neg z'] at ih'
      have hpl := pkq_lt (s := sq u i) (c := sc u i) (fun j hj => by have := sq_in g i (by omega) j hj; omega)
      rw [e5, ex, L_shl _ (by omega)]
      have hb : pkq (sq u i) (sc u i) + so (le u i) * 2 ^ (5 * sc u i) < 2 ^ 64 := by
        have a1 : 2 ^ (5 * sc u i) ≤ 2 ^ 45 := Nat.pow_le_pow_right (by decide) (by omega)
        have a2 : so (le u i) * 2 ^ (5 * sc u i) ≤ 19 * 2 ^ 45 := Nat.mul_le_mul s1.2 a1
        omega
      rw [g_or' rfl hpl hb, I_lit, I_add, I_add]
      have e : pkq (fun j => if j = sc u i then so (le u i) else sq u i j) (sc u i + 1) = pkq (sq u i) (sc u i) + so (le u i) * 2 ^ (5 * sc u i) := by
        show pkq _ (sc u i) + (if sc u i = sc u i then so (le u i) else _) * _ = _
        rw [if_pos rfl, pkq_congr (t := sq u i) (fun j hj => if_neg (by omega))]
      rw [e] at ih'
      exact ih'
theorem areAlike_ok {σ : St} {u v : Nat} {post : Int32 → St → Prop} (g : good u) (g2 : good v) (hp : post (II (if alb (SN u) (SC u) (SN v) (SC v) then 1 else 0)) σ) : wpX12_areAlike (lN u) (lN v) σ post := by
  obtain ⟨a10, hs⟩ := SN_in g
  obtain ⟨b10, ht⟩ := SN_in g2
  have hs32 : ∀ j, j < SC u → SN u j < 32 := fun j hj => by have := hs j hj; omega
  have ht32 : ∀ j, j < SC v → SN v j < 32 := fun j hj => by have := ht j hj; omega
  have hx := pkq_lt hs32
  have hy := pkq_lt ht32
  have na := nl_pkq (s := SN u) (c := SC u) (by omega) (fun j hj => by have := hs j hj; omega)
  have nb := nl_pkq (s := SN v) (c := SC v) (by omega) (fun j hj => by have := ht j hj; omega)
  unfold wpX12_areAlike
  refine soundsOf_ok g ?_
  refine soundsOf_ok g2 ?_
  generalize SN u = s at *
  generalize SN v = t at *
  generalize SC u = a at *
  generalize SC v = b at *
  have x50 : pkq s a < 2 ^ 50 := Nat.lt_of_lt_of_le hx (Nat.pow_le_pow_right (by decide) (by omega))
  have y50 : pkq t b < 2 ^ 50 := Nat.lt_of_lt_of_le hy (Nat.pow_le_pow_right (by decide) (by omega))
  refine size_ok (by omega) ?_
  refine size_ok (by omega) ?_
  rw [na, nb]
  have leq : ∀ m n : Nat, m < 2 ^ 63 → n < 2 ^ 63 → (lN m = lN n ↔ m = n) := fun m n h1 h2 => pk_lEQ h1 h2
  have hers : ∀ k, k < a → ∀ j, j < a - 1 → er s k j < 32 := fun k hk j hj => by unfold er; split; exact hs32 j (by omega); exact hs32 _ (by omega)
  have hert : ∀ k, k < b → ∀ j, j < b - 1 → er t k j < 32 := fun k hk j hj => by unfold er; split; exact ht32 j (by omega); exact ht32 _ (by omega)
  have ws : ∀ k, k < a → pkq (er s k) (a - 1) < 2 ^ 63 := fun k hk => Nat.lt_of_lt_of_le (pkq_lt (hers k hk)) (Nat.pow_le_pow_right (by decide) (by omega))
  have wt : ∀ k, k < b → pkq (er t k) (b - 1) < 2 ^ 63 := fun k hk => Nat.lt_of_lt_of_le (pkq_lt (hert k hk)) (Nat.pow_le_pow_right (by decide) (by omega))
  let cd : Nat → Prop := fun k => (a = b ∧ k < a ∧ ∀ i, i < a - 1 → er s k i = er t k i) ∨ (a = b + 1 ∧ k < a ∧ ∀ i, i < b → er s k i = t i) ∨ (b = a + 1 ∧ k < b ∧ ∀ i, i < a → er t k i = s i)
  let F : Nat → Prop := fun i => (a = b ∧ ∀ i, i < a → s i = t i) ∨ ∃ k, k < i ∧ cd k
  have heq : pkq s a = pkq t b ↔ (a = b ∧ ∀ i, i < a → s i = t i) := by
    constructor
    · intro e
      have hab : a = b := by rw [← na, ← nb, e]
      subst hab
      exact ⟨rfl, (pkq_inj hs32 ht32).mp e⟩
    · intro e
      obtain ⟨hab, e⟩ := e
      subst hab
      exact (pkq_inj hs32 ht32).mpr e
  have loop : ∀ d : Int, (d = 0 ∧ ¬ F 0) ∨ (d = 1 ∧ F 0) → ∃ f, wbX12_areAlike_44 post f (lN (pkq s a)) (lN (pkq t b)) (II a) (II b) (II d) (II 0) σ := by
    intro d0 hd0
    have key := up (P := fun f i => ∀ d : Int, (d = 0 ∧ ¬ F i) ∨ (d = 1 ∧ F i) → wbX12_areAlike_44 post f (lN (pkq s a)) (lN (pkq t b)) (II a) (II b) (II d) (II i) σ) 10 ?_ ?_ 0 (by omega)
    · obtain ⟨f, hf⟩ := key
      exact ⟨f, hf d0 hd0⟩
    · intro f d hd
      have hd' : d = 0 ∨ d = 1 := by rcases hd with ⟨h, _⟩ | ⟨h, _⟩ <;> omega
      simp (disch := omega) only [wbX12_areAlike_44, I_lit, I_le, I_eq]
      refine ⟨fun _ => ⟨hd', ?_⟩, fun z => absurd (by omega) z⟩
      have hAL : F 10 ↔ AL s a t b := Iff.rfl
      rcases hd with ⟨h, hF⟩ | ⟨h, hF⟩
      · have : alb s a t b = false := by
          cases hh : alb s a t b with
          | false => rfl
          | true => exact absurd ((alb_iff s a t b).mp hh) hF
        rw [this] at hp; rw [h]; exact hp
      · rw [(alb_iff s a t b).mpr hF] at hp; rw [h]; exact hp
    · intro f i hi ih d hd
      have yes : F (i + 1) → wbX12_areAlike_44 post f (lN (pkq s a)) (lN (pkq t b)) (II a) (II b) (II 1) (II ((i : Int) + 1)) σ := fun h => ih 1 (Or.inr ⟨rfl, h⟩)
      have no : ¬ F (i + 1) → wbX12_areAlike_44 post f (lN (pkq s a)) (lN (pkq t b)) (II a) (II b) (II 0) (II ((i : Int) + 1)) σ := fun h => ih 0 (Or.inl ⟨rfl, h⟩)
      have fin : ∀ e : Int, (e = 1 ∧ F (i + 1)) ∨ (e = 0 ∧ ¬ F i ∧ ¬ (a = b ∧ i < a ∧ ∀ j, j < a - 1 → er s i j = er t i j) ∧ ¬ (a = b + 1 ∧ i < a ∧ ∀ j, j < b → er s i j = t j)) → wbX12_areAlike_134 (wbX12_areAlike_44 post f) post (lN (pkq s a)) (lN (pkq t b)) (II a) (II b) (II i) (II e) σ := by
        intro e he
        have he' : e = 0 ∨ e = 1 := by rcases he with ⟨h, _⟩ | ⟨h, _⟩ <;> omega
        simp (disch := omega) only [wbX12_areAlike_134, I_lit, I_eq, fe, I_add, I_le]
        refine ⟨fun z => yes ?_, fun z => ?_⟩
        · rcases he with ⟨_, h⟩ | ⟨h, _⟩
          · exact h
          · exact absurd h z
        · rcases he with ⟨h, _⟩ | ⟨_, n0, n1, n2⟩
          · omega
          · have nn : ¬ (b = a + 1 ∧ i < b ∧ ∀ j, j < a → er t i j = s j) → ¬ F (i + 1) := by
              intro n3 h
              rcases h with h | ⟨k, hk, h⟩
              · exact n0 (Or.inl h)
              · by_cases ek : k = i
                · subst ek
                  rcases h with h | h | h
                  · exact n1 h
                  · exact n2 h
                  · exact n3 h
                · exact n0 (Or.inr ⟨k, by omega, h⟩)
            refine ⟨fun y => no (nn (fun w => y (by omega))), fun y => ⟨fun w => no (nn (fun q => by omega)), fun w => ?_⟩⟩
            refine without_ok b10 ht32 (by omega) ?_
            refine ⟨fun q => no (nn (fun r => q ?_)), fun q => yes (Or.inr ⟨i, by omega, Or.inr (Or.inr ⟨by omega, by omega, ?_⟩)⟩)⟩
            · rw [leq _ _ (wt i (by omega)) (by omega), show b - 1 = a by omega]
              exact (pkq_inj (fun j hj => hert i (by omega) j (by omega)) hs32).mpr r.2.2
            · rw [leq _ _ (wt i (by omega)) (by omega), show b - 1 = a by omega] at q
              exact (pkq_inj (fun j hj => hert i (by omega) j (by omega)) hs32).mp q
      have mid : ∀ e : Int, (e = 1 ∧ F (i + 1)) ∨ (e = 0 ∧ ¬ F i ∧ ¬ (a = b ∧ i < a ∧ ∀ j, j < a - 1 → er s i j = er t i j)) → wbX12_areAlike_93 (wbX12_areAlike_44 post f) post (lN (pkq s a)) (lN (pkq t b)) (II a) (II b) (II i) (II e) σ := by
        intro e he
        have he' : e = 0 ∨ e = 1 := by rcases he with ⟨h, _⟩ | ⟨h, _⟩ <;> omega
        simp (disch := omega) only [wbX12_areAlike_93, I_lit, I_eq, fe, I_add, I_le]
        refine ⟨fun z => fin 1 (Or.inl ⟨rfl, ?_⟩), fun z => ?_⟩
        · rcases he with ⟨_, h⟩ | ⟨h, _⟩
          · exact h
          · exact absurd h z
        · rcases he with ⟨h, _⟩ | ⟨_, n0, n1⟩
          · omega
          · refine ⟨fun y => fin 0 (Or.inr ⟨rfl, n0, n1, fun w => y (by omega)⟩), fun y => ⟨fun w => fin 0 (Or.inr ⟨rfl, n0, n1, fun q => by omega⟩), fun w => ?_⟩⟩
            refine without_ok a10 hs32 (by omega) ?_
            refine ⟨fun q => fin 0 (Or.inr ⟨rfl, n0, n1, fun r => q ?_⟩), fun q => fin 1 (Or.inl ⟨rfl, Or.inr ⟨i, by omega, Or.inr (Or.inl ⟨by omega, by omega, ?_⟩)⟩⟩)⟩
            · rw [leq _ _ (ws i (by omega)) (by omega), show a - 1 = b by omega]
              exact (pkq_inj (fun j hj => hers i (by omega) j (by omega)) ht32).mpr r.2.2
            · rw [leq _ _ (ws i (by omega)) (by omega), show a - 1 = b by omega] at q
              exact (pkq_inj (fun j hj => hers i (by omega) j (by omega)) ht32).mp q
      have hd' : d = 0 ∨ d = 1 := by rcases hd with ⟨h, _⟩ | ⟨h, _⟩ <;> omega
      simp (disch := omega) only [wbX12_areAlike_44, I_lit, I_le, I_eq]
      refine ⟨fun z => absurd z (by omega), fun _ => ⟨fun z => mid 1 (Or.inl ⟨rfl, ?_⟩), fun z => ?_⟩⟩
      · rcases hd with ⟨h, _⟩ | ⟨_, h⟩
        · exact absurd h z
        · rcases h with h | ⟨k, hk, h⟩
          · exact Or.inl h
          · exact Or.inr ⟨k, by omega, h⟩
      · rcases hd with ⟨_, n0⟩ | ⟨h, _⟩
        · refine ⟨fun y => mid 0 (Or.inr ⟨rfl, n0, fun w => y (by omega)⟩), fun y => ⟨fun w => mid 0 (Or.inr ⟨rfl, n0, fun q => by omega⟩), fun w => ?_⟩⟩
          have hab : a = b := by omega
          refine without_ok a10 hs32 (by omega) ?_
          refine without_ok b10 ht32 (by omega) ?_
          refine ⟨fun q => mid 0 (Or.inr ⟨rfl, n0, fun r => q ?_⟩), fun q => mid 1 (Or.inl ⟨rfl, Or.inr ⟨i, by omega, Or.inl ⟨by omega, by omega, ?_⟩⟩⟩)⟩
          · rw [leq _ _ (ws i (by omega)) (wt i (by omega)), show b - 1 = a - 1 by omega]
            exact (pkq_inj (hers i (by omega)) (fun j hj => hert i (by omega) j (by omega))).mpr r.2.2
          · rw [leq _ _ (ws i (by omega)) (wt i (by omega)), show b - 1 = a - 1 by omega] at q
            exact (pkq_inj (hers i (by omega)) (fun j hj => hert i (by omega) j (by omega))).mp q
        · omega
  have F0 : F 0 ↔ (a = b ∧ ∀ i, i < a → s i = t i) := by
    constructor
    · intro h
      rcases h with h | ⟨k, hk, _⟩
      · exact h
      · omega
    · exact Or.inl
  refine ⟨fun z => loop 0 (Or.inl ⟨rfl, fun h => z ?_⟩), fun z => loop 1 (Or.inr ⟨rfl, F0.mpr ?_⟩)⟩
  · rw [leq _ _ (by omega) (by omega)]; exact heq.mpr (F0.mp h)
  · rw [leq _ _ (by omega) (by omega)] at z; exact heq.mp z
/-! the class's sounds -/
theorem sndchar_ok {σ : St} {e : Nat} {post : Int32 → St → Prop} (he : 1 ≤ e ∧ e < 27) (hp : post (II (96 + (so e : Nat))) σ) : wpJ0_charAt_5068e 1 (II ((e : Int) - 1)) σ post := by
  have hd : ∀ i : Fin 26, (((((sByt.getD 1 []).getD i.val 0) &&& 255).toUInt32 % 65536).toInt32) = Int32.ofInt (96 + ((so (i.val + 1) : Nat) : Int)) ∧ narrow .char (.int ((((((sByt.getD 1 []).getD i.val 0) &&& 255).toUInt32 % 65536).toInt32))) = .int ((((((sByt.getD 1 []).getD i.val 0) &&& 255).toUInt32 % 65536).toInt32)) := by decide +kernel
  have h := hd ⟨e - 1, by omega⟩
  simp only [show e - 1 + 1 = e by omega] at h
  have e26 : Int32.ofNat (sLen.getD 1 0) = II 26 := rfl
  have e26' : sLen.getD 1 0 = 26 := rfl
  unfold wpJ0_charAt_5068e
  refine latin_ok ⟨fun h => absurd h (by decide), fun _ => ?_⟩
  unfold wpJ1_charAt_3b067 wpJ0_checkIndex_df160
  rw [e26, e26']
  simp (disch := omega) only [I_lit, I_lt, I_in, true_and, I_cl]
  refine ⟨by omega, by omega, ?_⟩
  rw [show ((e : Int) - 1).toNat = e - 1 by omega]
  have h1 := h.1
  have h2 := h.2
  rw [I_lit, I_lit] at h1 h2
  refine ⟨h2, ?_⟩
  rw [h1]
  exact hp
theorem hear_ok {σ : St} {u n : Nat} {post : St → Prop} (g : good u) (hn : n < 16) (h3 : gI σ 3 n = II (nl u)) (h2 : gL σ 2 n = lN u)
    (hp : ∀ τ, Eqx [7, 8] σ τ → gI τ 8 n = II (SC u) → (∀ i, i ≠ n → gI τ 8 i = gI σ 8 i) → (∀ j, j < SC u → gI τ 7 (n * 10 + j) = II (96 + (SN u j : Nat))) → (∀ i, i ≠ n → ∀ j, j < 10 → gI τ 7 (i * 10 + j) = gI σ 7 (i * 10 + j)) → post τ) : wpX5_hear (II n) σ post := by
  have hu := good_lt g
  have h10 := g.2.1
  unfold wpX5_hear
  have key := up (P := fun f k => ∀ τ : St, Eqx [7] σ τ → (∀ j, j < sc u k → gI τ 7 (n * 10 + j) = II (96 + (sq u k j : Nat))) → (∀ i, i ≠ n → ∀ j, j < 10 → gI τ 7 (i * 10 + j) = gI σ 7 (i * 10 + j)) → wbX5_hear_7 post f (II n) (II (sc u k)) (II (if k = 0 then 0 else 96 + (la u k : Nat))) (II k) τ) (nl u) ?_ ?_ 0 (by omega)
  · obtain ⟨f, hf⟩ := key
    exact ⟨f, hf σ (Eqx.refl _ _) (fun j hj => by simp only [sc] at hj; omega) (fun _ _ _ _ => rfl)⟩
  · intro f τ tE t7 to
    have e3 : gI τ 3 n = II (nl u) := by rw [Eqx_gI tE (by simp)]; exact h3
    simp (disch := omega) only [wbX5_hear_7, I_in, true_and, I_cl, Int.toNat_natCast, e3, I_le, fe]
    refine ⟨fun _ => ?_, fun z => absurd (by omega) z⟩
    refine hp _ (Eqx_tI (Eqx.mono tE (by simp)) (by simp)) rI1 (fun i hi => by rw [rI3 hi, Eqx_gI tE (by simp)]) (fun j hj => by rw [rI2 (by omega)]; exact t7 j hj) (fun i hi j hj => by rw [rI2 (by omega)]; exact to i hi j hj)
  · intro f k hk ih τ tE t7 to
    have e3 : gI τ 3 n = II (nl u) := by rw [Eqx_gI tE (by simp)]; exact h3
    have e2 : gL τ 2 n = lN u := by rw [Eqx_gL tE (by simp)]; exact h2
    have gl := good_le g hk
    have s1 := so_in (le u k) gl.2 gl.1
    have hsc := sc_le u k
    have hla : la u k < 20 := by
      cases k with
      | zero => simp only [la]; omega
      | succ i => have gl2 := good_le g (show i < nl u by omega); have := so_in (le u i) gl2.2 gl2.1; simp only [la]; omega
    have hlv : ∃ L : Int, L = (if k = 0 then 0 else 96 + ((la u k : Nat) : Int)) ∧ 0 ≤ L ∧ L < 200 ∧ (96 + ((so (le u k) : Nat) : Int) = L ↔ so (le u k) = la u k) := by
      refine ⟨_, rfl, ?_⟩
      by_cases e : k = 0
      · subst e; simp only [if_true, la]; omega
      · rw [if_neg e]; omega
    obtain ⟨L, hL, L0, L1, L2⟩ := hlv
    rw [← hL]
    have ih' := ih
    simp only [sq, sc] at ih'
    rw [show la u (k + 1) = so (le u k) from rfl] at ih'
    simp (disch := omega) only [wbX5_hear_7, I_in, true_and, I_cl, Int.toNat_natCast, e3, I_le, e2]
    refine ⟨fun z => absurd z (by omega), fun _ => ?_⟩
    refine cletterAt_ok (by omega) (by omega) ?_
    simp (disch := omega) only [fe, I_lit, I_sub, I_lt]
    refine ⟨fun z => absurd z (by omega), fun _ => ?_⟩
    refine slen_ok (N := 26) rfl ?_
    simp (disch := omega) only [I_le]
    refine ⟨fun z => absurd z (by omega), fun _ => ?_⟩
    rw [show (96 + ((le u k : Nat) : Int)) - 97 = ((le u k : Nat) : Int) - 1 by omega]
    refine sndchar_ok gl ?_
    simp (disch := omega) only [I_eq, I_add, I_mul, I_in, true_and, I_cl]
    refine ⟨fun z => ?_, fun z => ?_⟩
    · have z' := L2.mp z
      rw [if_pos z', if_pos z', if_neg (by omega)] at ih'
      rw [← z]
      exact ih' τ tE t7 to
    · have z' : ¬ so (le u k) = la u k := fun w => z (L2.mpr w)
      rw [if_neg z', if_neg z', if_neg (by omega)] at ih'
      rw [show ((n : Int) * 10 + (sc u k : Nat)).toNat = n * 10 + sc u k by omega]
      refine ih' _ (Eqx_tI tE (by simp)) (fun j hj => ?_) (fun i hi j hj => ?_)
      · by_cases e : j = sc u k
        · subst e; rw [rI1, if_pos rfl]
        · rw [rI3 (by omega), if_neg e]; exact t7 j (by omega)
      · rw [rI3 (by omega)]; exact to i hi j hj
theorem akin_ok {σ : St} {i j a b : Nat} {s t : Nat → Nat} {post : Int32 → St → Prop} (hi : i < 16) (hj : j < 16) (ha : a ≤ 10) (hb : b ≤ 10) (h8 : gI σ 8 i = II a) (h8' : gI σ 8 j = II b) (hs : ∀ k, k < a → gI σ 7 (i * 10 + k) = II (96 + (s k : Nat)) ∧ s k < 32) (ht : ∀ k, k < b → gI σ 7 (j * 10 + k) = II (96 + (t k : Nat)) ∧ t k < 32)
    (hp : post (II (if alb s a t b then 1 else 0)) σ) : wpX5_akin (II i) (II j) σ post := by
  have fin : ∀ f r : Nat, f ≤ min a b → (∀ k, k < f → s k = t k) → (f = min a b ∨ s f ≠ t f) → r ≤ min a b - f → (∀ k, k < r → s (a - 1 - k) = t (b - 1 - k)) → (r = min a b - f ∨ s (a - 1 - r) ≠ t (b - 1 - r)) → wbX5_akin_121 post (II a) (II b) (II f) (II r) σ := by
    intro f r h1 h2 h3 h4 h5 h6
    have hAL := AL_iff ha hb h1 h2 h3 h4 h5 h6
    have em : (if II (a : Int) < II (b : Int) then II (b : Int) else II (a : Int)) = II ((max a b : Nat) : Int) := by
      simp (disch := omega) only [I_lt]
      split
      · rw [show max a b = b by omega]
      · rw [show max a b = a by omega]
    unfold wbX5_akin_121
    rw [em]
    simp (disch := omega) only [I_lit, I_sub, I_lt]
    refine ⟨fun z => ?_, fun z => ?_⟩
    · have : alb s a t b = false := by
        cases hh : alb s a t b with
        | false => rfl
        | true => have := hAL.mpr ((alb_iff s a t b).mp hh); omega
      rw [this] at hp; exact hp
    · rw [(alb_iff s a t b).mpr (hAL.mp (by omega))] at hp; exact hp
  have rear : ∀ f : Nat, f ≤ min a b → (∀ k, k < f → s k = t k) → (f = min a b ∨ s f ≠ t f) → ∃ m, wbX5_akin_69 post m (II i) (II j) (II a) (II b) (II ((min a b : Nat) : Int)) (II f) (II 0) σ := by
    intro f h1 h2 h3
    have key := up (P := fun m r => (∀ k, k < r → s (a - 1 - k) = t (b - 1 - k)) → wbX5_akin_69 post m (II i) (II j) (II a) (II b) (II ((min a b : Nat) : Int)) (II f) (II r) σ) (min a b - f) ?_ ?_ 0 (by omega)
    · obtain ⟨m, hm⟩ := key
      exact ⟨m, hm (fun k hk => absurd hk (by omega))⟩
    · intro m h5
      simp (disch := omega) only [wbX5_akin_69, I_sub, I_le]
      exact ⟨fun _ => fin f _ h1 h2 h3 (Nat.le_refl _) h5 (Or.inl rfl), fun z => absurd (by omega) z⟩
    · intro m r hr ih h5
      obtain ⟨s1, s2⟩ := hs (a - 1 - r) (by omega)
      obtain ⟨t1, t2⟩ := ht (b - 1 - r) (by omega)
      have i1 : ((i : Int) * 10 + a - 1 - r).toNat = i * 10 + (a - 1 - r) := by omega
      have i2 : ((j : Int) * 10 + b - 1 - r).toNat = j * 10 + (b - 1 - r) := by omega
      simp (disch := omega) only [wbX5_akin_69, I_sub, I_le, I_lit, I_mul, I_add, I_in, true_and, I_cl, i1, i2, s1, t1, I_eq, fe]
      refine ⟨fun z => absurd z (by omega), fun _ => ⟨fun z => fin f r h1 h2 h3 (by omega) h5 (Or.inr (by omega)), fun z => ih (fun k hk => ?_)⟩⟩
      by_cases e : k = r
      · subst e; omega
      · exact h5 k (by omega)
  have front : ∃ m, wbX5_akin_26 post m (II i) (II j) (II a) (II b) (II ((min a b : Nat) : Int)) (II 0) σ := by
    have key := up (P := fun m f => (∀ k, k < f → s k = t k) → wbX5_akin_26 post m (II i) (II j) (II a) (II b) (II ((min a b : Nat) : Int)) (II f) σ) (min a b) ?_ ?_ 0 (by omega)
    · obtain ⟨m, hm⟩ := key
      exact ⟨m, hm (fun k hk => absurd hk (by omega))⟩
    · intro m h2
      simp (disch := omega) only [wbX5_akin_26, I_le, I_lit]
      exact ⟨fun _ => rear _ (Nat.le_refl _) h2 (Or.inl rfl), fun z => absurd (by omega) z⟩
    · intro m f hf ih h2
      obtain ⟨s1, s2⟩ := hs f (by omega)
      obtain ⟨t1, t2⟩ := ht f (by omega)
      have i1 : ((i : Int) * 10 + f).toNat = i * 10 + f := by omega
      have i2 : ((j : Int) * 10 + f).toNat = j * 10 + f := by omega
      simp (disch := omega) only [wbX5_akin_26, I_le, I_lit, I_mul, I_add, I_in, true_and, I_cl, i1, i2, s1, t1, I_eq, fe]
      refine ⟨fun z => absurd z (by omega), fun _ => ⟨fun z => rear f (by omega) h2 (Or.inr (by omega)), fun z => ih (fun k hk => ?_)⟩⟩
      by_cases e : k = f
      · subst e; omega
      · exact h2 k (by omega)
  have em : (if II (b : Int) < II (a : Int) then II (b : Int) else II (a : Int)) = II ((min a b : Nat) : Int) := by
    simp (disch := omega) only [I_lt]
    split
    · rw [show min a b = b by omega]
    · rw [show min a b = a by omega]
  simp (disch := omega) only [wpX5_akin, I_in, true_and, I_cl, Int.toNat_natCast, h8, h8', fe, em]
  exact front
