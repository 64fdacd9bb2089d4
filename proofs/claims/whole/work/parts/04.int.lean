/-! ints as images of whole numbers -/
def II (z : Int) : Int32 := Int32.ofInt z
def LL (z : Int) : Int64 := Int64.ofInt z
theorem I_lit (n : Nat) : (OfNat.ofNat n : Int32) = II (OfNat.ofNat n) := rfl
theorem L_lit (n : Nat) : (OfNat.ofNat n : Int64) = LL (OfNat.ofNat n) := rfl
theorem I_nI (n : Nat) : nI n = II (n : Int) := by
  unfold nI II; apply Int32.toBitVec_inj.mp; simp
theorem L_lN (n : Nat) : lN n = LL (n : Int) := by
  unfold lN LL; apply Int64.toBitVec_inj.mp; simp
theorem I_add (a b : Int) : II a + II b = II (a + b) := (Int32.ofInt_add a b).symm
theorem I_sub (a b : Int) : II a - II b = II (a - b) := (Int32.ofInt_sub a b).symm
theorem I_mul (a b : Int) : II a * II b = II (a * b) := (Int32.ofInt_mul a b).symm
theorem I_neg (a : Int) : -II a = II (-a) := (Int32.ofInt_neg a).symm
theorem L_add (a b : Int) : LL a + LL b = LL (a + b) := (Int64.ofInt_add a b).symm
theorem L_sub (a b : Int) : LL a - LL b = LL (a - b) := (Int64.ofInt_sub a b).symm
theorem L_mul (a b : Int) : LL a * LL b = LL (a * b) := (Int64.ofInt_mul a b).symm
theorem L_neg (a : Int) : -LL a = LL (-a) := (Int64.ofInt_neg a).symm
theorem I_toInt {a : Int} (h : -2147483648 ≤ a ∧ a < 2147483648) : (II a).toInt = a := Int32.toInt_ofInt_of_le h.1 h.2
theorem L_toInt {a : Int} (h : -9223372036854775808 ≤ a ∧ a < 9223372036854775808) : (LL a).toInt = a := Int64.toInt_ofInt_of_le h.1 h.2
theorem I_self (x : Int32) : x = II x.toInt := by unfold II; simp
theorem I_of (x : Int32) : ∃ z : Int, -2147483648 ≤ z ∧ z < 2147483648 ∧ x = II z := ⟨x.toInt, Int32.le_toInt x, Int32.toInt_lt x, I_self x⟩
theorem L_of (x : Int64) : ∃ z : Int, -9223372036854775808 ≤ z ∧ z < 9223372036854775808 ∧ x = LL z := ⟨x.toInt, Int64.le_toInt x, Int64.toInt_lt x, by unfold LL; simp⟩
theorem I_lt {a b : Int} (h : -2147483648 ≤ a ∧ a < 2147483648 ∧ -2147483648 ≤ b ∧ b < 2147483648) : (II a < II b) = (a < b) := by
  rw [Int32.lt_iff_toInt_lt, I_toInt ⟨h.1, h.2.1⟩, I_toInt h.2.2]
theorem I_le {a b : Int} (h : -2147483648 ≤ a ∧ a < 2147483648 ∧ -2147483648 ≤ b ∧ b < 2147483648) : (II a ≤ II b) = (a ≤ b) := by
  rw [Int32.le_iff_toInt_le, I_toInt ⟨h.1, h.2.1⟩, I_toInt h.2.2]
theorem I_eq {a b : Int} (h : -2147483648 ≤ a ∧ a < 2147483648 ∧ -2147483648 ≤ b ∧ b < 2147483648) : (II a = II b) = (a = b) := by
  refine propext ⟨fun e => ?_, fun e => by rw [e]⟩
  have := congrArg Int32.toInt e
  rwa [I_toInt ⟨h.1, h.2.1⟩, I_toInt h.2.2] at this
theorem L_lt {a b : Int} (h : -9223372036854775808 ≤ a ∧ a < 9223372036854775808 ∧ -9223372036854775808 ≤ b ∧ b < 9223372036854775808) : (LL a < LL b) = (a < b) := by
  rw [Int64.lt_iff_toInt_lt, L_toInt ⟨h.1, h.2.1⟩, L_toInt h.2.2]
theorem L_le {a b : Int} (h : -9223372036854775808 ≤ a ∧ a < 9223372036854775808 ∧ -9223372036854775808 ≤ b ∧ b < 9223372036854775808) : (LL a ≤ LL b) = (a ≤ b) := by
  rw [Int64.le_iff_toInt_le, L_toInt ⟨h.1, h.2.1⟩, L_toInt h.2.2]
theorem L_eq {a b : Int} (h : -9223372036854775808 ≤ a ∧ a < 9223372036854775808 ∧ -9223372036854775808 ≤ b ∧ b < 9223372036854775808) : (LL a = LL b) = (a = b) := by
  refine propext ⟨fun e => ?_, fun e => by rw [e]⟩
  have := congrArg Int64.toInt e
  rwa [L_toInt ⟨h.1, h.2.1⟩, L_toInt h.2.2] at this
theorem I_in {a : Int} {N : Nat} (h : 0 ≤ a ∧ a < N ∧ a < 2147483648) : vp_in (II a) N = True := by
  refine eq_true (vp_in_iff.mpr ?_)
  rw [I_toInt ⟨by omega, h.2.2⟩]; exact ⟨h.1, h.2.1⟩
theorem I_cl {a : Int} (h : 0 ≤ a ∧ a < 2147483648) : (II a).toNatClampNeg = a.toNat := by
  rw [← Int32.toNat_toInt, I_toInt ⟨by omega, h.2⟩]
theorem I_cln {n : Nat} (h : n < 2147483648) : (II (n : Int)).toNatClampNeg = n := by
  rw [I_cl ⟨by omega, by omega⟩]; omega
theorem I_wide {a : Int} (h : -2147483648 ≤ a ∧ a < 2147483648) : (II a).toInt64 = LL a := by
  apply Int64.toInt_inj.mp
  rw [Int32.toInt_toInt64, I_toInt h, L_toInt ⟨by omega, by omega⟩]
theorem L_thin (a : Int) : (LL a).toInt32 = II a := by
  unfold LL II; simp
theorem tn_add {a b : Int} (h : 0 ≤ a ∧ 0 ≤ b) : (a + b).toNat = a.toNat + b.toNat := by omega
theorem tn_sub {a b : Int} (h : 0 ≤ b ∧ b ≤ a) : (a - b).toNat = a.toNat - b.toNat := by omega
theorem tn_mul {a b : Int} (h : 0 ≤ a ∧ 0 ≤ b) : (a * b).toNat = a.toNat * b.toNat := by
  obtain ⟨m, rfl⟩ := Int.eq_ofNat_of_zero_le h.1
  obtain ⟨n, rfl⟩ := Int.eq_ofNat_of_zero_le h.2
  simp [← Int.natCast_mul]
theorem I_div {a b : Int} (h : 0 ≤ a ∧ a < 2147483648 ∧ 0 < b ∧ b < 2147483648) : II a / II b = II (a / b) := by
  apply Int32.toInt_inj.mp
  have h1 : 0 ≤ a / b := Int.ediv_nonneg h.1 (by omega)
  have h2 : a / b ≤ a := Int.ediv_le_self _ h.1
  rw [Int32.toInt_div, I_toInt ⟨by omega, h.2.1⟩, I_toInt ⟨by omega, h.2.2.2⟩, I_toInt ⟨by omega, by omega⟩, Int.tdiv_eq_ediv_of_nonneg h.1]
  apply Int.bmod_eq_of_le <;> omega
theorem L_div {a b : Int} (h : 0 ≤ a ∧ a < 9223372036854775808 ∧ 0 < b ∧ b < 9223372036854775808) : LL a / LL b = LL (a / b) := by
  apply Int64.toInt_inj.mp
  have h1 : 0 ≤ a / b := Int.ediv_nonneg h.1 (by omega)
  have h2 : a / b ≤ a := Int.ediv_le_self _ h.1
  rw [Int64.toInt_div, L_toInt ⟨by omega, h.2.1⟩, L_toInt ⟨by omega, h.2.2.2⟩, L_toInt ⟨by omega, by omega⟩, Int.tdiv_eq_ediv_of_nonneg h.1]
  apply Int.bmod_eq_of_le <;> omega
theorem rem_eq {a b : Int} : a - a / b * b = a % b := by
  have := Int.emod_add_mul_ediv a b
  rw [Int.mul_comm (a / b) b]; omega
/-! loops -/
theorem up {P : Nat → Nat → Prop} (N : Nat) (he : ∀ f, P (f + 1) N) (hs : ∀ f i, i < N → P f (i + 1) → P (f + 1) i) (i : Nat) (hi : i ≤ N) : ∃ f, P f i := by
  refine ⟨N - i + 1, ?_⟩
  have : ∀ d i, i ≤ N → N - i = d → P (d + 1) i := by
    intro d
    induction d with
    | zero => intro i hi hd; have : i = N := by omega
              subst this; exact he 0
    | succ d ih => intro i hi hd; exact hs _ i (by omega) (ih (i + 1) (by omega) (by omega))
  exact this _ i hi rfl
theorem dn {P : Nat → Nat → Prop} (he : ∀ f, P (f + 1) 0) (hs : ∀ f i, P f i → P (f + 1) (i + 1)) (i : Nat) : ∃ f, P f i := by
  refine ⟨i + 1, ?_⟩
  induction i with
  | zero => exact he 0
  | succ i ih => exact hs _ i ih
theorem fe {α : Sort _} {e : α} {P : α → Prop} : (∀ x, x = e → P x) = P e := propext ⟨fun h => h e rfl, fun h _ hx => hx ▸ h⟩
theorem br1 {c A B : Prop} (h : c) : ((c → A) ∧ (¬ c → B)) = A := propext ⟨fun z => z.1 h, fun z => ⟨fun _ => z, fun n => absurd h n⟩⟩
theorem br2 {c A B : Prop} (h : ¬ c) : ((c → A) ∧ (¬ c → B)) = B := propext ⟨fun z => z.2 h, fun z => ⟨fun n => absurd n h, fun _ => z⟩⟩
theorem br3 {c A B : Prop} (h : c) : ((¬ c → B) ∧ (c → A)) = A := propext ⟨fun z => z.2 h, fun z => ⟨fun n => absurd h n, fun _ => z⟩⟩
theorem br4 {c A B : Prop} (h : ¬ c) : ((¬ c → B) ∧ (c → A)) = B := propext ⟨fun z => z.1 h, fun z => ⟨fun _ => z, fun n => absurd n h⟩⟩
theorem mn_eq {a b : Prop} (h : a) : (a ∧ b) = b := propext ⟨fun z => z.2, fun z => ⟨h, z⟩⟩
/-! reading behind writing, by cell and place -/
theorem rI1 {σ : St} {q k : Nat} {v : Int32} : gI (sI σ q k v) q k = v := by rw [gI_sI, if_pos ⟨rfl, rfl⟩]
theorem rI2 {σ : St} {q q' k k' : Nat} {v : Int32} (h : q' ≠ q) : gI (sI σ q k v) q' k' = gI σ q' k' := by rw [gI_sI, if_neg (fun z => h z.1)]
theorem rI3 {σ : St} {q k k' : Nat} {v : Int32} (h : k' ≠ k) : gI (sI σ q k v) q k' = gI σ q k' := by rw [gI_sI, if_neg (fun z => h z.2)]
theorem rL1 {σ : St} {q k : Nat} {v : Int64} : gL (sL σ q k v) q k = v := by rw [gL_sL, if_pos ⟨rfl, rfl⟩]
theorem rL2 {σ : St} {q q' k k' : Nat} {v : Int64} (h : q' ≠ q) : gL (sL σ q k v) q' k' = gL σ q' k' := by rw [gL_sL, if_neg (fun z => h z.1)]
theorem rL3 {σ : St} {q k k' : Nat} {v : Int64} (h : k' ≠ k) : gL (sL σ q k v) q k' = gL σ q k' := by rw [gL_sL, if_neg (fun z => h z.2)]
theorem rR1 {σ : St} {q k : Nat} {v : Option Nat} : gR (sR σ q k v) q k = v := by rw [gR_sR, if_pos ⟨rfl, rfl⟩]
theorem rR2 {σ : St} {q q' k k' : Nat} {v : Option Nat} (h : q' ≠ q) : gR (sR σ q k v) q' k' = gR σ q' k' := by rw [gR_sR, if_neg (fun z => h z.1)]
theorem rR3 {σ : St} {q k k' : Nat} {v : Option Nat} (h : k' ≠ k) : gR (sR σ q k v) q k' = gR σ q k' := by rw [gR_sR, if_neg (fun z => h z.2)]
theorem rA1 {σ : St} {q k : Nat} {f : Nat → Int32} : gI (sA σ q f) q k = f k := by rw [gI_sA, if_pos rfl]
theorem rA2 {σ : St} {q q' k : Nat} {f : Nat → Int32} (h : q' ≠ q) : gI (sA σ q f) q' k = gI σ q' k := by rw [gI_sA, if_neg h]
theorem Eqx_gI {L : List Nat} {σ τ : St} (h : Eqx L σ τ) {q : Nat} (hq : q ∉ L) (k : Nat) : gI τ q k = gI σ q k := gI_of (h q hq).symm k
theorem Eqx_gL {L : List Nat} {σ τ : St} (h : Eqx L σ τ) {q : Nat} (hq : q ∉ L) (k : Nat) : gL τ q k = gL σ q k := gL_of (h q hq).symm k
theorem Eqx_gR {L : List Nat} {σ τ : St} (h : Eqx L σ τ) {q : Nat} (hq : q ∉ L) (k : Nat) : gR τ q k = gR σ q k := gR_of (h q hq).symm k
theorem Eqx_symm {L : List Nat} {σ τ : St} (h : Eqx L σ τ) : Eqx L τ σ := fun q hq => (h q hq).symm
theorem Eqx_tI {L : List Nat} {σ τ : St} {q k : Nat} {v : Int32} (h : Eqx L σ τ) (hq : q ∈ L) : Eqx L σ (sI τ q k v) := Eqx_symm (Eqx.sI (Eqx_symm h) hq)
theorem Eqx_tL {L : List Nat} {σ τ : St} {q k : Nat} {v : Int64} (h : Eqx L σ τ) (hq : q ∈ L) : Eqx L σ (sL τ q k v) := Eqx_symm (Eqx.sL (Eqx_symm h) hq)
theorem Eqx_tR {L : List Nat} {σ τ : St} {q k : Nat} {v : Option Nat} (h : Eqx L σ τ) (hq : q ∈ L) : Eqx L σ (sR τ q k v) := Eqx_symm (Eqx.sR (Eqx_symm h) hq)
theorem Eqx_tA {L : List Nat} {σ τ : St} {q : Nat} {f : Nat → Int32} (h : Eqx L σ τ) (hq : q ∈ L) : Eqx L σ (sA τ q f) := Eqx_symm (Eqx.sA (Eqx_symm h) hq)
