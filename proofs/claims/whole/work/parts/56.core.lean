/-! cells, states, what is fixed -/
abbrev GT : Type := va_G × (Nat → ClassId) × (Nat → Nat) × (Nat → Nat) × (Nat → Nat) × Nat
abbrev tysL (G : GT) : List (ClassId × FieldType) := [(G.2.1 0, .int), (G.2.1 1, .long), (G.2.1 2, .byte), (G.2.1 3, .boolean), (G.2.1 4, .object "CradleNames$Taste")]

def fsX0 (G : GT) (k : Nat) (x : CS) : List Value := [.ref (G.2.2.1 (21 + 4 * k + 1)), .ref (G.2.2.1 (21 + 4 * k + 2)), .ref (G.2.2.1 (21 + 4 * k + 3)), .int (x.1 3)]
def fsX1 (G : GT) (x : CS) : List Value := [.ref (G.2.2.1 1), .ref (G.2.2.1 9), .ref (G.2.2.1 29), .ref (G.2.2.1 47)]
def fsX2 (G : GT) (x : CS) : List Value := [.int (x.1 0), .int (x.1 1), .int (x.1 2), .int (x.1 3), .int (x.1 4), .int (x.1 5), .int (x.1 6), .ref (G.2.2.1 71), .ref (G.2.2.1 72), .ref (G.2.2.1 73), .ref (G.2.2.1 74)]
def fsX3 (G : GT) (x : CS) : List Value := [.ref (G.2.2.1 1), .ref (G.2.2.1 9), .ref (G.2.2.1 48), .ref (G.2.2.1 49), .ref (G.2.2.1 50), va_rf ((x.2.2 5).map G.2.2.1), .int (x.1 6), .int (x.1 7), va_rf ((x.2.2 8).map G.2.2.1), .int (x.1 9), .int (x.1 10), .int (x.1 11), .int (x.1 12), .int (x.1 13)]
def fsX4 (G : GT) (x : CS) : List Value := [.int (x.1 0), .int (x.1 1), .ref (G.2.2.1 10), .ref (G.2.2.1 11), .ref (G.2.2.1 12), .ref (G.2.2.1 13), .ref (G.2.2.1 14), .ref (G.2.2.1 15), .int (x.1 8), .ref (G.2.2.1 16), .ref (G.2.2.1 17), .int (x.1 11), .ref (G.2.2.1 18), .ref (G.2.2.1 19), .ref (G.2.2.1 20)]
def fsX5 (G : GT) (x : CS) : List Value := [.int (x.1 0), .ref (G.2.2.1 2), .ref (G.2.2.1 3), .ref (G.2.2.1 4), .ref (G.2.2.1 5), .ref (G.2.2.1 6), .ref (G.2.2.1 7), .ref (G.2.2.1 8)]
def fsX6 (G : GT) (x : CS) : List Value := [.ref (G.2.2.1 61), .ref (G.2.2.1 62), .ref (G.2.2.1 63), .int (x.1 3), .int (x.1 4), .int (x.1 5)]
def fsX7 (G : GT) (x : CS) : List Value := [.int (x.1 0), .ref (G.2.2.1 65), .ref (G.2.2.1 66), .ref (G.2.2.1 67), .ref (G.2.2.1 68), .ref (G.2.2.1 69), .int (x.1 6)]
def fsX8 (G : GT) (x : CS) : List Value := [.ref (G.2.2.1 43), .int (x.1 1), .int (x.1 2), .int (x.1 3), .ref (G.2.2.1 44), .ref (G.2.2.1 45), .ref (G.2.2.1 46), .int (x.1 7), .int (x.1 8), va_rf ((x.2.2 9).map G.2.2.1), .int (x.1 10)]
def fsX9 (G : GT) (k : Nat) (x : CS) : List Value := [.ref (G.2.2.1 (30 + 2 * k + 1)), .int (x.1 1), .int (x.1 2), .int (x.1 3)]
def fsX10 (G : GT) (x : CS) : List Value := [.ref (G.2.2.1 1), .ref (G.2.2.1 9), .ref (G.2.2.1 21), .ref (G.2.2.1 53), .ref (G.2.2.1 54), .ref (G.2.2.1 55), .ref (G.2.2.1 56), .ref (G.2.2.1 57), .ref (G.2.2.1 58), .ref (G.2.2.1 59), .int (x.1 10)]
def fsX11 (G : GT) (x : CS) : List Value := [.ref (G.2.2.1 1), .ref (G.2.2.1 9), .ref (G.2.2.1 21), .ref (G.2.2.1 25), .ref (G.2.2.1 29), .int (x.1 5), .ref (G.2.2.1 42), .ref (G.2.2.1 47), .ref (G.2.2.1 51), .ref (G.2.2.1 52), .ref (G.2.2.1 60), .ref (G.2.2.1 64), .ref (G.2.2.1 70)]
def fsX12 (G : GT) (x : CS) : List Value := [.ref (G.2.2.1 76), .ref (G.2.2.1 77), .ref (G.2.2.1 78), .ref (G.2.2.1 79), .int (x.1 4), .int (x.1 5), .int (x.1 6), .ref (G.2.2.1 80), .ref (G.2.2.1 81), .ref (G.2.2.1 82), .ref (G.2.2.1 83), .ref (G.2.2.1 84), .ref (G.2.2.1 85), .ref (G.2.2.1 86), .int (x.1 14), .int (x.1 15), .int (x.1 16), .int (x.1 17), .int (x.1 18), .int (x.1 19), .int (x.1 20), .int (x.1 21), .int (x.1 22), .ref (G.2.2.1 87), .ref (G.2.2.1 88), .ref (G.2.2.1 89), .int (x.1 26), .ref (G.2.2.1 90), .ref (G.2.2.1 91), .int (x.1 29), .int (x.1 30), .int (x.1 31), .int (x.1 32), .ref (G.2.2.1 92), .ref (G.2.2.1 93), .int (x.1 35), .ref (G.2.2.1 94), .ref (G.2.2.1 95), .ref (G.2.2.1 96), .ref (G.2.2.1 97), .ref (G.2.2.1 98), .ref (G.2.2.1 99), .ref (G.2.2.1 100), .ref (G.2.2.1 101), .ref (G.2.2.1 102), .ref (G.2.2.1 103), .ref (G.2.2.1 104), .ref (G.2.2.1 105), .ref (G.2.2.1 106), .ref (G.2.2.1 107), .ref (G.2.2.1 108), .ref (G.2.2.1 109), .ref (G.2.2.1 110), .ref (G.2.2.1 111), .ref (G.2.2.1 112), .int (x.1 55), .int (x.1 56), .long (x.2.1 57), .ref (G.2.2.1 113), .ref (G.2.2.1 114), .ref (G.2.2.1 115), .ref (G.2.2.1 116), .ref (G.2.2.1 117), .ref (G.2.2.1 118)]
def NC : Nat := 119
def wcc (G : GT) (q : Nat) (x : CS) : va_E := match q with
  | 0 => .inr (11, fsX11 G x)
  | 1 => .inr (5, fsX5 G x)
  | 2 => .inl (G.2.1 1, 16, .inr (.inl x.2.1))
  | 3 => .inl (G.2.1 0, 16, .inl x.1)
  | 4 => .inl (G.2.1 0, 16, .inl x.1)
  | 5 => .inl (G.2.1 0, 16, .inl x.1)
  | 6 => .inl (G.2.1 1, 16, .inr (.inl x.2.1))
  | 7 => .inl (G.2.1 0, 160, .inl x.1)
  | 8 => .inl (G.2.1 0, 16, .inl x.1)
  | 9 => .inr (4, fsX4 G x)
  | 10 => .inl (G.2.1 0, 7680, .inl x.1)
  | 11 => .inl (G.2.1 0, 12, .inl x.1)
  | 12 => .inl (G.2.1 0, 732, .inl x.1)
  | 13 => .inl (G.2.1 0, 2, .inl x.1)
  | 14 => .inl (G.2.1 0, 122, .inl x.1)
  | 15 => .inl (G.2.1 0, 61, .inl x.1)
  | 16 => .inl (G.2.1 0, 8, .inl x.1)
  | 17 => .inl (G.2.1 0, 8, .inl x.1)
  | 18 => .inl (G.2.1 0, 8, .inl x.1)
  | 19 => .inl (G.2.1 0, 8, .inl x.1)
  | 20 => .inl (G.2.1 0, 8, .inl x.1)
  | 21 => .inr (0, fsX0 G 0 x)
  | 22 => .inl (G.2.1 1, 732, .inr (.inl x.2.1))
  | 23 => .inl (G.2.1 0, 11424, .inl x.1)
  | 24 => .inl (G.2.1 0, 16, .inl x.1)
  | 25 => .inr (0, fsX0 G 1 x)
  | 26 => .inl (G.2.1 1, 732, .inr (.inl x.2.1))
  | 27 => .inl (G.2.1 0, 11424, .inl x.1)
  | 28 => .inl (G.2.1 0, 16, .inl x.1)
  | 29 => .inl (G.2.1 4, 6, .inr (.inr (.inr (.inr fun i => some (G.2.2.1 (30 + 2 * i))))))
  | 30 => .inr (9, fsX9 G 0 x)
  | 31 => .inl (G.2.1 0, 300, .inl x.1)
  | 32 => .inr (9, fsX9 G 1 x)
  | 33 => .inl (G.2.1 0, 300, .inl x.1)
  | 34 => .inr (9, fsX9 G 2 x)
  | 35 => .inl (G.2.1 0, 300, .inl x.1)
  | 36 => .inr (9, fsX9 G 3 x)
  | 37 => .inl (G.2.1 0, 300, .inl x.1)
  | 38 => .inr (9, fsX9 G 4 x)
  | 39 => .inl (G.2.1 0, 300, .inl x.1)
  | 40 => .inr (9, fsX9 G 5 x)
  | 41 => .inl (G.2.1 0, 300, .inl x.1)
  | 42 => .inr (8, fsX8 G x)
  | 43 => .inl (G.2.1 0, 300, .inl x.1)
  | 44 => .inl (G.2.1 0, 301, .inl x.1)
  | 45 => .inl (G.2.1 0, 301, .inl x.1)
  | 46 => .inl (G.2.1 0, 301, .inl x.1)
  | 47 => .inr (3, fsX3 G x)
  | 48 => .inl (G.2.1 0, 64, .inl x.1)
  | 49 => .inl (G.2.1 0, 16, .inl x.1)
  | 50 => .inl (G.2.1 3, 16, .inl x.1)
  | 51 => .inr (1, fsX1 G x)
  | 52 => .inr (10, fsX10 G x)
  | 53 => .inl (G.2.1 0, 16, .inl x.1)
  | 54 => .inl (G.2.1 0, 16, .inl x.1)
  | 55 => .inl (G.2.1 0, 976, .inl x.1)
  | 56 => .inl (G.2.1 0, 976, .inl x.1)
  | 57 => .inl (G.2.1 0, 16, .inl x.1)
  | 58 => .inl (G.2.1 0, 16, .inl x.1)
  | 59 => .inl (G.2.1 0, 16, .inl x.1)
  | 60 => .inr (6, fsX6 G x)
  | 61 => .inl (G.2.1 0, 24, .inl x.1)
  | 62 => .inl (G.2.1 0, 24, .inl x.1)
  | 63 => .inl (G.2.1 0, 24, .inl x.1)
  | 64 => .inr (7, fsX7 G x)
  | 65 => .inl (G.2.1 0, 150, .inl x.1)
  | 66 => .inl (G.2.1 0, 150, .inl x.1)
  | 67 => .inl (G.2.1 0, 150, .inl x.1)
  | 68 => .inl (G.2.1 0, 150, .inl x.1)
  | 69 => .inl (G.2.1 1, 2196, .inr (.inl x.2.1))
  | 70 => .inr (2, fsX2 G x)
  | 71 => .inl (G.2.1 0, 12, .inl x.1)
  | 72 => .inl (G.2.1 0, 2, .inl x.1)
  | 73 => .inl (G.2.1 0, 7680, .inl x.1)
  | 74 => .inl (G.2.1 0, 4592, .inl x.1)
  | 75 => .inr (12, fsX12 G x)
  | 76 => .inl (G.2.1 0, 9680, .inl x.1)
  | 77 => .inl (G.2.1 0, 9680, .inl x.1)
  | 78 => .inl (G.2.1 1, 16, .inr (.inl x.2.1))
  | 79 => .inl (G.2.1 2, 300, .inl x.1)
  | 80 => .inl (G.2.1 0, 6, .inl x.1)
  | 81 => .inl (G.2.1 0, 72, .inl x.1)
  | 82 => .inl (G.2.1 0, 72, .inl x.1)
  | 83 => .inl (G.2.1 0, 6, .inl x.1)
  | 84 => .inl (G.2.1 0, 6, .inl x.1)
  | 85 => .inl (G.2.1 0, 2400, .inl x.1)
  | 86 => .inl (G.2.1 0, 2400, .inl x.1)
  | 87 => .inl (G.2.1 0, 40, .inl x.1)
  | 88 => .inl (G.2.1 0, 41, .inl x.1)
  | 89 => .inl (G.2.1 0, 41, .inl x.1)
  | 90 => .inl (G.2.1 0, 80, .inl x.1)
  | 91 => .inl (G.2.1 0, 80, .inl x.1)
  | 92 => .inl (G.2.1 0, 12, .inl x.1)
  | 93 => .inl (G.2.1 0, 12, .inl x.1)
  | 94 => .inl (G.2.1 0, 400, .inl x.1)
  | 95 => .inl (G.2.1 0, 400, .inl x.1)
  | 96 => .inl (G.2.1 1, 14, .inr (.inl x.2.1))
  | 97 => .inl (G.2.1 1, 200, .inr (.inl x.2.1))
  | 98 => .inl (G.2.1 0, 19392, .inl x.1)
  | 99 => .inl (G.2.1 0, 1616, .inl x.1)
  | 100 => .inl (G.2.1 0, 4848, .inl x.1)
  | 101 => .inl (G.2.1 0, 3232, .inl x.1)
  | 102 => .inl (G.2.1 0, 3232, .inl x.1)
  | 103 => .inl (G.2.1 0, 61, .inl x.1)
  | 104 => .inl (G.2.1 0, 2, .inl x.1)
  | 105 => .inl (G.2.1 0, 96, .inl x.1)
  | 106 => .inl (G.2.1 0, 64, .inl x.1)
  | 107 => .inl (G.2.1 0, 32, .inl x.1)
  | 108 => .inl (G.2.1 0, 32, .inl x.1)
  | 109 => .inl (G.2.1 0, 16, .inl x.1)
  | 110 => .inl (G.2.1 0, 16, .inl x.1)
  | 111 => .inl (G.2.1 0, 16, .inl x.1)
  | 112 => .inl (G.2.1 0, 16, .inl x.1)
  | 113 => .inl (G.2.1 0, 16, .inl x.1)
  | 114 => .inl (G.2.1 1, 2400, .inr (.inl x.2.1))
  | 115 => .inl (G.2.1 1, 30, .inr (.inl x.2.1))
  | 116 => .inl (G.2.1 1, 30, .inr (.inl x.2.1))
  | 117 => .inl (G.2.1 0, 96, .inl x.1)
  | 118 => .inl (G.2.1 0, 96, .inl x.1)
  | _ => .inr (11, [])
def wl (G : GT) (σ : St) : va_W := (List.range G.2.2.2.2.2).map (fun q => (G.2.2.1 q, wcc G q (σ q)))
theorem wl_get {G : GT} {σ : St} {q : Nat} (h : q < G.2.2.2.2.2) : (wl G σ)[q]? = some (G.2.2.1 q, wcc G q (σ q)) := by
  simp [wl, h]
theorem wl_some {G : GT} {σ : St} {k : Nat} {x : Nat × va_E} (h : (wl G σ)[k]? = some x) : k < G.2.2.2.2.2 ∧ x = (G.2.2.1 k, wcc G k (σ k)) := by
  have hk : k < G.2.2.2.2.2 := by
    have := (List.getElem?_eq_some_iff.mp h).1
    simpa [wl] using this
  rw [wl_get hk] at h
  exact ⟨hk, (Option.some.inj h).symm⟩
theorem wl_set {G : GT} {σ : St} {q : Nat} (x : CS) : (wl G σ).set q (G.2.2.1 q, wcc G q x) = wl G (va_up σ q x) := by
  refine List.ext_getElem? fun j => ?_
  rw [List.getElem?_set]
  have hlen : ∀ τ : St, (wl G τ).length = G.2.2.2.2.2 := fun τ => by simp [wl]
  by_cases hj : j < G.2.2.2.2.2
  · rw [wl_get hj, wl_get hj, hlen]
    by_cases e : q = j
    · subst e
      simp [hj, va_up]
    · have e2 : ¬ j = q := fun h => e h.symm
      simp [e, va_up, e2]
  · have h1 : (wl G (va_up σ q x))[j]? = none := List.getElem?_eq_none (by rw [hlen]; omega)
    have h2 : (wl G σ)[j]? = none := List.getElem?_eq_none (by rw [hlen]; omega)
    rw [h1, h2, hlen]
    split
    · split
      · omega
      · rfl
    · rfl
theorem wl_D {G : GT} {A : Nat → Prop} {σ : St} (h : va_D A (wl G σ)) (τ : St) : va_D A (wl G τ) := by
  refine ⟨fun i j x y hi hj e => ?_, fun k x hk => ?_⟩
  · obtain ⟨a1, a2⟩ := wl_some hi
    obtain ⟨b1, b2⟩ := wl_some hj
    refine h.1 i j _ _ (wl_get a1) (wl_get b1) ?_
    rw [a2, b2] at e
    exact e
  · obtain ⟨a1, a2⟩ := wl_some hk
    rw [a2]
    exact h.2 k (G.2.2.1 k, wcc G k (σ k)) (wl_get a1)
theorem wl_A {G : GT} {σ τ : St} {sz q : Nat} (h : va_A (wl G σ) sz q) : va_A (wl G τ) sz q := by
  rcases h with ⟨k, e, h⟩ | h
  · obtain ⟨a1, a2⟩ := wl_some h
    cases a2
    exact Or.inl ⟨k, _, wl_get a1⟩
  · exact Or.inr h
theorem wl_Ae {G : GT} (σ τ : St) (sz : Nat) : va_A (wl G σ) sz = va_A (wl G τ) sz := funext fun _ => propext ⟨wl_A, wl_A⟩
/-! strings and statics, old cells that stay -/
def Ex (G : GT) (A : Nat → Prop) (U : State) (H : Heap) : Prop := vk_S 4 sLen sByt G.2.2.2.1 G.2.2.2.2.1 A U H ∧ va_Z "java/lang/String" "COMPACT_STRINGS" "Z" (.int 1) A U H ∧ va_Zq "jdk/internal/util/Preconditions" "SIOOBE_FORMATTER" "Ljava/util/function/BiFunction;" A U H ∧ vk_R "CradleNames$Names" 50 "aeiouy" (G.2.2.2.1 0) U ∧ vk_R "CradleNames$Names" 62 "abgdibghijglmmobgrsdobosis" (G.2.2.2.1 1) U ∧ vk_R "CradleNames$Reader" 86 "near far  up   same girlsboys old  all  gone rise soundfilm long year worthbar  past or   and  not  min  max  " (G.2.2.2.1 2) U ∧ vk_R "CradleNames$Reader" 78 "=#+-*/(),;" (G.2.2.2.1 3) U
theorem Ex.warm {G : GT} {A : Nat → Prop} {s U : State} {H : Heap} (hW : s.WarmedH U.vm) (h : Ex G A s H) : Ex G A U H :=
  ⟨vk_S.moved hW.alike h.1, va_Z.moved hW.alike h.2.1, va_Zq.moved hW.alike h.2.2.1, vk_R.warm hW h.2.2.2.1, vk_R.warm hW h.2.2.2.2.1, vk_R.warm hW h.2.2.2.2.2.1, vk_R.warm hW h.2.2.2.2.2.2⟩
theorem Ex.same {G : GT} {A : Nat → Prop} {s U : State} {H : Heap} (hv : U.vm = s.vm) (h : Ex G A s H) : Ex G A U H := by
  have ha : s.vm.Alike U.vm := by rw [hv]; exact Vm.Alike.refl _
  exact ⟨vk_S.moved ha h.1, va_Z.moved ha h.2.1, va_Zq.moved ha h.2.2.1, vk_R.same hv h.2.2.2.1, vk_R.same hv h.2.2.2.2.1, vk_R.same hv h.2.2.2.2.2.1, vk_R.same hv h.2.2.2.2.2.2⟩
theorem Ex.kept {G : GT} {A : Nat → Prop} {U : State} {H H1 : Heap} (h : Ex G A U H) (hq : ∀ a : Nat, a < H.size → ¬ A a → H1[a]? = H[a]?) : Ex G A U H1 :=
  ⟨vk_S.kept h.1 hq, va_Z.kept h.2.1 hq, va_Zq.kept h.2.2.1 hq, h.2.2.2⟩
theorem Ex.narrow {G : GT} {A B : Nat → Prop} {U : State} {H : Heap} (h : Ex G A U H) (hAB : ∀ q, B q → A q) : Ex G B U H :=
  ⟨vk_S.narrow h.1 hAB, va_Z.narrow h.2.1 hAB, va_Zq.narrow h.2.2.1 hAB, h.2.2.2⟩
/-! the judgement -/
abbrev XT : Type := Program × Launch × Env × Room × State × MethodId × Array Value × List Frame × Method × Code × Nat × (Nat → Prop) × (State → Prop) × Nat × Nat
def Go (X : XT) (G : GT) (pc : Nat) (lv : List (Nat × Value)) (st : List Value) (σ : St) : Prop := match X with
  | (p, l, e, R, s, m, args, below, meth, c, nL, A, Q, kc, ks) => ∀ (H : Heap) (locs : List Loc) (ls : Array Slot), va_P G.1 vwCl (wl G σ) H → va_S A s.heap H locs → lv_has ls nL lv → W p l e R s m args below meth c H locs kc ks Q (F0 m pc ls st)
def Cx (X : XT) (G : GT) (cc : ByteArray) (own : String) : Prop := match X with
  | (p, _, _, _, s, m, args, _, meth, c, nL, A, _, _, _) => p.tables.exec = Jvm.exec ∧ c.code = cc ∧ c.maxLocals = nL ∧ s.vm.findClass own = some m.cls ∧ (∀ w ∈ uW, w.before args s = true) ∧ meth.locks = false ∧ va_K G.1 vwCl (tysL G) s ∧ (∀ q, s.heap.size ≤ q → A q) ∧ (∀ σ, va_D A (wl G σ)) ∧ Ex G A s s.heap
def Qg (G : GT) (post : Option Value → St → Prop) (A : Nat → Prop) : Array Value → State → Outcome → State → Prop := fun _ st oc t => (∃ (v : Option Value) (σ : St), oc = .returned v ∧ post v σ ∧ va_P G.1 vwCl (wl G σ) t.heap ∧ va_K G.1 vwCl (tysL G) t) ∧ va_F A st t
def Rt (X : XT) (G : GT) (ret : Option FieldType) (post : Option Value → St → Prop) : Prop := match X with
  | (_, _, _, _, s, _, args, below, meth, _, _, A, Q, kc, ks) => meth.sig.returnType = ret ∧ Q = MQ below (Qg G post A) args s kc ks A
def Rm (X : XT) (l0 : Launch) (d : Nat) : Prop := match X with
  | (_, l, _, R, _, _, _, _, _, _, _, _, _, kc, ks) => l = l0 ∧ d ≤ R.frames ∧ 100 * d ≤ R.locals ∧ kc ≤ R.cells ∧ ks ≤ R.slots
abbrev rmd (d : Nat) : Room := { frames := d, cells := 0, slots := 0, locals := 100 * d }
def Sp (l : Launch) (G : GT) (d : Nat) (y : MethodName) (bytes : ByteArray) (maxL : Nat) (ret : Option FieldType) (as : List Value) (σ : St) (post : Option Value → St → Prop) : Prop :=
  ∀ sz : Nat, Met l y (.code y bytes maxL ret :: uW) (rmd d) (va_Pc as (fun U => U.heap.size = sz ∧ va_P G.1 vwCl (wl G σ) U.heap ∧ va_K G.1 vwCl (tysL G) U ∧ va_D (fun _ => True) (wl G σ) ∧ Ex G (va_A (wl G σ) sz) U U.heap)) (Qg G post (va_A (wl G σ) sz)) 0 0 (va_A (wl G σ) sz)
theorem Sp.of {l : Launch} {G : GT} {d : Nat} {y : MethodName} {bytes : ByteArray} {maxL : Nat} {ret : Option FieldType} {as : List Value} {σ : St} {post : Option Value → St → Prop} (hy : plainName y.cls = true) (hm : (lg_sl as).length ≤ maxL)
    (body : ∀ X : XT, Cx X G bytes y.cls → Rt X G ret post → Rm X l d → X.2.2.2.2.2.2.2.2.2.2.1 = maxL → Go X G 0 (lv_args 0 as) [] σ) : Sp l G d y bytes maxL ret as σ post := by
  intro sz
  refine Met.ofW (cc := bytes) (maxL := maxL) (ret := ret) hy rfl ?_
  intro p e s m args below meth c s₁ B hml hv
  obtain ⟨rfl, hsz, hP, hK, hD0, hE⟩ := hv
  have hts := atoms_spec (ws := .code y bytes maxL ret :: uW) B.pre
  subst hsz
  rw [lg_entry_eq]
  refine body (p, l, e, _, s, m, _, below, meth, c, maxL, va_A (wl G σ) s.heap.size, _, 0, 0) ⟨B.exec, B.bytes, hml, findClass_of_methodNamed B.named, fun w hw => hts w (List.mem_cons_of_mem _ hw), B.notSynchronized, hK, fun q h => Or.inr h, fun τ => wl_D hD0.self τ, hE⟩ ⟨B.returns, rfl⟩ ⟨rfl, Nat.le_refl _, Nat.le_refl _, Nat.le_refl _, Nat.le_refl _⟩ rfl s.heap [] _ hP va_S.rf (lv_entry as hm)
theorem go_sub {X : XT} {G : GT} {pc : Nat} {lv lv' : List (Nat × Value)} {st : List Value} {σ : St} (ks : List Nat) (hl : lv_pick lv ks = lv') (k : Go X G pc lv' st σ) : Go X G pc lv st σ := by
  obtain ⟨p, l, e, R, s, m, args, below, meth, c, nL, A, Q, kc, kk⟩ := X
  exact fun H locs ls hP hS hv => k H locs ls hP hS (lv_sub hv ks hl)
theorem go_topi {X : XT} {G : GT} {pc : Nat} {lv : List (Nat × Value)} {st : List Value} {σ : St} {x : Int32} (k : ∀ y : Int32, y = x → Go X G pc lv (.int y :: st) σ) : Go X G pc lv (.int x :: st) σ := k x rfl
theorem go_topl {X : XT} {G : GT} {pc : Nat} {lv : List (Nat × Value)} {st : List Value} {σ : St} {x : Int64} (k : ∀ y : Int64, y = x → Go X G pc lv (.long y :: st) σ) : Go X G pc lv (.long x :: st) σ := k x rfl
theorem go_iconst {X : XT} {G : GT} {cc : ByteArray} {own : String} {pc : Nat} {lv : List (Nat × Value)} {st : List Value} {σ : St} (C : Cx X G cc own) {n : Int} {v : Int32} (hv : Int32.ofInt n = v) (hd : decode cc pc = .ok (.iconst n, 1)) (k : Go X G (pc + 1) lv (.int v :: st) σ) : Go X G pc lv st σ := by
  obtain ⟨p, l, e, R, s, m, args, below, meth, c, nL, A, Q, kc, ks⟩ := X
  exact fun H locs ls hP hS hl => lv_iconst C.1 C.2.1 hd hv (k H locs ls hP hS hl)
theorem go_bipush {X : XT} {G : GT} {cc : ByteArray} {own : String} {pc : Nat} {lv : List (Nat × Value)} {st : List Value} {σ : St} (C : Cx X G cc own) {n : Int} {v : Int32} (hv : (Int8.ofInt n).toInt32 = v) (hd : decode cc pc = .ok (.bipush n, 2)) (k : Go X G (pc + 2) lv (.int v :: st) σ) : Go X G pc lv st σ := by
  obtain ⟨p, l, e, R, s, m, args, below, meth, c, nL, A, Q, kc, ks⟩ := X
  exact fun H locs ls hP hS hl => lv_bipush C.1 C.2.1 hd hv (k H locs ls hP hS hl)
theorem go_sipush {X : XT} {G : GT} {cc : ByteArray} {own : String} {pc : Nat} {lv : List (Nat × Value)} {st : List Value} {σ : St} (C : Cx X G cc own) {n : Int} {v : Int32} (hv : (Int16.ofInt n).toInt32 = v) (hd : decode cc pc = .ok (.sipush n, 3)) (k : Go X G (pc + 3) lv (.int v :: st) σ) : Go X G pc lv st σ := by
  obtain ⟨p, l, e, R, s, m, args, below, meth, c, nL, A, Q, kc, ks⟩ := X
  exact fun H locs ls hP hS hl => lv_sipush C.1 C.2.1 hd hv (k H locs ls hP hS hl)
theorem go_lconst {X : XT} {G : GT} {cc : ByteArray} {own : String} {pc : Nat} {lv : List (Nat × Value)} {st : List Value} {σ : St} (C : Cx X G cc own) {n : Fin 2} {v : Int64} (hv : Int64.ofNat (n : Nat) = v) (hd : decode cc pc = .ok (.lconst n, 1)) (k : Go X G (pc + 1) lv (.long v :: st) σ) : Go X G pc lv st σ := by
  obtain ⟨p, l, e, R, s, m, args, below, meth, c, nL, A, Q, kc, ks⟩ := X
  exact fun H locs ls hP hS hl => lv_lconst C.1 C.2.1 hd hv (k H locs ls hP hS hl)
theorem go_ldc {X : XT} {G : GT} {cc : ByteArray} {own : String} {pc : Nat} {lv : List (Nat × Value)} {st : List Value} {σ : St} (C : Cx X G cc own) {index : Nat} {v : Int32} (hw : Cond.constant own index v ∈ uW) (hd : decode cc pc = .ok (.ldc index, 2)) (k : Go X G (pc + 2) lv (.int v :: st) σ) : Go X G pc lv st σ := by
  obtain ⟨p, l, e, R, s, m, args, below, meth, c, nL, A, Q, kc, ks⟩ := X
  exact fun H locs ls hP hS hl => lv_ldc C.1 C.2.1 C.2.2.2.1 (C.2.2.2.2.1 _ hw) hd (k H locs ls hP hS hl)
theorem go_ldcw {X : XT} {G : GT} {cc : ByteArray} {own : String} {pc : Nat} {lv : List (Nat × Value)} {st : List Value} {σ : St} (C : Cx X G cc own) {index : Nat} {v : Int32} (hw : Cond.constant own index v ∈ uW) (hd : decode cc pc = .ok (.ldc_w index, 3)) (k : Go X G (pc + 3) lv (.int v :: st) σ) : Go X G pc lv st σ := by
  obtain ⟨p, l, e, R, s, m, args, below, meth, c, nL, A, Q, kc, ks⟩ := X
  exact fun H locs ls hP hS hl => lv_ldcw C.1 C.2.1 C.2.2.2.1 (C.2.2.2.2.1 _ hw) hd (k H locs ls hP hS hl)
theorem go_ldc2 {X : XT} {G : GT} {cc : ByteArray} {own : String} {pc : Nat} {lv : List (Nat × Value)} {st : List Value} {σ : St} (C : Cx X G cc own) {index : Nat} {v : Int64} (hw : Cond.constantLong own index v ∈ uW) (hd : decode cc pc = .ok (.ldc2_w index, 3)) (k : Go X G (pc + 3) lv (.long v :: st) σ) : Go X G pc lv st σ := by
  obtain ⟨p, l, e, R, s, m, args, below, meth, c, nL, A, Q, kc, ks⟩ := X
  exact fun H locs ls hP hS hl => lv_ldc2 C.1 C.2.1 C.2.2.2.1 (C.2.2.2.2.1 _ hw) hd (k H locs ls hP hS hl)
theorem go_iload_n {X : XT} {G : GT} {cc : ByteArray} {own : String} {pc : Nat} {lv : List (Nat × Value)} {st : List Value} {σ : St} (C : Cx X G cc own) (j : Nat) {n : Fin 4} {i : Nat} {x : Int32} (hk : lv[j]? = some (i, Value.int x)) (hi : (n : Nat) = i) (hd : decode cc pc = .ok (.iload_n n, 1)) (k : Go X G (pc + 1) lv (.int x :: st) σ) : Go X G pc lv st σ := by
  obtain ⟨p, l, e, R, s, m, args, below, meth, c, nL, A, Q, kc, ks⟩ := X
  exact fun H locs ls hP hS hl => lv_iload_n C.1 C.2.1 hd hi (lv_at hl j hk) (k H locs ls hP hS hl)
theorem go_iload {X : XT} {G : GT} {cc : ByteArray} {own : String} {pc : Nat} {lv : List (Nat × Value)} {st : List Value} {σ : St} (C : Cx X G cc own) (j : Nat) {i : Nat} {x : Int32} (hk : lv[j]? = some (i, Value.int x)) (hd : decode cc pc = .ok (.iload i, 2)) (k : Go X G (pc + 2) lv (.int x :: st) σ) : Go X G pc lv st σ := by
  obtain ⟨p, l, e, R, s, m, args, below, meth, c, nL, A, Q, kc, ks⟩ := X
  exact fun H locs ls hP hS hl => lv_iload C.1 C.2.1 hd (lv_at hl j hk) (k H locs ls hP hS hl)
theorem go_istore_n {X : XT} {G : GT} {cc : ByteArray} {own : String} {pc : Nat} {lv : List (Nat × Value)} {st : List Value} {σ : St} (C : Cx X G cc own) {n : Fin 4} {i : Nat} {x : Int32} {lv2 : List (Nat × Value)} (hi : (n : Nat) = i) (hn : i < X.2.2.2.2.2.2.2.2.2.2.1) (hl2 : (i, Value.int x) :: lv.filter (fun q => !(q.1 == i) && !(q.1 + 1 == i && q.2.category == 2)) = lv2) (hd : decode cc pc = .ok (.istore_n n, 1)) (k : Go X G (pc + 1) lv2 st σ) : Go X G pc lv (.int x :: st) σ := by
  obtain ⟨p, l, e, R, s, m, args, below, meth, c, nL, A, Q, kc, ks⟩ := X
  exact fun H locs ls hP hS hl => lv_istore_n C.1 C.2.1 hd hi hl hn hl2 (fun ls hl => (k H locs ls hP hS hl))
theorem go_istore {X : XT} {G : GT} {cc : ByteArray} {own : String} {pc : Nat} {lv : List (Nat × Value)} {st : List Value} {σ : St} (C : Cx X G cc own) {i : Nat} {x : Int32} {lv2 : List (Nat × Value)} (hn : i < X.2.2.2.2.2.2.2.2.2.2.1) (hl2 : (i, Value.int x) :: lv.filter (fun q => !(q.1 == i) && !(q.1 + 1 == i && q.2.category == 2)) = lv2) (hd : decode cc pc = .ok (.istore i, 2)) (k : Go X G (pc + 2) lv2 st σ) : Go X G pc lv (.int x :: st) σ := by
  obtain ⟨p, l, e, R, s, m, args, below, meth, c, nL, A, Q, kc, ks⟩ := X
  exact fun H locs ls hP hS hl => lv_istore C.1 C.2.1 hd hl hn hl2 (fun ls hl => (k H locs ls hP hS hl))
theorem go_lload_n {X : XT} {G : GT} {cc : ByteArray} {own : String} {pc : Nat} {lv : List (Nat × Value)} {st : List Value} {σ : St} (C : Cx X G cc own) (j : Nat) {n : Fin 4} {i : Nat} {x : Int64} (hk : lv[j]? = some (i, Value.long x)) (hi : (n : Nat) = i) (hd : decode cc pc = .ok (.lload_n n, 1)) (k : Go X G (pc + 1) lv (.long x :: st) σ) : Go X G pc lv st σ := by
  obtain ⟨p, l, e, R, s, m, args, below, meth, c, nL, A, Q, kc, ks⟩ := X
  exact fun H locs ls hP hS hl => lv_lload_n C.1 C.2.1 hd hi (lv_at hl j hk) (k H locs ls hP hS hl)
theorem go_lload {X : XT} {G : GT} {cc : ByteArray} {own : String} {pc : Nat} {lv : List (Nat × Value)} {st : List Value} {σ : St} (C : Cx X G cc own) (j : Nat) {i : Nat} {x : Int64} (hk : lv[j]? = some (i, Value.long x)) (hd : decode cc pc = .ok (.lload i, 2)) (k : Go X G (pc + 2) lv (.long x :: st) σ) : Go X G pc lv st σ := by
  obtain ⟨p, l, e, R, s, m, args, below, meth, c, nL, A, Q, kc, ks⟩ := X
  exact fun H locs ls hP hS hl => lv_lload C.1 C.2.1 hd (lv_at hl j hk) (k H locs ls hP hS hl)
theorem go_lstore_n {X : XT} {G : GT} {cc : ByteArray} {own : String} {pc : Nat} {lv : List (Nat × Value)} {st : List Value} {σ : St} (C : Cx X G cc own) {n : Fin 4} {i : Nat} {x : Int64} {lv2 : List (Nat × Value)} (hi : (n : Nat) = i) (hn : i + 1 < X.2.2.2.2.2.2.2.2.2.2.1) (hl2 : (i, Value.long x) :: lv.filter (fun q => !(q.1 == i) && (!(q.1 == i + 1) && !(q.1 + 1 == i && q.2.category == 2))) = lv2) (hd : decode cc pc = .ok (.lstore_n n, 1)) (k : Go X G (pc + 1) lv2 st σ) : Go X G pc lv (.long x :: st) σ := by
  obtain ⟨p, l, e, R, s, m, args, below, meth, c, nL, A, Q, kc, ks⟩ := X
  exact fun H locs ls hP hS hl => lv_lstore_n C.1 C.2.1 hd hi hl hn hl2 (fun ls hl => (k H locs ls hP hS hl))
theorem go_lstore {X : XT} {G : GT} {cc : ByteArray} {own : String} {pc : Nat} {lv : List (Nat × Value)} {st : List Value} {σ : St} (C : Cx X G cc own) {i : Nat} {x : Int64} {lv2 : List (Nat × Value)} (hn : i + 1 < X.2.2.2.2.2.2.2.2.2.2.1) (hl2 : (i, Value.long x) :: lv.filter (fun q => !(q.1 == i) && (!(q.1 == i + 1) && !(q.1 + 1 == i && q.2.category == 2))) = lv2) (hd : decode cc pc = .ok (.lstore i, 2)) (k : Go X G (pc + 2) lv2 st σ) : Go X G pc lv (.long x :: st) σ := by
  obtain ⟨p, l, e, R, s, m, args, below, meth, c, nL, A, Q, kc, ks⟩ := X
  exact fun H locs ls hP hS hl => lv_lstore C.1 C.2.1 hd hl hn hl2 (fun ls hl => (k H locs ls hP hS hl))
theorem go_aload_n {X : XT} {G : GT} {cc : ByteArray} {own : String} {pc : Nat} {lv : List (Nat × Value)} {st : List Value} {σ : St} (C : Cx X G cc own) (j : Nat) {n : Fin 4} {i : Nat} {x : Nat} (hk : lv[j]? = some (i, Value.ref x)) (hi : (n : Nat) = i) (hd : decode cc pc = .ok (.aload_n n, 1)) (k : Go X G (pc + 1) lv (.ref x :: st) σ) : Go X G pc lv st σ := by
  obtain ⟨p, l, e, R, s, m, args, below, meth, c, nL, A, Q, kc, ks⟩ := X
  exact fun H locs ls hP hS hl => lv_aload_n C.1 C.2.1 hd hi (lv_at hl j hk) (k H locs ls hP hS hl)
theorem go_aload {X : XT} {G : GT} {cc : ByteArray} {own : String} {pc : Nat} {lv : List (Nat × Value)} {st : List Value} {σ : St} (C : Cx X G cc own) (j : Nat) {i : Nat} {x : Nat} (hk : lv[j]? = some (i, Value.ref x)) (hd : decode cc pc = .ok (.aload i, 2)) (k : Go X G (pc + 2) lv (.ref x :: st) σ) : Go X G pc lv st σ := by
  obtain ⟨p, l, e, R, s, m, args, below, meth, c, nL, A, Q, kc, ks⟩ := X
  exact fun H locs ls hP hS hl => lv_aload C.1 C.2.1 hd (lv_at hl j hk) (k H locs ls hP hS hl)
theorem go_astore_n {X : XT} {G : GT} {cc : ByteArray} {own : String} {pc : Nat} {lv : List (Nat × Value)} {st : List Value} {σ : St} (C : Cx X G cc own) {n : Fin 4} {i : Nat} {x : Nat} {lv2 : List (Nat × Value)} (hi : (n : Nat) = i) (hn : i < X.2.2.2.2.2.2.2.2.2.2.1) (hl2 : (i, Value.ref x) :: lv.filter (fun q => !(q.1 == i) && !(q.1 + 1 == i && q.2.category == 2)) = lv2) (hd : decode cc pc = .ok (.astore_n n, 1)) (k : Go X G (pc + 1) lv2 st σ) : Go X G pc lv (.ref x :: st) σ := by
  obtain ⟨p, l, e, R, s, m, args, below, meth, c, nL, A, Q, kc, ks⟩ := X
  exact fun H locs ls hP hS hl => lv_astore_n C.1 C.2.1 hd hi hl hn hl2 (fun ls hl => (k H locs ls hP hS hl))
theorem go_astore {X : XT} {G : GT} {cc : ByteArray} {own : String} {pc : Nat} {lv : List (Nat × Value)} {st : List Value} {σ : St} (C : Cx X G cc own) {i : Nat} {x : Nat} {lv2 : List (Nat × Value)} (hn : i < X.2.2.2.2.2.2.2.2.2.2.1) (hl2 : (i, Value.ref x) :: lv.filter (fun q => !(q.1 == i) && !(q.1 + 1 == i && q.2.category == 2)) = lv2) (hd : decode cc pc = .ok (.astore i, 2)) (k : Go X G (pc + 2) lv2 st σ) : Go X G pc lv (.ref x :: st) σ := by
  obtain ⟨p, l, e, R, s, m, args, below, meth, c, nL, A, Q, kc, ks⟩ := X
  exact fun H locs ls hP hS hl => lv_astore C.1 C.2.1 hd hl hn hl2 (fun ls hl => (k H locs ls hP hS hl))
theorem go_iinc {X : XT} {G : GT} {cc : ByteArray} {own : String} {pc : Nat} {lv : List (Nat × Value)} {st : List Value} {σ : St} (C : Cx X G cc own) (j : Nat) {i : Nat} {n : Int} {x v : Int32} {lv2 : List (Nat × Value)} (hk : lv[j]? = some (i, Value.int x)) (hv : x + Int32.ofInt n = v) (hn : i < X.2.2.2.2.2.2.2.2.2.2.1) (hl2 : (i, Value.int v) :: lv.filter (fun q => !(q.1 == i) && !(q.1 + 1 == i && q.2.category == 2)) = lv2) (hd : decode cc pc = .ok (.iinc i n, 3)) (k : Go X G (pc + 3) lv2 st σ) : Go X G pc lv st σ := by
  obtain ⟨p, l, e, R, s, m, args, below, meth, c, nL, A, Q, kc, ks⟩ := X
  exact fun H locs ls hP hS hl => lv_iinc C.1 C.2.1 hd hl hk hv hn hl2 (fun ls hl => (k H locs ls hP hS hl))
theorem go_iadd {X : XT} {G : GT} {cc : ByteArray} {own : String} {pc : Nat} {lv : List (Nat × Value)} {st : List Value} {σ : St} (C : Cx X G cc own) {x y : Int32} (hd : decode cc pc = .ok (.iadd, 1)) (k : Go X G (pc + 1) lv (.int (x + y) :: st) σ) : Go X G pc lv (.int y :: .int x :: st) σ := by
  obtain ⟨p, l, e, R, s, m, args, below, meth, c, nL, A, Q, kc, ks⟩ := X
  exact fun H locs ls hP hS hl => lv_iadd C.1 C.2.1 hd (k H locs ls hP hS hl)
theorem go_isub {X : XT} {G : GT} {cc : ByteArray} {own : String} {pc : Nat} {lv : List (Nat × Value)} {st : List Value} {σ : St} (C : Cx X G cc own) {x y : Int32} (hd : decode cc pc = .ok (.isub, 1)) (k : Go X G (pc + 1) lv (.int (x - y) :: st) σ) : Go X G pc lv (.int y :: .int x :: st) σ := by
  obtain ⟨p, l, e, R, s, m, args, below, meth, c, nL, A, Q, kc, ks⟩ := X
  exact fun H locs ls hP hS hl => lv_isub C.1 C.2.1 hd (k H locs ls hP hS hl)
theorem go_imul {X : XT} {G : GT} {cc : ByteArray} {own : String} {pc : Nat} {lv : List (Nat × Value)} {st : List Value} {σ : St} (C : Cx X G cc own) {x y : Int32} (hd : decode cc pc = .ok (.imul, 1)) (k : Go X G (pc + 1) lv (.int (x * y) :: st) σ) : Go X G pc lv (.int y :: .int x :: st) σ := by
  obtain ⟨p, l, e, R, s, m, args, below, meth, c, nL, A, Q, kc, ks⟩ := X
  exact fun H locs ls hP hS hl => lv_imul C.1 C.2.1 hd (k H locs ls hP hS hl)
theorem go_iand {X : XT} {G : GT} {cc : ByteArray} {own : String} {pc : Nat} {lv : List (Nat × Value)} {st : List Value} {σ : St} (C : Cx X G cc own) {x y : Int32} (hd : decode cc pc = .ok (.iand, 1)) (k : Go X G (pc + 1) lv (.int (x &&& y) :: st) σ) : Go X G pc lv (.int y :: .int x :: st) σ := by
  obtain ⟨p, l, e, R, s, m, args, below, meth, c, nL, A, Q, kc, ks⟩ := X
  exact fun H locs ls hP hS hl => lv_iand C.1 C.2.1 hd (k H locs ls hP hS hl)
theorem go_ior {X : XT} {G : GT} {cc : ByteArray} {own : String} {pc : Nat} {lv : List (Nat × Value)} {st : List Value} {σ : St} (C : Cx X G cc own) {x y : Int32} (hd : decode cc pc = .ok (.ior, 1)) (k : Go X G (pc + 1) lv (.int (x ||| y) :: st) σ) : Go X G pc lv (.int y :: .int x :: st) σ := by
  obtain ⟨p, l, e, R, s, m, args, below, meth, c, nL, A, Q, kc, ks⟩ := X
  exact fun H locs ls hP hS hl => lv_ior C.1 C.2.1 hd (k H locs ls hP hS hl)
theorem go_ixor {X : XT} {G : GT} {cc : ByteArray} {own : String} {pc : Nat} {lv : List (Nat × Value)} {st : List Value} {σ : St} (C : Cx X G cc own) {x y : Int32} (hd : decode cc pc = .ok (.ixor, 1)) (k : Go X G (pc + 1) lv (.int (x ^^^ y) :: st) σ) : Go X G pc lv (.int y :: .int x :: st) σ := by
  obtain ⟨p, l, e, R, s, m, args, below, meth, c, nL, A, Q, kc, ks⟩ := X
  exact fun H locs ls hP hS hl => lv_ixor C.1 C.2.1 hd (k H locs ls hP hS hl)
theorem go_ishl {X : XT} {G : GT} {cc : ByteArray} {own : String} {pc : Nat} {lv : List (Nat × Value)} {st : List Value} {σ : St} (C : Cx X G cc own) {x y : Int32} (hd : decode cc pc = .ok (.ishl, 1)) (k : Go X G (pc + 1) lv (.int (x <<< (y &&& 31)) :: st) σ) : Go X G pc lv (.int y :: .int x :: st) σ := by
  obtain ⟨p, l, e, R, s, m, args, below, meth, c, nL, A, Q, kc, ks⟩ := X
  exact fun H locs ls hP hS hl => lv_ishl C.1 C.2.1 hd (k H locs ls hP hS hl)
theorem go_ishr {X : XT} {G : GT} {cc : ByteArray} {own : String} {pc : Nat} {lv : List (Nat × Value)} {st : List Value} {σ : St} (C : Cx X G cc own) {x y : Int32} (hd : decode cc pc = .ok (.ishr, 1)) (k : Go X G (pc + 1) lv (.int (x >>> (y &&& 31)) :: st) σ) : Go X G pc lv (.int y :: .int x :: st) σ := by
  obtain ⟨p, l, e, R, s, m, args, below, meth, c, nL, A, Q, kc, ks⟩ := X
  exact fun H locs ls hP hS hl => lv_ishr C.1 C.2.1 hd (k H locs ls hP hS hl)
theorem go_iushr {X : XT} {G : GT} {cc : ByteArray} {own : String} {pc : Nat} {lv : List (Nat × Value)} {st : List Value} {σ : St} (C : Cx X G cc own) {x y : Int32} (hd : decode cc pc = .ok (.iushr, 1)) (k : Go X G (pc + 1) lv (.int ((x.toUInt32 >>> (y.toUInt32 &&& Int32.toUInt32 31)).toInt32) :: st) σ) : Go X G pc lv (.int y :: .int x :: st) σ := by
  obtain ⟨p, l, e, R, s, m, args, below, meth, c, nL, A, Q, kc, ks⟩ := X
  exact fun H locs ls hP hS hl => lv_iushr C.1 C.2.1 hd rfl (k H locs ls hP hS hl)
theorem go_ladd {X : XT} {G : GT} {cc : ByteArray} {own : String} {pc : Nat} {lv : List (Nat × Value)} {st : List Value} {σ : St} (C : Cx X G cc own) {x y : Int64} (hd : decode cc pc = .ok (.ladd, 1)) (k : Go X G (pc + 1) lv (.long (x + y) :: st) σ) : Go X G pc lv (.long y :: .long x :: st) σ := by
  obtain ⟨p, l, e, R, s, m, args, below, meth, c, nL, A, Q, kc, ks⟩ := X
  exact fun H locs ls hP hS hl => lv_ladd C.1 C.2.1 hd (k H locs ls hP hS hl)
theorem go_lsub {X : XT} {G : GT} {cc : ByteArray} {own : String} {pc : Nat} {lv : List (Nat × Value)} {st : List Value} {σ : St} (C : Cx X G cc own) {x y : Int64} (hd : decode cc pc = .ok (.lsub, 1)) (k : Go X G (pc + 1) lv (.long (x - y) :: st) σ) : Go X G pc lv (.long y :: .long x :: st) σ := by
  obtain ⟨p, l, e, R, s, m, args, below, meth, c, nL, A, Q, kc, ks⟩ := X
  exact fun H locs ls hP hS hl => lv_lsub C.1 C.2.1 hd (k H locs ls hP hS hl)
theorem go_lmul {X : XT} {G : GT} {cc : ByteArray} {own : String} {pc : Nat} {lv : List (Nat × Value)} {st : List Value} {σ : St} (C : Cx X G cc own) {x y : Int64} (hd : decode cc pc = .ok (.lmul, 1)) (k : Go X G (pc + 1) lv (.long (x * y) :: st) σ) : Go X G pc lv (.long y :: .long x :: st) σ := by
  obtain ⟨p, l, e, R, s, m, args, below, meth, c, nL, A, Q, kc, ks⟩ := X
  exact fun H locs ls hP hS hl => lv_lmul C.1 C.2.1 hd (k H locs ls hP hS hl)
theorem go_land {X : XT} {G : GT} {cc : ByteArray} {own : String} {pc : Nat} {lv : List (Nat × Value)} {st : List Value} {σ : St} (C : Cx X G cc own) {x y : Int64} (hd : decode cc pc = .ok (.land, 1)) (k : Go X G (pc + 1) lv (.long (x &&& y) :: st) σ) : Go X G pc lv (.long y :: .long x :: st) σ := by
  obtain ⟨p, l, e, R, s, m, args, below, meth, c, nL, A, Q, kc, ks⟩ := X
  exact fun H locs ls hP hS hl => lv_land C.1 C.2.1 hd (k H locs ls hP hS hl)
theorem go_lor {X : XT} {G : GT} {cc : ByteArray} {own : String} {pc : Nat} {lv : List (Nat × Value)} {st : List Value} {σ : St} (C : Cx X G cc own) {x y : Int64} (hd : decode cc pc = .ok (.lor, 1)) (k : Go X G (pc + 1) lv (.long (x ||| y) :: st) σ) : Go X G pc lv (.long y :: .long x :: st) σ := by
  obtain ⟨p, l, e, R, s, m, args, below, meth, c, nL, A, Q, kc, ks⟩ := X
  exact fun H locs ls hP hS hl => lv_lor C.1 C.2.1 hd (k H locs ls hP hS hl)
theorem go_lxor {X : XT} {G : GT} {cc : ByteArray} {own : String} {pc : Nat} {lv : List (Nat × Value)} {st : List Value} {σ : St} (C : Cx X G cc own) {x y : Int64} (hd : decode cc pc = .ok (.lxor, 1)) (k : Go X G (pc + 1) lv (.long (x ^^^ y) :: st) σ) : Go X G pc lv (.long y :: .long x :: st) σ := by
  obtain ⟨p, l, e, R, s, m, args, below, meth, c, nL, A, Q, kc, ks⟩ := X
  exact fun H locs ls hP hS hl => lv_lxor C.1 C.2.1 hd (k H locs ls hP hS hl)
theorem go_idiv {X : XT} {G : GT} {cc : ByteArray} {own : String} {pc : Nat} {lv : List (Nat × Value)} {st : List Value} {σ : St} (C : Cx X G cc own) {x y : Int32} (hne : ¬ y = 0) (hd : decode cc pc = .ok (.idiv, 1)) (k : Go X G (pc + 1) lv (.int (x / y) :: st) σ) : Go X G pc lv (.int y :: .int x :: st) σ := by
  obtain ⟨p, l, e, R, s, m, args, below, meth, c, nL, A, Q, kc, ks⟩ := X
  exact fun H locs ls hP hS hl => lv_idiv C.1 C.2.1 hd hne (k H locs ls hP hS hl)
theorem go_irem {X : XT} {G : GT} {cc : ByteArray} {own : String} {pc : Nat} {lv : List (Nat × Value)} {st : List Value} {σ : St} (C : Cx X G cc own) {x y : Int32} (hne : ¬ y = 0) (hd : decode cc pc = .ok (.irem, 1)) (k : Go X G (pc + 1) lv (.int (x - x / y * y) :: st) σ) : Go X G pc lv (.int y :: .int x :: st) σ := by
  obtain ⟨p, l, e, R, s, m, args, below, meth, c, nL, A, Q, kc, ks⟩ := X
  exact fun H locs ls hP hS hl => lv_irem C.1 C.2.1 hd hne (k H locs ls hP hS hl)
theorem go_ldiv {X : XT} {G : GT} {cc : ByteArray} {own : String} {pc : Nat} {lv : List (Nat × Value)} {st : List Value} {σ : St} (C : Cx X G cc own) {x y : Int64} (hne : ¬ y = 0) (hd : decode cc pc = .ok (.ldiv, 1)) (k : Go X G (pc + 1) lv (.long (x / y) :: st) σ) : Go X G pc lv (.long y :: .long x :: st) σ := by
  obtain ⟨p, l, e, R, s, m, args, below, meth, c, nL, A, Q, kc, ks⟩ := X
  exact fun H locs ls hP hS hl => lv_ldiv C.1 C.2.1 hd hne (k H locs ls hP hS hl)
theorem go_lrem {X : XT} {G : GT} {cc : ByteArray} {own : String} {pc : Nat} {lv : List (Nat × Value)} {st : List Value} {σ : St} (C : Cx X G cc own) {x y : Int64} (hne : ¬ y = 0) (hd : decode cc pc = .ok (.lrem, 1)) (k : Go X G (pc + 1) lv (.long (x - x / y * y) :: st) σ) : Go X G pc lv (.long y :: .long x :: st) σ := by
  obtain ⟨p, l, e, R, s, m, args, below, meth, c, nL, A, Q, kc, ks⟩ := X
  exact fun H locs ls hP hS hl => lv_lrem C.1 C.2.1 hd hne (k H locs ls hP hS hl)
theorem go_lushr {X : XT} {G : GT} {cc : ByteArray} {own : String} {pc : Nat} {lv : List (Nat × Value)} {st : List Value} {σ : St} (C : Cx X G cc own) {x : Int64} {y : Int32} (hd : decode cc pc = .ok (.lushr, 1)) (k : Go X G (pc + 1) lv (.long ((x.toUInt64 >>> (y.toInt64.toUInt64 &&& Int64.toUInt64 63)).toInt64) :: st) σ) : Go X G pc lv (.int y :: .long x :: st) σ := by
  obtain ⟨p, l, e, R, s, m, args, below, meth, c, nL, A, Q, kc, ks⟩ := X
  exact fun H locs ls hP hS hl => lv_lushr C.1 C.2.1 hd rfl (k H locs ls hP hS hl)
theorem go_lshl {X : XT} {G : GT} {cc : ByteArray} {own : String} {pc : Nat} {lv : List (Nat × Value)} {st : List Value} {σ : St} (C : Cx X G cc own) {x : Int64} {y : Int32} (hd : decode cc pc = .ok (.lshl, 1)) (k : Go X G (pc + 1) lv (.long (x <<< (y.toInt64 &&& 63)) :: st) σ) : Go X G pc lv (.int y :: .long x :: st) σ := by
  obtain ⟨p, l, e, R, s, m, args, below, meth, c, nL, A, Q, kc, ks⟩ := X
  exact fun H locs ls hP hS hl => lv_lshl C.1 C.2.1 hd rfl (k H locs ls hP hS hl)
theorem go_lshr {X : XT} {G : GT} {cc : ByteArray} {own : String} {pc : Nat} {lv : List (Nat × Value)} {st : List Value} {σ : St} (C : Cx X G cc own) {x : Int64} {y : Int32} (hd : decode cc pc = .ok (.lshr, 1)) (k : Go X G (pc + 1) lv (.long (x >>> (y.toInt64 &&& 63)) :: st) σ) : Go X G pc lv (.int y :: .long x :: st) σ := by
  obtain ⟨p, l, e, R, s, m, args, below, meth, c, nL, A, Q, kc, ks⟩ := X
  exact fun H locs ls hP hS hl => lv_lshr C.1 C.2.1 hd rfl (k H locs ls hP hS hl)
theorem go_ineg {X : XT} {G : GT} {cc : ByteArray} {own : String} {pc : Nat} {lv : List (Nat × Value)} {st : List Value} {σ : St} (C : Cx X G cc own) {x : Int32} (hd : decode cc pc = .ok (.ineg, 1)) (k : Go X G (pc + 1) lv (.int (-x) :: st) σ) : Go X G pc lv (.int x :: st) σ := by
  obtain ⟨p, l, e, R, s, m, args, below, meth, c, nL, A, Q, kc, ks⟩ := X
  exact fun H locs ls hP hS hl => lv_ineg C.1 C.2.1 hd (k H locs ls hP hS hl)
theorem go_lneg {X : XT} {G : GT} {cc : ByteArray} {own : String} {pc : Nat} {lv : List (Nat × Value)} {st : List Value} {σ : St} (C : Cx X G cc own) {x : Int64} (hd : decode cc pc = .ok (.lneg, 1)) (k : Go X G (pc + 1) lv (.long (-x) :: st) σ) : Go X G pc lv (.long x :: st) σ := by
  obtain ⟨p, l, e, R, s, m, args, below, meth, c, nL, A, Q, kc, ks⟩ := X
  exact fun H locs ls hP hS hl => lv_lneg C.1 C.2.1 hd (k H locs ls hP hS hl)
theorem go_i2l {X : XT} {G : GT} {cc : ByteArray} {own : String} {pc : Nat} {lv : List (Nat × Value)} {st : List Value} {σ : St} (C : Cx X G cc own) {x : Int32} (hd : decode cc pc = .ok (.i2l, 1)) (k : Go X G (pc + 1) lv (.long x.toInt64 :: st) σ) : Go X G pc lv (.int x :: st) σ := by
  obtain ⟨p, l, e, R, s, m, args, below, meth, c, nL, A, Q, kc, ks⟩ := X
  exact fun H locs ls hP hS hl => lv_i2l C.1 C.2.1 hd rfl (k H locs ls hP hS hl)
theorem go_l2i {X : XT} {G : GT} {cc : ByteArray} {own : String} {pc : Nat} {lv : List (Nat × Value)} {st : List Value} {σ : St} (C : Cx X G cc own) {x : Int64} (hd : decode cc pc = .ok (.l2i, 1)) (k : Go X G (pc + 1) lv (.int x.toInt32 :: st) σ) : Go X G pc lv (.long x :: st) σ := by
  obtain ⟨p, l, e, R, s, m, args, below, meth, c, nL, A, Q, kc, ks⟩ := X
  exact fun H locs ls hP hS hl => lv_l2i C.1 C.2.1 hd rfl (k H locs ls hP hS hl)
theorem go_i2b {X : XT} {G : GT} {cc : ByteArray} {own : String} {pc : Nat} {lv : List (Nat × Value)} {st : List Value} {σ : St} (C : Cx X G cc own) {x : Int32} (hd : decode cc pc = .ok (.i2b, 1)) (k : Go X G (pc + 1) lv (.int x.toInt8.toInt32 :: st) σ) : Go X G pc lv (.int x :: st) σ := by
  obtain ⟨p, l, e, R, s, m, args, below, meth, c, nL, A, Q, kc, ks⟩ := X
  exact fun H locs ls hP hS hl => lv_i2b C.1 C.2.1 hd rfl (k H locs ls hP hS hl)
theorem go_i2c {X : XT} {G : GT} {cc : ByteArray} {own : String} {pc : Nat} {lv : List (Nat × Value)} {st : List Value} {σ : St} (C : Cx X G cc own) {x : Int32} (hd : decode cc pc = .ok (.i2c, 1)) (k : Go X G (pc + 1) lv (.int (x.toUInt32 % 65536).toInt32 :: st) σ) : Go X G pc lv (.int x :: st) σ := by
  obtain ⟨p, l, e, R, s, m, args, below, meth, c, nL, A, Q, kc, ks⟩ := X
  exact fun H locs ls hP hS hl => lv_i2c C.1 C.2.1 hd rfl (k H locs ls hP hS hl)
theorem go_lcmp {X : XT} {G : GT} {cc : ByteArray} {own : String} {pc : Nat} {lv : List (Nat × Value)} {st : List Value} {σ : St} (C : Cx X G cc own) {x y : Int64} (hd : decode cc pc = .ok (.lcmp, 1)) (k : Go X G (pc + 1) lv (.int (lg_cmp x y) :: st) σ) : Go X G pc lv (.long y :: .long x :: st) σ := by
  obtain ⟨p, l, e, R, s, m, args, below, meth, c, nL, A, Q, kc, ks⟩ := X
  exact fun H locs ls hP hS hl => W.lcmp C.1 C.2.1 hd (k H locs ls hP hS hl)
theorem go_dup {X : XT} {G : GT} {cc : ByteArray} {own : String} {pc : Nat} {lv : List (Nat × Value)} {st : List Value} {σ : St} (C : Cx X G cc own) {a : Value} (ha : a.category = 1) (hd : decode cc pc = .ok (.dup, 1)) (k : Go X G (pc + 1) lv (a :: a :: st) σ) : Go X G pc lv (a :: st) σ := by
  obtain ⟨p, l, e, R, s, m, args, below, meth, c, nL, A, Q, kc, ks⟩ := X
  exact fun H locs ls hP hS hl => lv_dup C.1 C.2.1 hd ha (k H locs ls hP hS hl)
theorem go_pop {X : XT} {G : GT} {cc : ByteArray} {own : String} {pc : Nat} {lv : List (Nat × Value)} {st : List Value} {σ : St} (C : Cx X G cc own) {a : Value} (ha : a.category = 1) (hd : decode cc pc = .ok (.pop, 1)) (k : Go X G (pc + 1) lv st σ) : Go X G pc lv (a :: st) σ := by
  obtain ⟨p, l, e, R, s, m, args, below, meth, c, nL, A, Q, kc, ks⟩ := X
  exact fun H locs ls hP hS hl => lv_pop C.1 C.2.1 hd ha (k H locs ls hP hS hl)
theorem go_dup_x1 {X : XT} {G : GT} {cc : ByteArray} {own : String} {pc : Nat} {lv : List (Nat × Value)} {st : List Value} {σ : St} (C : Cx X G cc own) {a b : Value} (ha : a.category = 1) (hb : b.category = 1) (hd : decode cc pc = .ok (.dup_x1, 1)) (k : Go X G (pc + 1) lv (a :: b :: a :: st) σ) : Go X G pc lv (a :: b :: st) σ := by
  obtain ⟨p, l, e, R, s, m, args, below, meth, c, nL, A, Q, kc, ks⟩ := X
  exact fun H locs ls hP hS hl => lv_dup_x1 C.1 C.2.1 hd ha hb (k H locs ls hP hS hl)
theorem go_dup2 {X : XT} {G : GT} {cc : ByteArray} {own : String} {pc : Nat} {lv : List (Nat × Value)} {st : List Value} {σ : St} (C : Cx X G cc own) {a b : Value} (ha : a.category = 1) (hb : b.category = 1) (hd : decode cc pc = .ok (.dup2, 1)) (k : Go X G (pc + 1) lv (a :: b :: a :: b :: st) σ) : Go X G pc lv (a :: b :: st) σ := by
  obtain ⟨p, l, e, R, s, m, args, below, meth, c, nL, A, Q, kc, ks⟩ := X
  exact fun H locs ls hP hS hl => lv_dup2_11 C.1 C.2.1 hd ha hb (k H locs ls hP hS hl)
theorem go_dup2l {X : XT} {G : GT} {cc : ByteArray} {own : String} {pc : Nat} {lv : List (Nat × Value)} {st : List Value} {σ : St} (C : Cx X G cc own) {a : Value} (ha : a.category = 2) (hd : decode cc pc = .ok (.dup2, 1)) (k : Go X G (pc + 1) lv (a :: a :: st) σ) : Go X G pc lv (a :: st) σ := by
  obtain ⟨p, l, e, R, s, m, args, below, meth, c, nL, A, Q, kc, ks⟩ := X
  exact fun H locs ls hP hS hl => lv_dup2_2 C.1 C.2.1 hd ha (k H locs ls hP hS hl)
theorem go_goto {X : XT} {G : GT} {cc : ByteArray} {own : String} {pc : Nat} {lv : List (Nat × Value)} {st : List Value} {σ : St} (C : Cx X G cc own) {off : Int} (tgt : Nat) (ht : (pc : Int) + off = (tgt : Int)) (hd : decode cc pc = .ok (.goto off, 3)) (k : Go X G tgt lv st σ) : Go X G pc lv st σ := by
  obtain ⟨p, l, e, R, s, m, args, below, meth, c, nL, A, Q, kc, ks⟩ := X
  exact fun H locs ls hP hS hl => lv_goto C.1 C.2.1 hd ht (k H locs ls hP hS hl)
theorem go_if_eq {X : XT} {G : GT} {cc : ByteArray} {own : String} {pc : Nat} {lv : List (Nat × Value)} {st : List Value} {σ : St} (C : Cx X G cc own) {x : Int32} {off : Int} (tgt : Nat) (ht : (pc : Int) + off = (tgt : Int)) (hd : decode cc pc = .ok (.ifCond .eq off, 3)) (kt : x = 0 → Go X G tgt lv st σ) (kf : ¬ x = 0 → Go X G (pc + 3) lv st σ) : Go X G pc lv (.int x :: st) σ := by
  obtain ⟨p, l, e, R, s, m, args, below, meth, c, nL, A, Q, kc, ks⟩ := X
  exact fun H locs ls hP hS hl => lv_if_eq C.1 C.2.1 hd ht (fun h => kt h H locs ls hP hS hl) (fun h => kf h H locs ls hP hS hl)
theorem go_if_ne {X : XT} {G : GT} {cc : ByteArray} {own : String} {pc : Nat} {lv : List (Nat × Value)} {st : List Value} {σ : St} (C : Cx X G cc own) {x : Int32} {off : Int} (tgt : Nat) (ht : (pc : Int) + off = (tgt : Int)) (hd : decode cc pc = .ok (.ifCond .ne off, 3)) (kt : ¬ x = 0 → Go X G tgt lv st σ) (kf : x = 0 → Go X G (pc + 3) lv st σ) : Go X G pc lv (.int x :: st) σ := by
  obtain ⟨p, l, e, R, s, m, args, below, meth, c, nL, A, Q, kc, ks⟩ := X
  exact fun H locs ls hP hS hl => lv_if_ne C.1 C.2.1 hd ht (fun h => kt h H locs ls hP hS hl) (fun h => kf h H locs ls hP hS hl)
theorem go_if_lt {X : XT} {G : GT} {cc : ByteArray} {own : String} {pc : Nat} {lv : List (Nat × Value)} {st : List Value} {σ : St} (C : Cx X G cc own) {x : Int32} {off : Int} (tgt : Nat) (ht : (pc : Int) + off = (tgt : Int)) (hd : decode cc pc = .ok (.ifCond .lt off, 3)) (kt : x < 0 → Go X G tgt lv st σ) (kf : ¬ x < 0 → Go X G (pc + 3) lv st σ) : Go X G pc lv (.int x :: st) σ := by
  obtain ⟨p, l, e, R, s, m, args, below, meth, c, nL, A, Q, kc, ks⟩ := X
  exact fun H locs ls hP hS hl => lv_if_lt C.1 C.2.1 hd ht (fun h => kt h H locs ls hP hS hl) (fun h => kf h H locs ls hP hS hl)
theorem go_if_ge {X : XT} {G : GT} {cc : ByteArray} {own : String} {pc : Nat} {lv : List (Nat × Value)} {st : List Value} {σ : St} (C : Cx X G cc own) {x : Int32} {off : Int} (tgt : Nat) (ht : (pc : Int) + off = (tgt : Int)) (hd : decode cc pc = .ok (.ifCond .ge off, 3)) (kt : 0 ≤ x → Go X G tgt lv st σ) (kf : ¬ 0 ≤ x → Go X G (pc + 3) lv st σ) : Go X G pc lv (.int x :: st) σ := by
  obtain ⟨p, l, e, R, s, m, args, below, meth, c, nL, A, Q, kc, ks⟩ := X
  exact fun H locs ls hP hS hl => lv_if_ge C.1 C.2.1 hd ht (fun h => kt h H locs ls hP hS hl) (fun h => kf h H locs ls hP hS hl)
theorem go_if_gt {X : XT} {G : GT} {cc : ByteArray} {own : String} {pc : Nat} {lv : List (Nat × Value)} {st : List Value} {σ : St} (C : Cx X G cc own) {x : Int32} {off : Int} (tgt : Nat) (ht : (pc : Int) + off = (tgt : Int)) (hd : decode cc pc = .ok (.ifCond .gt off, 3)) (kt : 0 < x → Go X G tgt lv st σ) (kf : ¬ 0 < x → Go X G (pc + 3) lv st σ) : Go X G pc lv (.int x :: st) σ := by
  obtain ⟨p, l, e, R, s, m, args, below, meth, c, nL, A, Q, kc, ks⟩ := X
  exact fun H locs ls hP hS hl => lv_if_gt C.1 C.2.1 hd ht (fun h => kt h H locs ls hP hS hl) (fun h => kf h H locs ls hP hS hl)
theorem go_if_le {X : XT} {G : GT} {cc : ByteArray} {own : String} {pc : Nat} {lv : List (Nat × Value)} {st : List Value} {σ : St} (C : Cx X G cc own) {x : Int32} {off : Int} (tgt : Nat) (ht : (pc : Int) + off = (tgt : Int)) (hd : decode cc pc = .ok (.ifCond .le off, 3)) (kt : x ≤ 0 → Go X G tgt lv st σ) (kf : ¬ x ≤ 0 → Go X G (pc + 3) lv st σ) : Go X G pc lv (.int x :: st) σ := by
  obtain ⟨p, l, e, R, s, m, args, below, meth, c, nL, A, Q, kc, ks⟩ := X
  exact fun H locs ls hP hS hl => lv_if_le C.1 C.2.1 hd ht (fun h => kt h H locs ls hP hS hl) (fun h => kf h H locs ls hP hS hl)
theorem go_icmp_eq {X : XT} {G : GT} {cc : ByteArray} {own : String} {pc : Nat} {lv : List (Nat × Value)} {st : List Value} {σ : St} (C : Cx X G cc own) {x y : Int32} {off : Int} (tgt : Nat) (ht : (pc : Int) + off = (tgt : Int)) (hd : decode cc pc = .ok (.if_icmp .eq off, 3)) (kt : x = y → Go X G tgt lv st σ) (kf : ¬ x = y → Go X G (pc + 3) lv st σ) : Go X G pc lv (.int y :: .int x :: st) σ := by
  obtain ⟨p, l, e, R, s, m, args, below, meth, c, nL, A, Q, kc, ks⟩ := X
  exact fun H locs ls hP hS hl => lv_icmp_eq C.1 C.2.1 hd ht (fun h => kt h H locs ls hP hS hl) (fun h => kf h H locs ls hP hS hl)
theorem go_icmp_ne {X : XT} {G : GT} {cc : ByteArray} {own : String} {pc : Nat} {lv : List (Nat × Value)} {st : List Value} {σ : St} (C : Cx X G cc own) {x y : Int32} {off : Int} (tgt : Nat) (ht : (pc : Int) + off = (tgt : Int)) (hd : decode cc pc = .ok (.if_icmp .ne off, 3)) (kt : ¬ x = y → Go X G tgt lv st σ) (kf : x = y → Go X G (pc + 3) lv st σ) : Go X G pc lv (.int y :: .int x :: st) σ := by
  obtain ⟨p, l, e, R, s, m, args, below, meth, c, nL, A, Q, kc, ks⟩ := X
  exact fun H locs ls hP hS hl => lv_icmp_ne C.1 C.2.1 hd ht (fun h => kt h H locs ls hP hS hl) (fun h => kf h H locs ls hP hS hl)
theorem go_icmp_lt {X : XT} {G : GT} {cc : ByteArray} {own : String} {pc : Nat} {lv : List (Nat × Value)} {st : List Value} {σ : St} (C : Cx X G cc own) {x y : Int32} {off : Int} (tgt : Nat) (ht : (pc : Int) + off = (tgt : Int)) (hd : decode cc pc = .ok (.if_icmp .lt off, 3)) (kt : x < y → Go X G tgt lv st σ) (kf : ¬ x < y → Go X G (pc + 3) lv st σ) : Go X G pc lv (.int y :: .int x :: st) σ := by
  obtain ⟨p, l, e, R, s, m, args, below, meth, c, nL, A, Q, kc, ks⟩ := X
  exact fun H locs ls hP hS hl => lv_icmp_lt C.1 C.2.1 hd ht (fun h => kt h H locs ls hP hS hl) (fun h => kf h H locs ls hP hS hl)
theorem go_icmp_ge {X : XT} {G : GT} {cc : ByteArray} {own : String} {pc : Nat} {lv : List (Nat × Value)} {st : List Value} {σ : St} (C : Cx X G cc own) {x y : Int32} {off : Int} (tgt : Nat) (ht : (pc : Int) + off = (tgt : Int)) (hd : decode cc pc = .ok (.if_icmp .ge off, 3)) (kt : y ≤ x → Go X G tgt lv st σ) (kf : ¬ y ≤ x → Go X G (pc + 3) lv st σ) : Go X G pc lv (.int y :: .int x :: st) σ := by
  obtain ⟨p, l, e, R, s, m, args, below, meth, c, nL, A, Q, kc, ks⟩ := X
  exact fun H locs ls hP hS hl => lv_icmp_ge C.1 C.2.1 hd ht (fun h => kt h H locs ls hP hS hl) (fun h => kf h H locs ls hP hS hl)
theorem go_icmp_gt {X : XT} {G : GT} {cc : ByteArray} {own : String} {pc : Nat} {lv : List (Nat × Value)} {st : List Value} {σ : St} (C : Cx X G cc own) {x y : Int32} {off : Int} (tgt : Nat) (ht : (pc : Int) + off = (tgt : Int)) (hd : decode cc pc = .ok (.if_icmp .gt off, 3)) (kt : y < x → Go X G tgt lv st σ) (kf : ¬ y < x → Go X G (pc + 3) lv st σ) : Go X G pc lv (.int y :: .int x :: st) σ := by
  obtain ⟨p, l, e, R, s, m, args, below, meth, c, nL, A, Q, kc, ks⟩ := X
  exact fun H locs ls hP hS hl => lv_icmp_gt C.1 C.2.1 hd ht (fun h => kt h H locs ls hP hS hl) (fun h => kf h H locs ls hP hS hl)
theorem go_icmp_le {X : XT} {G : GT} {cc : ByteArray} {own : String} {pc : Nat} {lv : List (Nat × Value)} {st : List Value} {σ : St} (C : Cx X G cc own) {x y : Int32} {off : Int} (tgt : Nat) (ht : (pc : Int) + off = (tgt : Int)) (hd : decode cc pc = .ok (.if_icmp .le off, 3)) (kt : x ≤ y → Go X G tgt lv st σ) (kf : ¬ x ≤ y → Go X G (pc + 3) lv st σ) : Go X G pc lv (.int y :: .int x :: st) σ := by
  obtain ⟨p, l, e, R, s, m, args, below, meth, c, nL, A, Q, kc, ks⟩ := X
  exact fun H locs ls hP hS hl => lv_icmp_le C.1 C.2.1 hd ht (fun h => kt h H locs ls hP hS hl) (fun h => kf h H locs ls hP hS hl)
theorem lcm_eq (x y : Int64) : lg_cmp x y = 0 ↔ x = y := by
  unfold lg_cmp
  simp only [gt_iff_lt, Int64.lt_iff_toInt_lt, Int64.le_iff_toInt_le, ← Int64.toInt_inj]
  repeat' split
  all_goals first | (simp; done) | (simp; omega) | omega
theorem lcm_lt (x y : Int64) : lg_cmp x y < 0 ↔ x < y := by
  unfold lg_cmp
  simp only [gt_iff_lt, Int64.lt_iff_toInt_lt, Int64.le_iff_toInt_le, ← Int64.toInt_inj]
  repeat' split
  all_goals first | (simp; done) | (simp; omega) | omega
theorem lcm_ge (x y : Int64) : 0 ≤ lg_cmp x y ↔ y ≤ x := by
  unfold lg_cmp
  simp only [gt_iff_lt, Int64.lt_iff_toInt_lt, Int64.le_iff_toInt_le, ← Int64.toInt_inj]
  repeat' split
  all_goals first | (simp; done) | (simp; omega) | omega
theorem lcm_gt (x y : Int64) : 0 < lg_cmp x y ↔ y < x := by
  unfold lg_cmp
  simp only [gt_iff_lt, Int64.lt_iff_toInt_lt, Int64.le_iff_toInt_le, ← Int64.toInt_inj]
  repeat' split
  all_goals first | (simp; done) | (simp; omega) | omega
theorem lcm_le (x y : Int64) : lg_cmp x y ≤ 0 ↔ x ≤ y := by
  unfold lg_cmp
  simp only [gt_iff_lt, Int64.lt_iff_toInt_lt, Int64.le_iff_toInt_le, ← Int64.toInt_inj]
  repeat' split
  all_goals first | (simp; done) | (simp; omega) | omega
theorem go_lc_eq {X : XT} {G : GT} {cc : ByteArray} {own : String} {pc : Nat} {lv : List (Nat × Value)} {st : List Value} {σ : St} (C : Cx X G cc own) {x y : Int64} {off : Int} (tgt : Nat) (ht : (pc + 1 : Int) + off = (tgt : Int)) (hd : decode cc pc = .ok (.lcmp, 1)) (hd2 : decode cc (pc + 1) = .ok (.ifCond .eq off, 3)) (kt : x = y → Go X G tgt lv st σ) (kf : ¬ x = y → Go X G (pc + 1 + 3) lv st σ) : Go X G pc lv (.long y :: .long x :: st) σ :=
  go_lcmp C hd (go_if_eq C tgt (by simpa using ht) hd2 (fun h => kt ((lcm_eq x y).mp h)) (fun h => kf (fun z => h ((lcm_eq x y).mpr z))))
theorem go_lc_ne {X : XT} {G : GT} {cc : ByteArray} {own : String} {pc : Nat} {lv : List (Nat × Value)} {st : List Value} {σ : St} (C : Cx X G cc own) {x y : Int64} {off : Int} (tgt : Nat) (ht : (pc + 1 : Int) + off = (tgt : Int)) (hd : decode cc pc = .ok (.lcmp, 1)) (hd2 : decode cc (pc + 1) = .ok (.ifCond .ne off, 3)) (kt : ¬ x = y → Go X G tgt lv st σ) (kf : x = y → Go X G (pc + 1 + 3) lv st σ) : Go X G pc lv (.long y :: .long x :: st) σ :=
  go_lcmp C hd (go_if_ne C tgt (by simpa using ht) hd2 (fun h => kt (fun z => h ((lcm_eq x y).mpr z))) (fun h => kf ((lcm_eq x y).mp h)))
theorem go_lc_lt {X : XT} {G : GT} {cc : ByteArray} {own : String} {pc : Nat} {lv : List (Nat × Value)} {st : List Value} {σ : St} (C : Cx X G cc own) {x y : Int64} {off : Int} (tgt : Nat) (ht : (pc + 1 : Int) + off = (tgt : Int)) (hd : decode cc pc = .ok (.lcmp, 1)) (hd2 : decode cc (pc + 1) = .ok (.ifCond .lt off, 3)) (kt : x < y → Go X G tgt lv st σ) (kf : ¬ x < y → Go X G (pc + 1 + 3) lv st σ) : Go X G pc lv (.long y :: .long x :: st) σ :=
  go_lcmp C hd (go_if_lt C tgt (by simpa using ht) hd2 (fun h => kt ((lcm_lt x y).mp h)) (fun h => kf (fun z => h ((lcm_lt x y).mpr z))))
theorem go_lc_ge {X : XT} {G : GT} {cc : ByteArray} {own : String} {pc : Nat} {lv : List (Nat × Value)} {st : List Value} {σ : St} (C : Cx X G cc own) {x y : Int64} {off : Int} (tgt : Nat) (ht : (pc + 1 : Int) + off = (tgt : Int)) (hd : decode cc pc = .ok (.lcmp, 1)) (hd2 : decode cc (pc + 1) = .ok (.ifCond .ge off, 3)) (kt : y ≤ x → Go X G tgt lv st σ) (kf : ¬ y ≤ x → Go X G (pc + 1 + 3) lv st σ) : Go X G pc lv (.long y :: .long x :: st) σ :=
  go_lcmp C hd (go_if_ge C tgt (by simpa using ht) hd2 (fun h => kt ((lcm_ge x y).mp h)) (fun h => kf (fun z => h ((lcm_ge x y).mpr z))))
theorem go_lc_gt {X : XT} {G : GT} {cc : ByteArray} {own : String} {pc : Nat} {lv : List (Nat × Value)} {st : List Value} {σ : St} (C : Cx X G cc own) {x y : Int64} {off : Int} (tgt : Nat) (ht : (pc + 1 : Int) + off = (tgt : Int)) (hd : decode cc pc = .ok (.lcmp, 1)) (hd2 : decode cc (pc + 1) = .ok (.ifCond .gt off, 3)) (kt : y < x → Go X G tgt lv st σ) (kf : ¬ y < x → Go X G (pc + 1 + 3) lv st σ) : Go X G pc lv (.long y :: .long x :: st) σ :=
  go_lcmp C hd (go_if_gt C tgt (by simpa using ht) hd2 (fun h => kt ((lcm_gt x y).mp h)) (fun h => kf (fun z => h ((lcm_gt x y).mpr z))))
theorem go_lc_le {X : XT} {G : GT} {cc : ByteArray} {own : String} {pc : Nat} {lv : List (Nat × Value)} {st : List Value} {σ : St} (C : Cx X G cc own) {x y : Int64} {off : Int} (tgt : Nat) (ht : (pc + 1 : Int) + off = (tgt : Int)) (hd : decode cc pc = .ok (.lcmp, 1)) (hd2 : decode cc (pc + 1) = .ok (.ifCond .le off, 3)) (kt : x ≤ y → Go X G tgt lv st σ) (kf : ¬ x ≤ y → Go X G (pc + 1 + 3) lv st σ) : Go X G pc lv (.long y :: .long x :: st) σ :=
  go_lcmp C hd (go_if_le C tgt (by simpa using ht) hd2 (fun h => kt ((lcm_le x y).mp h)) (fun h => kf (fun z => h ((lcm_le x y).mpr z))))
