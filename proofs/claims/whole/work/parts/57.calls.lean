theorem go_get {X : XT} {G : GT} {cc : ByteArray} {own : String} {pc : Nat} {lv : List (Nat × Value)} {st : List Value} {σ : St} (C : Cx X G cc own) {q index ci k : Nat} {fs : CS → List Value} {v : Value} (hs : ∀ x, wcc G q x = .inr (ci, fs x)) (hq : q < G.2.2.2.2.2) (L : Lk own index ci k) (hv : (fs (σ q))[k]? = some v) (hd : decode cc pc = .ok (.getfield index, 3)) (kk : Go X G (pc + 3) lv (v :: st) σ) : Go X G pc lv (.ref (G.2.2.1 q) :: st) σ := by
  obtain ⟨p, l, e, R, s, m, args, below, meth, c, nL, A, Q, kc, ks⟩ := X
  obtain ⟨N, T, n, h1, h2, h3, h4⟩ := L
  exact fun H locs ls hP hS hl => va_get C.1 C.2.1 C.2.2.2.2.1 h2 C.2.2.2.1 C.2.2.2.2.2.2.1 hP q (by rw [wl_get hq, hs]) h1 k h3 (C.2.2.2.2.1 _ h4) (fun _ h => h) hv hd (kk H locs ls hP hS hl)
theorem go_put {X : XT} {G : GT} {cc : ByteArray} {own : String} {pc : Nat} {lv : List (Nat × Value)} {st : List Value} {σ : St} (C : Cx X G cc own) {q index ci k : Nat} {fs : CS → List Value} {ty : FieldType} {v : Value} (x1 : CS) (hs : ∀ x, wcc G q x = .inr (ci, fs x)) (hq : q < G.2.2.2.2.2) (L : Lkp own index ci k ty) (hn : narrow ty v = v) (hfit : fits ty v = true) (hl : k < (fs (σ q)).length) (hx : (fs (σ q)).set k v = fs x1) (hd : decode cc pc = .ok (.putfield index, 3)) (kk : Go X G (pc + 3) lv st (va_up σ q x1)) : Go X G pc lv (v :: .ref (G.2.2.1 q) :: st) σ := by
  obtain ⟨p, l, e, R, s, m, args, below, meth, c, nL, A, Q, kc, ks⟩ := X
  obtain ⟨N, T, n, ty0, h1, h2, h3, h4, h5, h6, h7, h8⟩ := L
  refine fun H locs ls hP hS hv => va_put C.1 C.2.1 C.2.2.2.2.1 h2 ty0 h5 h6 C.2.2.2.1 C.2.2.2.2.2.2.1 hP (C.2.2.2.2.2.2.2.2.1 σ) hS q (by rw [wl_get hq, hs]) h1 k h3 (C.2.2.2.2.1 _ h4) (fun _ h => h) h7 h8 hn hfit hl hd fun H1 locs1 hP1 _ hS1 => kk H1 locs1 ls ?_ hS1 hv
  rw [hx, ← hs, wl_set] at hP1
  exact hP1
theorem go_iald {X : XT} {G : GT} {cc : ByteArray} {own : String} {pc : Nat} {lv : List (Nat × Value)} {st : List Value} {σ : St} (C : Cx X G cc own) {q n : Nat} {i : Int32} (hs : ∀ x, wcc G q x = .inl (G.2.1 0, n, .inl x.1)) (hq : q < G.2.2.2.2.2) (hin : vp_in i n) (hd : decode cc pc = .ok (.iaload, 1)) (kk : Go X G (pc + 1) lv (.int (gI σ q i.toNatClampNeg) :: st) σ) : Go X G pc lv (.int i :: .ref (G.2.2.1 q) :: st) σ := by
  obtain ⟨p, l, e, R, s, m, args, below, meth, c, nL, A, Q, kc, ks⟩ := X
  exact fun H locs ls hP hS hl => va_iald C.1 C.2.1 C.2.2.2.2.2.2.1 hP q 0 (by rw [wl_get hq, hs]; rfl) rfl hin hd (kk H locs ls hP hS hl)
theorem go_bald {X : XT} {G : GT} {cc : ByteArray} {own : String} {pc : Nat} {lv : List (Nat × Value)} {st : List Value} {σ : St} (C : Cx X G cc own) {q n : Nat} {i : Int32} (hs : ∀ x, wcc G q x = .inl (G.2.1 2, n, .inl x.1)) (hq : q < G.2.2.2.2.2) (hin : vp_in i n) (hd : decode cc pc = .ok (.baload, 1)) (kk : Go X G (pc + 1) lv (.int (gI σ q i.toNatClampNeg) :: st) σ) : Go X G pc lv (.int i :: .ref (G.2.2.1 q) :: st) σ := by
  obtain ⟨p, l, e, R, s, m, args, below, meth, c, nL, A, Q, kc, ks⟩ := X
  exact fun H locs ls hP hS hl => va_bald C.1 C.2.1 C.2.2.2.2.2.2.1 hP q 2 (by rw [wl_get hq, hs]; rfl) rfl hin hd (kk H locs ls hP hS hl)
theorem go_zald {X : XT} {G : GT} {cc : ByteArray} {own : String} {pc : Nat} {lv : List (Nat × Value)} {st : List Value} {σ : St} (C : Cx X G cc own) {q n : Nat} {i : Int32} (hs : ∀ x, wcc G q x = .inl (G.2.1 3, n, .inl x.1)) (hq : q < G.2.2.2.2.2) (hin : vp_in i n) (hd : decode cc pc = .ok (.baload, 1)) (kk : Go X G (pc + 1) lv (.int (gI σ q i.toNatClampNeg) :: st) σ) : Go X G pc lv (.int i :: .ref (G.2.2.1 q) :: st) σ := by
  obtain ⟨p, l, e, R, s, m, args, below, meth, c, nL, A, Q, kc, ks⟩ := X
  exact fun H locs ls hP hS hl => va_zald C.1 C.2.1 C.2.2.2.2.2.2.1 hP q 3 (by rw [wl_get hq, hs]; rfl) rfl hin hd (kk H locs ls hP hS hl)
theorem go_lald {X : XT} {G : GT} {cc : ByteArray} {own : String} {pc : Nat} {lv : List (Nat × Value)} {st : List Value} {σ : St} (C : Cx X G cc own) {q n : Nat} {i : Int32} (hs : ∀ x, wcc G q x = .inl (G.2.1 1, n, .inr (.inl x.2.1))) (hq : q < G.2.2.2.2.2) (hin : vp_in i n) (hd : decode cc pc = .ok (.laload, 1)) (kk : Go X G (pc + 1) lv (.long (gL σ q i.toNatClampNeg) :: st) σ) : Go X G pc lv (.int i :: .ref (G.2.2.1 q) :: st) σ := by
  obtain ⟨p, l, e, R, s, m, args, below, meth, c, nL, A, Q, kc, ks⟩ := X
  exact fun H locs ls hP hS hl => va_lald C.1 C.2.1 C.2.2.2.2.2.2.1 hP q 1 (by rw [wl_get hq, hs]; rfl) rfl hin hd (kk H locs ls hP hS hl)
theorem go_iast {X : XT} {G : GT} {cc : ByteArray} {own : String} {pc : Nat} {lv : List (Nat × Value)} {st : List Value} {σ : St} (C : Cx X G cc own) {q n : Nat} {i : Int32} {v : Int32} (hs : ∀ x, wcc G q x = .inl (G.2.1 0, n, .inl x.1)) (hq : q < G.2.2.2.2.2) (hin : vp_in i n) (hd : decode cc pc = .ok (.iastore, 1)) (kk : Go X G (pc + 1) lv st (sI σ q i.toNatClampNeg v)) : Go X G pc lv (.int v :: .int i :: .ref (G.2.2.1 q) :: st) σ := by
  obtain ⟨p, l, e, R, s, m, args, below, meth, c, nL, A, Q, kc, ks⟩ := X
  refine fun H locs ls hP hS hl => va_iast C.1 C.2.1 C.2.2.2.2.2.2.1 hP (C.2.2.2.2.2.2.2.2.1 σ) hS q 0 (by rw [wl_get hq, hs]) rfl hin hd fun H1 locs1 hP1 _ hS1 => kk H1 locs1 ls ?_ hS1 hl
  have e := hs (upd (σ q).1 i.toNatClampNeg v, (σ q).2)
  dsimp only at e
  rw [← e, wl_set] at hP1
  exact hP1
theorem go_bast {X : XT} {G : GT} {cc : ByteArray} {own : String} {pc : Nat} {lv : List (Nat × Value)} {st : List Value} {σ : St} (C : Cx X G cc own) {q n : Nat} {i : Int32} {v : Int32} (hs : ∀ x, wcc G q x = .inl (G.2.1 2, n, .inl x.1)) (hq : q < G.2.2.2.2.2) (hin : vp_in i n) (hd : decode cc pc = .ok (.bastore, 1)) (kk : Go X G (pc + 1) lv st (sI σ q i.toNatClampNeg (vp_nar .byte v))) : Go X G pc lv (.int v :: .int i :: .ref (G.2.2.1 q) :: st) σ := by
  obtain ⟨p, l, e, R, s, m, args, below, meth, c, nL, A, Q, kc, ks⟩ := X
  refine fun H locs ls hP hS hl => va_bast C.1 C.2.1 C.2.2.2.2.2.2.1 hP (C.2.2.2.2.2.2.2.2.1 σ) hS q 2 (by rw [wl_get hq, hs]) rfl hin hd fun H1 locs1 hP1 _ hS1 => kk H1 locs1 ls ?_ hS1 hl
  have e := hs (upd (σ q).1 i.toNatClampNeg (vp_nar .byte v), (σ q).2)
  dsimp only at e
  rw [← e, wl_set] at hP1
  exact hP1
theorem go_zast {X : XT} {G : GT} {cc : ByteArray} {own : String} {pc : Nat} {lv : List (Nat × Value)} {st : List Value} {σ : St} (C : Cx X G cc own) {q n : Nat} {i : Int32} {v : Int32} (hs : ∀ x, wcc G q x = .inl (G.2.1 3, n, .inl x.1)) (hq : q < G.2.2.2.2.2) (hin : vp_in i n) (hd : decode cc pc = .ok (.bastore, 1)) (kk : Go X G (pc + 1) lv st (sI σ q i.toNatClampNeg (vp_nar .boolean v))) : Go X G pc lv (.int v :: .int i :: .ref (G.2.2.1 q) :: st) σ := by
  obtain ⟨p, l, e, R, s, m, args, below, meth, c, nL, A, Q, kc, ks⟩ := X
  refine fun H locs ls hP hS hl => va_zast C.1 C.2.1 C.2.2.2.2.2.2.1 hP (C.2.2.2.2.2.2.2.2.1 σ) hS q 3 (by rw [wl_get hq, hs]) rfl hin hd fun H1 locs1 hP1 _ hS1 => kk H1 locs1 ls ?_ hS1 hl
  have e := hs (upd (σ q).1 i.toNatClampNeg (vp_nar .boolean v), (σ q).2)
  dsimp only at e
  rw [← e, wl_set] at hP1
  exact hP1
theorem go_last {X : XT} {G : GT} {cc : ByteArray} {own : String} {pc : Nat} {lv : List (Nat × Value)} {st : List Value} {σ : St} (C : Cx X G cc own) {q n : Nat} {i : Int32} {v : Int64} (hs : ∀ x, wcc G q x = .inl (G.2.1 1, n, .inr (.inl x.2.1))) (hq : q < G.2.2.2.2.2) (hin : vp_in i n) (hd : decode cc pc = .ok (.lastore, 1)) (kk : Go X G (pc + 1) lv st (sL σ q i.toNatClampNeg v)) : Go X G pc lv (.long v :: .int i :: .ref (G.2.2.1 q) :: st) σ := by
  obtain ⟨p, l, e, R, s, m, args, below, meth, c, nL, A, Q, kc, ks⟩ := X
  refine fun H locs ls hP hS hl => va_last C.1 C.2.1 C.2.2.2.2.2.2.1 hP (C.2.2.2.2.2.2.2.2.1 σ) hS q 1 (by rw [wl_get hq, hs]) rfl hin hd fun H1 locs1 hP1 _ hS1 => kk H1 locs1 ls ?_ hS1 hl
  have e := hs ((σ q).1, vp_updL (σ q).2.1 i.toNatClampNeg v, (σ q).2.2)
  dsimp only at e
  rw [← e, wl_set] at hP1
  exact hP1
theorem go_alen {X : XT} {G : GT} {cc : ByteArray} {own : String} {pc : Nat} {lv : List (Nat × Value)} {st : List Value} {σ : St} (C : Cx X G cc own) {q n t0 : Nat} {ca : ClassId} {ty : FieldType} {f : CS → ((Nat → Int32) ⊕ (Nat → Int64) ⊕ (Nat → UInt32) ⊕ (Nat → UInt64) ⊕ (Nat → Option Nat))} {v : Int32} (hs : ∀ x, wcc G q x = .inl (ca, n, f x)) (hq : q < G.2.2.2.2.2) (ht : (tysL G)[t0]? = some (ca, ty)) (hv : Int32.ofNat n = v) (hd : decode cc pc = .ok (.arraylength, 1)) (kk : Go X G (pc + 1) lv (.int v :: st) σ) : Go X G pc lv (.ref (G.2.2.1 q) :: st) σ := by
  obtain ⟨p, l, e, R, s, m, args, below, meth, c, nL, A, Q, kc, ks⟩ := X
  exact fun H locs ls hP hS hl => va_alen C.1 C.2.1 C.2.2.2.2.2.2.1 hP q t0 (by rw [wl_get hq, hs]) ht hv hd (kk H locs ls hP hS hl)
theorem go_tald {X : XT} {G : GT} {cc : ByteArray} {own : String} {pc : Nat} {lv : List (Nat × Value)} {st : List Value} {σ : St} (C : Cx X G cc own) {i : Int32} (hN : 75 ≤ G.2.2.2.2.2) (hin : vp_in i 6) (hd : decode cc pc = .ok (.aaload, 1)) (kk : Go X G (pc + 1) lv (.ref (G.2.2.1 (30 + 2 * i.toNatClampNeg)) :: st) σ) : Go X G pc lv (.int i :: .ref (G.2.2.1 29) :: st) σ := by
  obtain ⟨p, l, e, R, s, m, args, below, meth, c, nL, A, Q, kc, ks⟩ := X
  exact fun H locs ls hP hS hl => va_aldq C.1 C.2.1 C.2.2.2.2.2.2.1 hP 29 4 (f := fun i => some (G.2.2.1 (30 + 2 * i))) (by rw [wl_get (Nat.lt_of_lt_of_le (by decide) hN)]; rfl) rfl hin hd (kk H locs ls hP hS hl)
theorem go_copy {X : XT} {G : GT} {cc : ByteArray} {own : String} {pc : Nat} {lv : List (Nat × Value)} {st : List Value} {σ : St} (C : Cx X G cc own) {q0 q1 n0 n1 index d : Nat} {l0 : Launch} {sp dp n : Int32} (hR : Rm X l0 (d + 1)) (h0 : ∀ x, wcc G q0 x = .inl (G.2.1 0, n0, .inl x.1)) (hq0 : q0 < G.2.2.2.2.2) (h1 : ∀ x, wcc G q1 x = .inl (G.2.1 0, n1, .inl x.1)) (hq1 : q1 < G.2.2.2.2.2) (hlink : Cond.methodLink own index arraycopyName ∈ uW) (hnat : Cond.native arraycopyName ∈ uW) (hstat : Cond.static arraycopyName ∈ uW) (hini : Cond.initialized "java/lang/System" ∈ uW) (a1 : ¬ sp < 0) (a2 : ¬ dp < 0) (a3 : ¬ n < 0) (a4 : sp.toNatClampNeg + n.toNatClampNeg ≤ n0) (a5 : dp.toNatClampNeg + n.toNatClampNeg ≤ n1) (hst : (st.map fun v => v.category).sum ≤ 8) (hd : decode cc pc = .ok (.invokestatic index, 3)) (kk : Go X G (pc + 3) lv st (sA σ q1 (va_cpy (σ q0).1 (σ q1).1 sp.toNatClampNeg dp.toNatClampNeg n.toNatClampNeg))) : Go X G pc lv (.int n :: .int dp :: .ref (G.2.2.1 q1) :: .int sp :: .ref (G.2.2.1 q0) :: st) σ := by
  obtain ⟨p, l, e, R, s, m, args, below, meth, c, nL, A, Q, kc, ks⟩ := X
  refine fun H locs ls hP hS hl => va_copyi C.1 C.2.1 (C.2.2.1.trans hl.1.symm) C.2.2.2.1 (C.2.2.2.2.1 _ hlink) (C.2.2.2.2.1 _ hnat) (C.2.2.2.2.1 _ hstat) (C.2.2.2.2.1 _ hini) C.2.2.2.2.2.2.1 hP (C.2.2.2.2.2.2.2.2.1 σ) hS q0 q1 0 0 (by rw [wl_get hq0, h0]) (by rw [wl_get hq1, h1]) rfl rfl rfl a1 a2 a3 a4 a5 (fun _ _ => rfl) ?_ ?_ hd fun H1 locs1 hP1 _ hS1 => kk H1 locs1 ls ?_ hS1 hl
  · have := hR.2.1; omega
  · have := hR.2.2.1
    have h : nativeFrameWords "java/lang/System" "arraycopy" 5 + 11 ≤ 80 := by decide +kernel
    omega
  · have e := h1 (va_cpy (σ q0).1 (σ q1).1 sp.toNatClampNeg dp.toNatClampNeg n.toNatClampNeg, (σ q1).2)
    dsimp only at e
    rw [← e, wl_set] at hP1
    exact hP1
theorem go_iret {X : XT} {G : GT} {cc : ByteArray} {own : String} {pc : Nat} {lv : List (Nat × Value)} {σ : St} (C : Cx X G cc own) {v : Int32} {post : Option Value → St → Prop} (hr : Rt X G (some .int) post) (h : post (some (.int v)) σ) (hd : decode cc pc = .ok (.ireturn, 1)) : Go X G pc lv [.int v] σ := by
  obtain ⟨p, l, e, R, s, m, args, below, meth, c, nL, A, Q, kc, ks⟩ := X
  obtain ⟨hr, rfl⟩ := hr
  exact fun H locs ls hP hS hl => W.iret C.1 C.2.1 hr (fun t ht hW => ⟨⟨_, σ, rfl, h, by rw [ht]; exact hP, va_K.moved hW.alike C.2.2.2.2.2.2.1⟩, hS.F ht⟩) hS.2.2 hd C.2.2.2.2.2.1
theorem go_lret {X : XT} {G : GT} {cc : ByteArray} {own : String} {pc : Nat} {lv : List (Nat × Value)} {σ : St} (C : Cx X G cc own) {v : Int64} {post : Option Value → St → Prop} (hr : Rt X G (some .long) post) (h : post (some (.long v)) σ) (hd : decode cc pc = .ok (.lreturn, 1)) : Go X G pc lv [.long v] σ := by
  obtain ⟨p, l, e, R, s, m, args, below, meth, c, nL, A, Q, kc, ks⟩ := X
  obtain ⟨hr, rfl⟩ := hr
  exact fun H locs ls hP hS hl => W.lret C.1 C.2.1 hr (fun t ht hW => ⟨⟨_, σ, rfl, h, by rw [ht]; exact hP, va_K.moved hW.alike C.2.2.2.2.2.2.1⟩, hS.F ht⟩) hS.2.2 hd C.2.2.2.2.2.1
theorem go_vret {X : XT} {G : GT} {cc : ByteArray} {own : String} {pc : Nat} {lv : List (Nat × Value)} {σ : St} (C : Cx X G cc own)  {post : Option Value → St → Prop} (hr : Rt X G none post) (h : post none σ) (hd : decode cc pc = .ok (.return_, 1)) : Go X G pc lv [] σ := by
  obtain ⟨p, l, e, R, s, m, args, below, meth, c, nL, A, Q, kc, ks⟩ := X
  obtain ⟨hr, rfl⟩ := hr
  exact fun H locs ls hP hS hl => W.vret C.1 C.2.1 hr (fun t ht hW => ⟨⟨_, σ, rfl, h, by rw [ht]; exact hP, va_K.moved hW.alike C.2.2.2.2.2.2.1⟩, hS.F ht⟩) hS.2.2 hd C.2.2.2.2.2.1
theorem go_zret {X : XT} {G : GT} {cc : ByteArray} {own : String} {pc : Nat} {lv : List (Nat × Value)} {σ : St} (C : Cx X G cc own) {v : Int32} {ty : FieldType} {post : Option Value → St → Prop} (hr : Rt X G (some ty) post) (hn : narrow ty (.int v) = .int v) (h : post (some (.int v)) σ) (hd : decode cc pc = .ok (.ireturn, 1)) : Go X G pc lv [.int v] σ := by
  obtain ⟨p, l, e, R, s, m, args, below, meth, c, nL, A, Q, kc, ks⟩ := X
  obtain ⟨hr, rfl⟩ := hr
  exact fun H locs ls hP hS hl => W.zret C.1 C.2.1 hr hn (fun t ht hW => ⟨⟨_, σ, rfl, h, by rw [ht]; exact hP, va_K.moved hW.alike C.2.2.2.2.2.2.1⟩, hS.F ht⟩) hS.2.2 hd C.2.2.2.2.2.1
theorem bool_nar {v : Int32} (h : v = 0 ∨ v = 1) : narrow .boolean (.int v) = .int v := by
  rcases h with rfl | rfl <;> rfl
theorem bool_fit {v : Int32} (h : v = 0 ∨ v = 1) : fits .boolean (.int v) = true := by
  rcases h with rfl | rfl <;> rfl
/-! calls -/
theorem w_call {p : Program} {l : Launch} {e : Env} {R : Room} {s : State} {m : MethodId} {args : Array Value} {below : List Frame} {meth : Method} {c : Code} {H : Heap} {locs : List Loc} {cells slots pc : Nat} {Q : State → Prop} {ls : Array Slot} {stk rest : List Value} {a : Array Value} {A A1 free : Nat → Prop} {G : GT} {post : Option Value → St → Prop}
    (hr : va_Run p l e R s m args below meth c H locs cells slots 0 0 (F0 m pc ls stk) rest (Qg G post A1 a) free) (hS : va_S A s.heap H locs) (hA : ∀ q, q < H.size → A1 q → A q) (hf : ∀ q, free q → A q)
    (kk : ∀ (v : Option Value) (σ : St) (H1 : Heap) (locs1 : List Loc), post v σ → va_P G.1 vwCl (wl G σ) H1 → va_S A s.heap H1 locs1 → W p l e R s m args below meth c H1 locs1 cells slots Q (F0 m (pc + 3) ls (v.toList ++ rest))) : W p l e R s m args below meth c H locs cells slots Q (F0 m pc ls stk) := by
  intro T hT X
  obtain ⟨v, st₀, t, T', L, h0, X', hL, e1, e2, ⟨⟨v', σ', hv, hp, hP, hK⟩, hz, hk⟩, st⟩ := hr T hT X
  cases hv
  rw [h0] at hz hk
  obtain ⟨t2, a1, b1⟩ := kk v σ' T'.heap (locs ++ L) hp (by rw [e1]; exact hP)
    ⟨Nat.le_trans hS.1 (by rw [e1]; exact hz), fun q h1 h2 => by rw [e1, hk q (Nat.lt_of_lt_of_le h1 hS.1) (fun z => h2 (hA q (Nat.lt_of_lt_of_le h1 hS.1) z))]; exact hS.2.1 q h1 h2, fun q hq => by
      rcases List.mem_append.mp hq with h | h
      · exact hS.2.2 q h
      · exact hf _ (hL q h)⟩ T' rfl X'
  exact ⟨t2, st t2 a1, b1⟩
/-- the start of a callee out of the caller's state -/
theorem sp_pre {p : Program} {l : Launch} {e : Env} {R : Room} {s : State} {m : MethodId} {args : Array Value} {below : List Frame} {meth : Method} {c : Code} {nL : Nat} {A : Nat → Prop} {Q : State → Prop} {kc ks : Nat} {G : GT} {cc : ByteArray} {own : String} {σ : St} {H : Heap} {locs : List Loc} (C : Cx (p, l, e, R, s, m, args, below, meth, c, nL, A, Q, kc, ks) G cc own) (hP : va_P G.1 vwCl (wl G σ) H) (hS : va_S A s.heap H locs) :
    (∀ q, va_A (wl G σ) H.size q → A q) ∧ ∀ U : State, U.heap = H → s.WarmedH U.vm → U.heap.size = H.size ∧ va_P G.1 vwCl (wl G σ) U.heap ∧ va_K G.1 vwCl (tysL G) U ∧ va_D (fun _ => True) (wl G σ) ∧ Ex G (va_A (wl G σ) H.size) U U.heap := by
  have hD := C.2.2.2.2.2.2.2.2.1 σ
  have hF : ∀ q, va_A (wl G σ) H.size q → A q := fun q h => by
    rcases h with ⟨k, e, h⟩ | h
    · exact hD.2 k _ h
    · exact C.2.2.2.2.2.2.2.1 q (Nat.le_trans hS.1 h)
  refine ⟨hF, fun U hU hW => ⟨by rw [hU], by rw [hU]; exact hP, va_K.moved hW.alike C.2.2.2.2.2.2.1, hD.weaken (fun _ _ _ _ => trivial), ?_⟩⟩
  rw [hU]
  exact Ex.warm hW ((C.2.2.2.2.2.2.2.2.2.kept (fun a h1 h2 => hS.2.1 a h1 h2)).narrow hF)
theorem sp_blind {as : List Value} {G : GT} {σ : St} {sz : Nat} : FrameBlind (va_Pc as (fun U => U.heap.size = sz ∧ va_P G.1 vwCl (wl G σ) U.heap ∧ va_K G.1 vwCl (tysL G) U ∧ va_D (fun _ => True) (wl G σ) ∧ Ex G (va_A (wl G σ) sz) U U.heap)) := by
  intro a U g mk q
  obtain ⟨q0, q1, qP, qK, qD, qE⟩ := q
  exact ⟨q0, q1, qP, va_K.moved (u := U) (U := U.calling g mk a) (Vm.Alike.refl U.vm) qK, qD, Ex.same (s := U) (U := U.calling g mk a) rfl qE⟩
theorem go_callS {X : XT} {G : GT} {cc : ByteArray} {own : String} {pc : Nat} {lv : List (Nat × Value)} {st stk : List Value} {σ : St} (C : Cx X G cc own) {l0 : Launch} {d d' index maxL n : Nat} {y : MethodName} {bytes : ByteArray} {ret : Option FieldType} {as : List Value} {post : Option Value → St → Prop}
    (hR : Rm X l0 d) (w : CwS own index y bytes maxL ret n) (hdd : d' + 1 ≤ d) (hmx : Nat.ble maxL 81 = true) (hn : as.length = n) (hstk : stk = as.reverse ++ st) (hst : (st.map fun v => v.category).sum ≤ 8) (hd : decode cc pc = .ok (.invokestatic index, 3)) (M : Sp l0 G d' y bytes maxL ret as σ post) (kk : ∀ v τ, post v τ → Go X G (pc + 3) lv (v.toList ++ st) τ) : Go X G pc lv stk σ := by
  obtain ⟨p, l, e, R, s, m, args, below, meth, c, nL, A, Q, kc, ks⟩ := X
  obtain ⟨rfl, r1, r2, r3, r4⟩ := hR

  have hmx := Nat.le_of_ble_eq_true hmx
  obtain ⟨w1, w2, w3, w4, w5⟩ := w
  intro H locs ls hP hS hl
  obtain ⟨hF, hU⟩ := sp_pre C hP hS
  refine w_call (A1 := va_A (wl G σ) H.size) (va_runS (As := as) (rest := st) ⟨C.1, C.2.1, C.2.2.1, C.2.2.2.1, C.2.2.2.2.1⟩ (M H.size) ⟨callB_of n C.2.2.2.2.1 (uW_code w4) rfl rfl rfl (C.2.2.2.2.1 _ w3) (C.2.2.2.2.1 _ w1) w5 ⟨by show d' + 1 ≤ R.frames; omega, by show 8 + (maxL + 11) + 100 * d' ≤ R.locals; omega⟩, C.2.2.2.2.1 _ w2⟩ ⟨sp_blind, fun U h1 h2 => ⟨rfl, hU U h1 h2⟩⟩ rfl hn hl.1 hstk (lv_room hst) hd ⟨by omega, by omega⟩) hS (fun q _ h => hF q h) hF fun v τ H1 locs1 hp hP1 hS1 => kk v τ hp H1 locs1 ls hP1 hS1 hl
theorem go_callV {X : XT} {G : GT} {cc : ByteArray} {own : String} {pc : Nat} {lv : List (Nat × Value)} {st stk : List Value} {σ : St} (C : Cx X G cc own) {l0 : Launch} {d d' index maxL n q ci : Nat} {y : MethodName} {bytes : ByteArray} {ret : Option FieldType} {as : List Value} {post : Option Value → St → Prop} {fs : CS → List Value}
    (hR : Rm X l0 d) (hs : ∀ x, wcc G q x = .inr (ci, fs x)) (hq : q < G.2.2.2.2.2) (w : CwV own index ci y bytes maxL ret n) (hdd : d' + 1 ≤ d) (hmx : Nat.ble maxL 81 = true) (hn : as.length = n) (hstk : stk = as.reverse ++ .ref (G.2.2.1 q) :: st) (hst : (st.map fun v => v.category).sum ≤ 8) (hd : decode cc pc = .ok (.invokevirtual index, 3)) (M : Sp l0 G d' y bytes maxL ret (.ref (G.2.2.1 q) :: as) σ post) (kk : ∀ v τ, post v τ → Go X G (pc + 3) lv (v.toList ++ st) τ) : Go X G pc lv stk σ := by
  obtain ⟨p, l, e, R, s, m, args, below, meth, c, nL, A, Q, kc, ks⟩ := X
  obtain ⟨rfl, r1, r2, r3, r4⟩ := hR

  have hmx := Nat.le_of_ble_eq_true hmx
  obtain ⟨w0, w1, w2, w6, w3, w4, w5⟩ := w
  intro H locs ls hP hS hl
  obtain ⟨hF, hU⟩ := sp_pre C hP hS
  cases hci : vwCl[ci]? with
  | none => rw [hci] at w0; cases w0
  | some z =>
    rw [hci] at w0
    have hz : z.1 = y.cls := Option.some.inj w0
    have hrc := va_recv C.2.2.2.2.2.2.1 hP hci (q0 := q) (a := G.2.2.1 q) (fs := fs (σ q)) (by rw [wl_get hq, hs])
    rw [hz] at hrc
    exact w_call (A1 := va_A (wl G σ) H.size) (va_runV (C := y.cls) (As := as) (rest := st) ⟨C.1, C.2.1, C.2.2.1, C.2.2.2.1, C.2.2.2.2.1⟩ (M H.size) ⟨callB_of n C.2.2.2.2.1 (uW_code w4) rfl rfl rfl (C.2.2.2.2.1 _ w3) (C.2.2.2.2.1 _ w1) w5 ⟨by show d' + 1 ≤ R.frames; omega, by show 8 + (maxL + 11) + 100 * d' ≤ R.locals; omega⟩, C.2.2.2.2.1 _ w2, C.2.2.2.2.1 _ w6⟩ ⟨sp_blind, hrc, fun U h1 h2 => ⟨rfl, hU U h1 h2⟩⟩ rfl hn hl.1 hstk (lv_room hst) hd ⟨by omega, by omega⟩) hS (fun q _ h => hF q h) hF fun v τ H1 locs1 hp hP1 hS1 => kk v τ hp H1 locs1 ls hP1 hS1 hl
theorem go_tableOut {X : XT} {G : GT} {cc : ByteArray} {own : String} {pc : Nat} {lv : List (Nat × Value)} {st : List Value} {σ : St} (C : Cx X G cc own) {dflt lo hi : Int} {offs : Array Int} {len : Nat} {x : Int32} (tgt : Nat) (h : x.toInt < lo ∨ hi < x.toInt) (ht : (pc : Int) + dflt = (tgt : Int)) (hd : decode cc pc = .ok (.tableswitch dflt lo hi offs, len)) (k : Go X G tgt lv st σ) : Go X G pc lv (.int x :: st) σ := by
  obtain ⟨p, l, e, R, s, m, args, below, meth, c, nL, A, Q, kc, ks⟩ := X
  exact fun H locs ls hP hS hl => lv_tableOut C.1 C.2.1 hd h ht (k H locs ls hP hS hl)
theorem go_tableIn {X : XT} {G : GT} {cc : ByteArray} {own : String} {pc : Nat} {lv : List (Nat × Value)} {st : List Value} {σ : St} (C : Cx X G cc own) {dflt lo hi off : Int} {offs : Array Int} {len : Nat} {x : Int32} (tgt : Nat) (h1 : ¬ x.toInt < lo) (h2 : ¬ hi < x.toInt) (ho : offs[(x.toInt - lo).toNat]? = some off) (ht : (pc : Int) + off = (tgt : Int)) (hd : decode cc pc = .ok (.tableswitch dflt lo hi offs, len)) (k : Go X G tgt lv st σ) : Go X G pc lv (.int x :: st) σ := by
  obtain ⟨p, l, e, R, s, m, args, below, meth, c, nL, A, Q, kc, ks⟩ := X
  exact fun H locs ls hP hS hl => lv_tableIn C.1 C.2.1 hd h1 h2 ho ht (k H locs ls hP hS hl)
theorem go_lookup {X : XT} {G : GT} {cc : ByteArray} {own : String} {pc : Nat} {lv : List (Nat × Value)} {st : List Value} {σ : St} (C : Cx X G cc own) {dflt off : Int} {ps : Array (Int × Int)} {len : Nat} {x : Int32} (tgt : Nat) (hp : (ps.toList.zip (ps.toList.drop 1)).all (fun (a, next) => a.1 < next.1) = true) (ho : Op.lookupswitch.offset ps.toList dflt x.toInt = off) (ht : (pc : Int) + off = (tgt : Int)) (hd : decode cc pc = .ok (.lookupswitch dflt ps, len)) (k : Go X G tgt lv st σ) : Go X G pc lv (.int x :: st) σ := by
  obtain ⟨p, l, e, R, s, m, args, below, meth, c, nL, A, Q, kc, ks⟩ := X
  exact fun H locs ls hP hS hl => lv_lookup C.1 C.2.1 hd hp ho ht (k H locs ls hP hS hl)
