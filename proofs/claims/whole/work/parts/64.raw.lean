/-! raw worlds: N cells, their addresses, what they hold -/
def wr (ad : Nat → Nat) (N : Nat) (h : Nat → va_E) : va_W := (List.range N).map (fun q => (ad q, h q))
theorem wr_get {ad : Nat → Nat} {N : Nat} {h : Nat → va_E} {q : Nat} (hq : q < N) : (wr ad N h)[q]? = some (ad q, h q) := by simp [wr, hq]
theorem wr_len (ad : Nat → Nat) (N : Nat) (h : Nat → va_E) : (wr ad N h).length = N := by simp [wr]
theorem wr_none {ad : Nat → Nat} {N : Nat} {h : Nat → va_E} {q : Nat} (hq : ¬ q < N) : (wr ad N h)[q]? = none := List.getElem?_eq_none (by rw [wr_len]; omega)
theorem wr_set (ad : Nat → Nat) (N : Nat) (h : Nat → va_E) (q : Nat) (e : va_E) : (wr ad N h).set q (ad q, e) = wr ad N (va_up h q e) := by
  refine List.ext_getElem? fun j => ?_
  rw [List.getElem?_set, wr_len]
  by_cases hj : j < N
  · rw [wr_get hj, wr_get hj]
    by_cases e1 : q = j
    · subst e1
      simp [hj, va_up]
    · have e2 : ¬ j = q := fun z => e1 z.symm
      simp [e1, va_up, e2]
  · rw [wr_none hj, wr_none hj]
    by_cases e1 : q = j
    · subst e1
      simp [hj]
    · simp [e1]
theorem wr_push (ad : Nat → Nat) (N : Nat) (h : Nat → va_E) (a : Nat) (e : va_E) : wr ad N h ++ [(a, e)] = wr (va_up ad N a) (N + 1) (va_up h N e) := by
  refine List.ext_getElem? fun j => ?_
  by_cases hj : j < N
  · rw [List.getElem?_append_left (by rw [wr_len]; exact hj), wr_get hj, wr_get (by omega)]
    have : ¬ j = N := by omega
    simp [va_up, this]
  · rw [List.getElem?_append_right (by rw [wr_len]; omega), wr_len]
    by_cases e1 : j = N
    · subst e1
      rw [wr_get (by omega)]
      simp [va_up]
    · rw [wr_none (by omega)]
      exact List.getElem?_eq_none (by simp; omega)
theorem byt_ok {n : Nat} (h : n ≤ 30000) (ty : FieldType) (hc : componentBytes ty ≤ 8) : n * componentBytes ty ≤ 536870912 := by
  have := Nat.mul_le_mul h hc
  omega
def va_ext (ad : Nat → Nat) (N : Nat) (qs : Nat → Nat) : Nat → Nat := fun q => if q < N then ad q else qs q
abbrev YT : Type := Program × Launch × Env × Room × State × MethodId × Array Value × List Frame × Method × Code × Nat × (Nat → Prop) × (State → Prop)
abbrev BT : Type := va_G × (Nat → ClassId) × (Nat → Nat) × (Nat → Nat)
abbrev gB (B : BT) (ad : Nat → Nat) (N : Nat) : GT := (B.1, B.2.1, ad, B.2.2.1, B.2.2.2, N)
abbrev tB (B : BT) : List (ClassId × FieldType) := [(B.2.1 0, .int), (B.2.1 1, .long), (B.2.1 2, .byte), (B.2.1 3, .boolean), (B.2.1 4, .object "CradleNames$Taste")]
def Gr (Y : YT) (B : BT) (ad : Nat → Nat) (N : Nat) (h : Nat → va_E) (kc ks pc : Nat) (lv : List (Nat × Value)) (st : List Value) : Prop := match Y with
  | (p, l, e, R, s, m, args, below, meth, c, nL, A, Q) => ∀ (H : Heap) (locs : List Loc) (ls : Array Slot), va_P B.1 vwCl (wr ad N h) H → va_D A (wr ad N h) → va_S A s.heap H locs → lv_has ls nL lv → W p l e R s m args below meth c H locs kc ks Q (F0 m pc ls st)
def CyR (Y : YT) (B : BT) (cc : ByteArray) (own : String) : Prop := match Y with
  | (p, _, _, _, s, m, args, _, meth, c, nL, A, _) => p.tables.exec = Jvm.exec ∧ c.code = cc ∧ c.maxLocals = nL ∧ s.vm.findClass own = some m.cls ∧ (∀ w ∈ uW, w.before args s = true) ∧ meth.locks = false ∧ va_K B.1 vwCl (tB B) s ∧ (∀ q, s.heap.size ≤ q → A q) ∧ Ex (gB B (fun q => q) 0) A s s.heap ∧ va_AO "CradleNames$Taste" s
def Ry (Y : YT) (l0 : Launch) (d mc ms : Nat) : Prop := match Y with
  | (_, l, _, R, _, _, _, _, _, _, _, _, _) => l = l0 ∧ d ≤ R.frames ∧ 100 * d ≤ R.locals ∧ mc ≤ R.cells ∧ ms ≤ R.slots
def Qr (B : BT) (ad : Nat → Nat) (N N' : Nat) (post : (Nat → Nat) → (Nat → va_E) → Prop) (A : Nat → Prop) : Array Value → State → Outcome → State → Prop := fun _ st oc t => (oc = .returned none ∧ ∃ (qs : Nat → Nat) (h : Nat → va_E), post (va_ext ad N qs) h ∧ va_P B.1 vwCl (wr (va_ext ad N qs) N' h) t.heap ∧ va_K B.1 vwCl (tB B) t ∧ va_D A (wr (va_ext ad N qs) N' h)) ∧ va_F A st t
def TyR (Y : YT) (B : BT) (ad : Nat → Nat) (N N' mc ms : Nat) (post : (Nat → Nat) → (Nat → va_E) → Prop) : Prop := match Y with
  | (_, _, _, _, s, _, args, below, meth, _, _, A, Q) => meth.sig.returnType = none ∧ Q = MQ below (Qr B ad N N' post A) args s mc ms A
abbrev rmc (d mc ms : Nat) : Room := { frames := d, cells := mc, slots := ms, locals := 100 * d }
def Sc (l : Launch) (B : BT) (d mc ms : Nat) (y : MethodName) (bytes : ByteArray) (maxL : Nat) (as : List Value) (ad : Nat → Nat) (N : Nat) (h : Nat → va_E) (N' : Nat) (post : (Nat → Nat) → (Nat → va_E) → Prop) : Prop :=
  ∀ sz : Nat, Met l y (.code y bytes maxL none :: uW) (rmc d mc ms) (va_Pc as (fun U => U.heap.size = sz ∧ va_P B.1 vwCl (wr ad N h) U.heap ∧ va_K B.1 vwCl (tB B) U ∧ va_D (fun _ => True) (wr ad N h) ∧ Ex (gB B (fun q => q) 0) (va_A (wr ad N h) sz) U U.heap ∧ va_AO "CradleNames$Taste" U)) (Qr B ad N N' post (va_A (wr ad N h) sz)) mc ms (va_A (wr ad N h) sz)
theorem Sc.of {l : Launch} {B : BT} {d mc ms : Nat} {y : MethodName} {bytes : ByteArray} {maxL : Nat} {as : List Value} {ad : Nat → Nat} {N N' : Nat} {h : Nat → va_E} {post : (Nat → Nat) → (Nat → va_E) → Prop} (hy : plainName y.cls = true) (hm : (lg_sl as).length ≤ maxL)
    (body : ∀ Y : YT, CyR Y B bytes y.cls → TyR Y B ad N N' mc ms post → Ry Y l d mc ms → Y.2.2.2.2.2.2.2.2.2.2.1 = maxL → Y.2.2.2.2.2.2.2.2.1.name = y.name → Gr Y B ad N h 0 0 0 (lv_args 0 as) []) : Sc l B d mc ms y bytes maxL as ad N h N' post := by
  intro sz
  refine Met.ofW (cc := bytes) (maxL := maxL) (ret := none) hy rfl ?_
  intro p e s m args below meth c s₁ Bo hml hv
  obtain ⟨rfl, hsz, hP, hK, hD0, hE, hAO⟩ := hv
  have hts := atoms_spec (ws := .code y bytes maxL none :: uW) Bo.pre
  subst hsz
  rw [lg_entry_eq]
  refine body (p, l, e, _, s, m, _, below, meth, c, maxL, va_A (wr ad N h) s.heap.size, _) ⟨Bo.exec, Bo.bytes, hml, findClass_of_methodNamed Bo.named, fun w hw => hts w (List.mem_cons_of_mem _ hw), Bo.notSynchronized, hK, fun q h => Or.inr h, hE, hAO⟩ ⟨Bo.returns, rfl⟩ ⟨rfl, Nat.le_refl _, Nat.le_refl _, Nat.le_refl _, Nat.le_refl _⟩ rfl (name_of_methodNamed Bo.named Bo.method).1 s.heap [] _ hP hD0.self va_S.rf (lv_entry as hm)
theorem gz_iconst {Y : YT} {B : BT} {cc : ByteArray} {own : String} {ad : Nat → Nat} {N kc ks pc : Nat} {h : Nat → va_E} {lv : List (Nat × Value)} {st : List Value} (C : CyR Y B cc own) {n : Int} {v : Int32} (hv : Int32.ofInt n = v) (hd : decode cc pc = .ok (.iconst n, 1)) (k : Gr Y B ad N h kc ks (pc + 1) lv (.int v :: st)) : Gr Y B ad N h kc ks pc lv st := by
  obtain ⟨p, l, e, R, s, m, args, below, meth, c, nL, A, Q⟩ := Y
  exact fun H locs ls hP hD hS hl => lv_iconst C.1 C.2.1 hd hv (k H locs ls hP hD hS hl)
theorem gz_bipush {Y : YT} {B : BT} {cc : ByteArray} {own : String} {ad : Nat → Nat} {N kc ks pc : Nat} {h : Nat → va_E} {lv : List (Nat × Value)} {st : List Value} (C : CyR Y B cc own) {n : Int} {v : Int32} (hv : (Int8.ofInt n).toInt32 = v) (hd : decode cc pc = .ok (.bipush n, 2)) (k : Gr Y B ad N h kc ks (pc + 2) lv (.int v :: st)) : Gr Y B ad N h kc ks pc lv st := by
  obtain ⟨p, l, e, R, s, m, args, below, meth, c, nL, A, Q⟩ := Y
  exact fun H locs ls hP hD hS hl => lv_bipush C.1 C.2.1 hd hv (k H locs ls hP hD hS hl)
theorem gz_sipush {Y : YT} {B : BT} {cc : ByteArray} {own : String} {ad : Nat → Nat} {N kc ks pc : Nat} {h : Nat → va_E} {lv : List (Nat × Value)} {st : List Value} (C : CyR Y B cc own) {n : Int} {v : Int32} (hv : (Int16.ofInt n).toInt32 = v) (hd : decode cc pc = .ok (.sipush n, 3)) (k : Gr Y B ad N h kc ks (pc + 3) lv (.int v :: st)) : Gr Y B ad N h kc ks pc lv st := by
  obtain ⟨p, l, e, R, s, m, args, below, meth, c, nL, A, Q⟩ := Y
  exact fun H locs ls hP hD hS hl => lv_sipush C.1 C.2.1 hd hv (k H locs ls hP hD hS hl)
theorem gz_iload_n {Y : YT} {B : BT} {cc : ByteArray} {own : String} {ad : Nat → Nat} {N kc ks pc : Nat} {h : Nat → va_E} {lv : List (Nat × Value)} {st : List Value} (C : CyR Y B cc own) (j : Nat) {n : Fin 4} {i : Nat} {x : Int32} (hk : lv[j]? = some (i, Value.int x)) (hi : (n : Nat) = i) (hd : decode cc pc = .ok (.iload_n n, 1)) (k : Gr Y B ad N h kc ks (pc + 1) lv (.int x :: st)) : Gr Y B ad N h kc ks pc lv st := by
  obtain ⟨p, l, e, R, s, m, args, below, meth, c, nL, A, Q⟩ := Y
  exact fun H locs ls hP hD hS hl => lv_iload_n C.1 C.2.1 hd hi (lv_at hl j hk) (k H locs ls hP hD hS hl)
theorem gz_iload {Y : YT} {B : BT} {cc : ByteArray} {own : String} {ad : Nat → Nat} {N kc ks pc : Nat} {h : Nat → va_E} {lv : List (Nat × Value)} {st : List Value} (C : CyR Y B cc own) (j : Nat) {i : Nat} {x : Int32} (hk : lv[j]? = some (i, Value.int x)) (hd : decode cc pc = .ok (.iload i, 2)) (k : Gr Y B ad N h kc ks (pc + 2) lv (.int x :: st)) : Gr Y B ad N h kc ks pc lv st := by
  obtain ⟨p, l, e, R, s, m, args, below, meth, c, nL, A, Q⟩ := Y
  exact fun H locs ls hP hD hS hl => lv_iload C.1 C.2.1 hd (lv_at hl j hk) (k H locs ls hP hD hS hl)
theorem gz_istore_n {Y : YT} {B : BT} {cc : ByteArray} {own : String} {ad : Nat → Nat} {N kc ks pc : Nat} {h : Nat → va_E} {lv : List (Nat × Value)} {st : List Value} (C : CyR Y B cc own) {n : Fin 4} {i : Nat} {x : Int32} {lv2 : List (Nat × Value)} (hi : (n : Nat) = i) (hn : i < Y.2.2.2.2.2.2.2.2.2.2.1) (hl2 : (i, Value.int x) :: lv.filter (fun q => !(q.1 == i) && !(q.1 + 1 == i && q.2.category == 2)) = lv2) (hd : decode cc pc = .ok (.istore_n n, 1)) (k : Gr Y B ad N h kc ks (pc + 1) lv2 st) : Gr Y B ad N h kc ks pc lv (.int x :: st) := by
  obtain ⟨p, l, e, R, s, m, args, below, meth, c, nL, A, Q⟩ := Y
  exact fun H locs ls hP hD hS hl => lv_istore_n C.1 C.2.1 hd hi hl hn hl2 (fun ls hl => (k H locs ls hP hD hS hl))
theorem gz_aload_n {Y : YT} {B : BT} {cc : ByteArray} {own : String} {ad : Nat → Nat} {N kc ks pc : Nat} {h : Nat → va_E} {lv : List (Nat × Value)} {st : List Value} (C : CyR Y B cc own) (j : Nat) {n : Fin 4} {i : Nat} {x : Nat} (hk : lv[j]? = some (i, Value.ref x)) (hi : (n : Nat) = i) (hd : decode cc pc = .ok (.aload_n n, 1)) (k : Gr Y B ad N h kc ks (pc + 1) lv (.ref x :: st)) : Gr Y B ad N h kc ks pc lv st := by
  obtain ⟨p, l, e, R, s, m, args, below, meth, c, nL, A, Q⟩ := Y
  exact fun H locs ls hP hD hS hl => lv_aload_n C.1 C.2.1 hd hi (lv_at hl j hk) (k H locs ls hP hD hS hl)
theorem gz_aload {Y : YT} {B : BT} {cc : ByteArray} {own : String} {ad : Nat → Nat} {N kc ks pc : Nat} {h : Nat → va_E} {lv : List (Nat × Value)} {st : List Value} (C : CyR Y B cc own) (j : Nat) {i : Nat} {x : Nat} (hk : lv[j]? = some (i, Value.ref x)) (hd : decode cc pc = .ok (.aload i, 2)) (k : Gr Y B ad N h kc ks (pc + 2) lv (.ref x :: st)) : Gr Y B ad N h kc ks pc lv st := by
  obtain ⟨p, l, e, R, s, m, args, below, meth, c, nL, A, Q⟩ := Y
  exact fun H locs ls hP hD hS hl => lv_aload C.1 C.2.1 hd (lv_at hl j hk) (k H locs ls hP hD hS hl)
theorem gz_astore_n {Y : YT} {B : BT} {cc : ByteArray} {own : String} {ad : Nat → Nat} {N kc ks pc : Nat} {h : Nat → va_E} {lv : List (Nat × Value)} {st : List Value} (C : CyR Y B cc own) {n : Fin 4} {i : Nat} {x : Nat} {lv2 : List (Nat × Value)} (hi : (n : Nat) = i) (hn : i < Y.2.2.2.2.2.2.2.2.2.2.1) (hl2 : (i, Value.ref x) :: lv.filter (fun q => !(q.1 == i) && !(q.1 + 1 == i && q.2.category == 2)) = lv2) (hd : decode cc pc = .ok (.astore_n n, 1)) (k : Gr Y B ad N h kc ks (pc + 1) lv2 st) : Gr Y B ad N h kc ks pc lv (.ref x :: st) := by
  obtain ⟨p, l, e, R, s, m, args, below, meth, c, nL, A, Q⟩ := Y
  exact fun H locs ls hP hD hS hl => lv_astore_n C.1 C.2.1 hd hi hl hn hl2 (fun ls hl => (k H locs ls hP hD hS hl))
theorem gz_iinc {Y : YT} {B : BT} {cc : ByteArray} {own : String} {ad : Nat → Nat} {N kc ks pc : Nat} {h : Nat → va_E} {lv : List (Nat × Value)} {st : List Value} (C : CyR Y B cc own) (j : Nat) {i : Nat} {n : Int} {x v : Int32} {lv2 : List (Nat × Value)} (hk : lv[j]? = some (i, Value.int x)) (hv : x + Int32.ofInt n = v) (hn : i < Y.2.2.2.2.2.2.2.2.2.2.1) (hl2 : (i, Value.int v) :: lv.filter (fun q => !(q.1 == i) && !(q.1 + 1 == i && q.2.category == 2)) = lv2) (hd : decode cc pc = .ok (.iinc i n, 3)) (k : Gr Y B ad N h kc ks (pc + 3) lv2 st) : Gr Y B ad N h kc ks pc lv st := by
  obtain ⟨p, l, e, R, s, m, args, below, meth, c, nL, A, Q⟩ := Y
  exact fun H locs ls hP hD hS hl => lv_iinc C.1 C.2.1 hd hl hk hv hn hl2 (fun ls hl => (k H locs ls hP hD hS hl))
theorem gz_dup {Y : YT} {B : BT} {cc : ByteArray} {own : String} {ad : Nat → Nat} {N kc ks pc : Nat} {h : Nat → va_E} {lv : List (Nat × Value)} {st : List Value} (C : CyR Y B cc own) {a : Value} (ha : a.category = 1) (hd : decode cc pc = .ok (.dup, 1)) (k : Gr Y B ad N h kc ks (pc + 1) lv (a :: a :: st)) : Gr Y B ad N h kc ks pc lv (a :: st) := by
  obtain ⟨p, l, e, R, s, m, args, below, meth, c, nL, A, Q⟩ := Y
  exact fun H locs ls hP hD hS hl => lv_dup C.1 C.2.1 hd ha (k H locs ls hP hD hS hl)
theorem gz_goto {Y : YT} {B : BT} {cc : ByteArray} {own : String} {ad : Nat → Nat} {N kc ks pc : Nat} {h : Nat → va_E} {lv : List (Nat × Value)} {st : List Value} (C : CyR Y B cc own) {off : Int} (tgt : Nat) (ht : (pc : Int) + off = (tgt : Int)) (hd : decode cc pc = .ok (.goto off, 3)) (k : Gr Y B ad N h kc ks tgt lv st) : Gr Y B ad N h kc ks pc lv st := by
  obtain ⟨p, l, e, R, s, m, args, below, meth, c, nL, A, Q⟩ := Y
  exact fun H locs ls hP hD hS hl => lv_goto C.1 C.2.1 hd ht (k H locs ls hP hD hS hl)
theorem gz_icmp_ge {Y : YT} {B : BT} {cc : ByteArray} {own : String} {ad : Nat → Nat} {N kc ks pc : Nat} {h : Nat → va_E} {lv : List (Nat × Value)} {st : List Value} (C : CyR Y B cc own) {x y : Int32} {off : Int} (tgt : Nat) (ht : (pc : Int) + off = (tgt : Int)) (hd : decode cc pc = .ok (.if_icmp .ge off, 3)) (kt : y ≤ x → Gr Y B ad N h kc ks tgt lv st) (kf : ¬ y ≤ x → Gr Y B ad N h kc ks (pc + 3) lv st) : Gr Y B ad N h kc ks pc lv (.int y :: .int x :: st) := by
  obtain ⟨p, l, e, R, s, m, args, below, meth, c, nL, A, Q⟩ := Y
  exact fun H locs ls hP hD hS hl => lv_icmp_ge C.1 C.2.1 hd ht (fun z => kt z H locs ls hP hD hS hl) (fun z => kf z H locs ls hP hD hS hl)
theorem gz_objinit {Y : YT} {B : BT} {cc : ByteArray} {own : String} {ad : Nat → Nat} {N kc ks pc : Nat} {h : Nat → va_E} {lv : List (Nat × Value)} {st : List Value} (C : CyR Y B cc own) {idx a : Nat} (w1 : Cond.methodLink own idx objectInit ∈ uW) (w2 : Cond.instanceMethod objectInit ∈ uW) (w3 : Cond.code objectInit ⟨#[0xb1]⟩ 1 none ∈ uW) {l0 : Launch} {d mc ms : Nat} (hR : Ry Y l0 (d + 1) mc ms) (hst : (st.map fun v => v.category).sum ≤ 8) (hd : decode cc pc = .ok (.invokespecial idx, 3)) (k : Gr Y B ad N h kc ks (pc + 3) lv st) : Gr Y B ad N h kc ks pc lv (.ref a :: st) := by
  obtain ⟨p, l, e, R, s, m, args, below, meth, c, nL, A, Q⟩ := Y
  exact fun H locs ls hP hD hS hl => W.objInit C.1 C.2.1 C.2.2.2.1 (C.2.2.2.2.1 _ w1) (C.2.2.2.2.1 _ w2) (C.2.2.2.2.1 _ w3) (g := F0 m pc ls (.ref a :: st)) rfl (hl.1.trans C.2.2.1.symm) rfl hd (by have := hR.2.1; omega) (by show 2 * 0 + _ + 12 ≤ _; have := hR.2.2.1; omega) (k H locs ls hP hD hS hl)
theorem gz_get {Y : YT} {B : BT} {cc : ByteArray} {own : String} {ad : Nat → Nat} {N kc ks pc : Nat} {h : Nat → va_E} {lv : List (Nat × Value)} {st : List Value} (C : CyR Y B cc own) {q index ci k a : Nat} {fs : List Value} {v : Value} (hh : h q = .inr (ci, fs)) (ha : a = ad q) (hq : q < N) (L : Lk own index ci k) (hv : fs[k]? = some v) (hd : decode cc pc = .ok (.getfield index, 3)) (kk : Gr Y B ad N h kc ks (pc + 3) lv (v :: st)) : Gr Y B ad N h kc ks pc lv (.ref a :: st) := by
  obtain ⟨p, l, e, R, s, m, args, below, meth, c, nL, A, Q⟩ := Y
  obtain ⟨M, T, n, h1, h2, h3, h4⟩ := L
  subst ha
  exact fun H locs ls hP hD hS hl => va_get C.1 C.2.1 C.2.2.2.2.1 h2 C.2.2.2.1 C.2.2.2.2.2.2.1 hP q (by rw [wr_get hq, hh]) h1 k h3 (C.2.2.2.2.1 _ h4) (fun _ h => h) hv hd (kk H locs ls hP hD hS hl)
theorem gz_put {Y : YT} {B : BT} {cc : ByteArray} {own : String} {ad : Nat → Nat} {N kc ks pc : Nat} {h : Nat → va_E} {lv : List (Nat × Value)} {st : List Value} (C : CyR Y B cc own) {q index ci k a : Nat} {fs : List Value} {ty : FieldType} {v : Value} (hh : h q = .inr (ci, fs)) (ha : a = ad q) (hq : q < N) (L : Lkp own index ci k ty) (hn : narrow ty v = v) (hfit : fits ty v = true) (hl : k < fs.length) (hd : decode cc pc = .ok (.putfield index, 3)) (kk : Gr Y B ad N (va_up h q (.inr (ci, fs.set k v))) kc ks (pc + 3) lv st) : Gr Y B ad N h kc ks pc lv (v :: .ref a :: st) := by
  obtain ⟨p, l, e, R, s, m, args, below, meth, c, nL, A, Q⟩ := Y
  obtain ⟨M, T, n, ty0, h1, h2, h3, h4, h5, h6, h7, h8⟩ := L
  subst ha
  refine fun H locs ls hP hD hS hv => va_put C.1 C.2.1 C.2.2.2.2.1 h2 ty0 h5 h6 C.2.2.2.1 C.2.2.2.2.2.2.1 hP hD hS q (by rw [wr_get hq, hh]) h1 k h3 (C.2.2.2.2.1 _ h4) (fun _ h => h) h7 h8 hn hfit hl hd fun H1 locs1 hP1 hD1 hS1 => ?_
  rw [wr_set] at hP1 hD1
  exact kk H1 locs1 ls hP1 hD1 hS1 hv
def Lkf (own : String) (index ci k : Nat) (ty : FieldType) : Prop := ∃ (N : String) (T : u_T) (n : Nat) (ty0 : Nat → FieldType), vwCl[ci]? = some (N, T, n) ∧ (∀ w ∈ u_ws N T n, w ∈ uW) ∧ k < n ∧ Cond.fieldLink own index (T k).1 (T k).2.1 (T k).2.2.1 ∈ uW ∧ (∀ k, k < n → parseFieldDescriptor (T k).2.2.1 = some (ty0 k)) ∧ (∀ a, a < n → ∀ b, b < n → a ≠ b → (T a).2.1 ≠ (T b).2.1) ∧ (T k).2.2.2 = true ∧ (T k).1 = own ∧ parseFieldDescriptor (T k).2.2.1 = some ty
theorem gz_putF {Y : YT} {B : BT} {cc : ByteArray} {own : String} {ad : Nat → Nat} {N kc ks pc : Nat} {h : Nat → va_E} {lv : List (Nat × Value)} {st : List Value} (C : CyR Y B cc own) {q index ci k a : Nat} {fs : List Value} {ty : FieldType} {v : Value} (T0 : Y.2.2.2.2.2.2.2.2.1.name = "<init>") (hh : h q = .inr (ci, fs)) (ha : a = ad q) (hq : q < N) (L : Lkf own index ci k ty) (hn : narrow ty v = v) (hfit : fits ty v = true) (hl : k < fs.length) (hd : decode cc pc = .ok (.putfield index, 3)) (kk : Gr Y B ad N (va_up h q (.inr (ci, fs.set k v))) kc ks (pc + 3) lv st) : Gr Y B ad N h kc ks pc lv (v :: .ref a :: st) := by
  obtain ⟨p, l, e, R, s, m, args, below, meth, c, nL, A, Q⟩ := Y
  obtain ⟨M, T, n, ty0, h1, h2, h3, h4, h5, h6, h7, h9, h8⟩ := L
  subst ha
  refine fun H locs ls hP hD hS hv => va_putF C.1 C.2.1 C.2.2.2.2.1 h2 ty0 h5 h6 C.2.2.2.1 C.2.2.2.2.2.2.1 hP hD hS q (by rw [wr_get hq, hh]) h1 k h3 (C.2.2.2.2.1 _ h4) (fun _ h => h) h7 T0 h9 h8 hn hfit hl hd fun H1 locs1 hP1 hD1 hS1 => ?_
  rw [wr_set] at hP1 hD1
  exact kk H1 locs1 ls hP1 hD1 hS1 hv
theorem gz_new {Y : YT} {B : BT} {cc : ByteArray} {own : String} {ad : Nat → Nat} {N kc ks pc : Nat} {h : Nat → va_E} {lv : List (Nat × Value)} {st : List Value} (C : CyR Y B cc own) {ci index n : Nat} {M : String} {T : u_T} {fs : List Value} {l0 : Launch} {d mc ms : Nat} (hR : Ry Y l0 d mc ms) (hc : vwCl[ci]? = some (M, T, n)) (hin : ∀ w ∈ u_ws M T n, w ∈ uW) (ty : Nat → FieldType) (hty : ∀ k, k < n → parseFieldDescriptor (T k).2.2.1 = some (ty k)) (w1 : Cond.classLink own index M ∈ uW) (w2 : Cond.instantiable M n ∈ uW) (w3 : Cond.initialized M ∈ uW) (hfs : ∀ j, j < n → defaultValue (ty j) = vp_V fs j) (hkc : kc + 1 ≤ mc) (hks : ks + n ≤ ms) (hd : decode cc pc = .ok (.new index, 3)) (kk : ∀ a : Nat, Gr Y B (va_up ad N a) (N + 1) (va_up h N (.inr (ci, fs))) (kc + 1) (ks + n) (pc + 3) lv (.ref a :: st)) : Gr Y B ad N h kc ks pc lv st := by
  obtain ⟨p, l, e, R, s, m, args, below, meth, c, nL, A, Q⟩ := Y
  refine fun H locs ls hP hD hS hl => va_new C.1 C.2.1 C.2.2.2.2.1 hin ty hty C.2.2.2.1 (C.2.2.2.2.1 _ w1) (C.2.2.2.2.1 _ w2) (C.2.2.2.2.1 _ w3) C.2.2.2.2.2.2.1 hP hD hS C.2.2.2.2.2.2.2.1 hc hfs (Nat.le_trans hkc hR.2.2.2.1) (Nat.le_trans hks hR.2.2.2.2) hd fun q H1 hP1 hD1 hS1 => ?_
  rw [wr_push] at hP1 hD1
  exact kk q H1 locs ls hP1 hD1 hS1 hl
theorem gz_newi {Y : YT} {B : BT} {cc : ByteArray} {own : String} {ad : Nat → Nat} {N kc ks pc : Nat} {h : Nat → va_E} {lv : List (Nat × Value)} {st : List Value} (C : CyR Y B cc own) {l0 : Launch} {d mc ms n : Nat} {v : Int32} (hR : Ry Y l0 d mc ms) (w : Cond.arrayClass .int ∈ uW) (hn : ¬ v < 0) (hN : v.toNatClampNeg = n) (hsz : n ≤ 30000) (hkc : kc + 1 ≤ mc) (hks : ks + n ≤ ms) (hd : decode cc pc = .ok (.newarray .int, 2)) (kk : ∀ a : Nat, Gr Y B (va_up ad N a) (N + 1) (va_up h N (.inl (B.2.1 0, n, .inl fun _ => 0))) (kc + 1) (ks + n) (pc + 2) lv (.ref a :: st)) : Gr Y B ad N h kc ks pc lv (.int v :: st) := by
  obtain ⟨p, l, e, R, s, m, args, below, meth, c, nL, A, Q⟩ := Y
  refine fun H locs ls hP hD hS hl => va_newa (atype := .int) (ty := .int) (a0 := (n, .inl fun _ => 0)) C.1 C.2.1 (C.2.2.2.2.1 _ w) rfl C.2.2.2.2.2.2.1 hP hD hS C.2.2.2.2.2.2.2.1 (fun _ => rfl) hn hN (byt_ok hsz .int (by decide)) (Nat.le_trans hkc hR.2.2.2.1) (Nat.le_trans hks hR.2.2.2.2) hd fun q cA H1 hK1 hP1 hD1 hS1 => ?_
  have e1 : s.vm.findClass ("[" ++ (.int : FieldType).toString) = some cA := (hK1.2 5 (cA, .int) rfl).2
  have e2 : s.vm.findClass ("[" ++ (.int : FieldType).toString) = some (B.2.1 0) := (C.2.2.2.2.2.2.1.2 0 (B.2.1 0, .int) rfl).2
  have e3 : cA = B.2.1 0 := Option.some.inj (e1.symm.trans e2)
  subst e3
  rw [wr_push] at hP1 hD1
  exact kk q H1 locs ls hP1 hD1 hS1 hl
theorem gz_newl {Y : YT} {B : BT} {cc : ByteArray} {own : String} {ad : Nat → Nat} {N kc ks pc : Nat} {h : Nat → va_E} {lv : List (Nat × Value)} {st : List Value} (C : CyR Y B cc own) {l0 : Launch} {d mc ms n : Nat} {v : Int32} (hR : Ry Y l0 d mc ms) (w : Cond.arrayClass .long ∈ uW) (hn : ¬ v < 0) (hN : v.toNatClampNeg = n) (hsz : n ≤ 30000) (hkc : kc + 1 ≤ mc) (hks : ks + n ≤ ms) (hd : decode cc pc = .ok (.newarray .long, 2)) (kk : ∀ a : Nat, Gr Y B (va_up ad N a) (N + 1) (va_up h N (.inl (B.2.1 1, n, .inr (.inl fun _ => 0)))) (kc + 1) (ks + n) (pc + 2) lv (.ref a :: st)) : Gr Y B ad N h kc ks pc lv (.int v :: st) := by
  obtain ⟨p, l, e, R, s, m, args, below, meth, c, nL, A, Q⟩ := Y
  refine fun H locs ls hP hD hS hl => va_newa (atype := .long) (ty := .long) (a0 := (n, .inr (.inl fun _ => 0))) C.1 C.2.1 (C.2.2.2.2.1 _ w) rfl C.2.2.2.2.2.2.1 hP hD hS C.2.2.2.2.2.2.2.1 (fun _ => rfl) hn hN (byt_ok hsz .long (by decide)) (Nat.le_trans hkc hR.2.2.2.1) (Nat.le_trans hks hR.2.2.2.2) hd fun q cA H1 hK1 hP1 hD1 hS1 => ?_
  have e1 : s.vm.findClass ("[" ++ (.long : FieldType).toString) = some cA := (hK1.2 5 (cA, .long) rfl).2
  have e2 : s.vm.findClass ("[" ++ (.long : FieldType).toString) = some (B.2.1 1) := (C.2.2.2.2.2.2.1.2 1 (B.2.1 1, .long) rfl).2
  have e3 : cA = B.2.1 1 := Option.some.inj (e1.symm.trans e2)
  subst e3
  rw [wr_push] at hP1 hD1
  exact kk q H1 locs ls hP1 hD1 hS1 hl
theorem gz_newb {Y : YT} {B : BT} {cc : ByteArray} {own : String} {ad : Nat → Nat} {N kc ks pc : Nat} {h : Nat → va_E} {lv : List (Nat × Value)} {st : List Value} (C : CyR Y B cc own) {l0 : Launch} {d mc ms n : Nat} {v : Int32} (hR : Ry Y l0 d mc ms) (w : Cond.arrayClass .byte ∈ uW) (hn : ¬ v < 0) (hN : v.toNatClampNeg = n) (hsz : n ≤ 30000) (hkc : kc + 1 ≤ mc) (hks : ks + n ≤ ms) (hd : decode cc pc = .ok (.newarray .byte, 2)) (kk : ∀ a : Nat, Gr Y B (va_up ad N a) (N + 1) (va_up h N (.inl (B.2.1 2, n, .inl fun _ => 0))) (kc + 1) (ks + n) (pc + 2) lv (.ref a :: st)) : Gr Y B ad N h kc ks pc lv (.int v :: st) := by
  obtain ⟨p, l, e, R, s, m, args, below, meth, c, nL, A, Q⟩ := Y
  refine fun H locs ls hP hD hS hl => va_newa (atype := .byte) (ty := .byte) (a0 := (n, .inl fun _ => 0)) C.1 C.2.1 (C.2.2.2.2.1 _ w) rfl C.2.2.2.2.2.2.1 hP hD hS C.2.2.2.2.2.2.2.1 (fun _ => rfl) hn hN (byt_ok hsz .byte (by decide)) (Nat.le_trans hkc hR.2.2.2.1) (Nat.le_trans hks hR.2.2.2.2) hd fun q cA H1 hK1 hP1 hD1 hS1 => ?_
  have e1 : s.vm.findClass ("[" ++ (.byte : FieldType).toString) = some cA := (hK1.2 5 (cA, .byte) rfl).2
  have e2 : s.vm.findClass ("[" ++ (.byte : FieldType).toString) = some (B.2.1 2) := (C.2.2.2.2.2.2.1.2 2 (B.2.1 2, .byte) rfl).2
  have e3 : cA = B.2.1 2 := Option.some.inj (e1.symm.trans e2)
  subst e3
  rw [wr_push] at hP1 hD1
  exact kk q H1 locs ls hP1 hD1 hS1 hl
theorem gz_newz {Y : YT} {B : BT} {cc : ByteArray} {own : String} {ad : Nat → Nat} {N kc ks pc : Nat} {h : Nat → va_E} {lv : List (Nat × Value)} {st : List Value} (C : CyR Y B cc own) {l0 : Launch} {d mc ms n : Nat} {v : Int32} (hR : Ry Y l0 d mc ms) (w : Cond.arrayClass .boolean ∈ uW) (hn : ¬ v < 0) (hN : v.toNatClampNeg = n) (hsz : n ≤ 30000) (hkc : kc + 1 ≤ mc) (hks : ks + n ≤ ms) (hd : decode cc pc = .ok (.newarray .boolean, 2)) (kk : ∀ a : Nat, Gr Y B (va_up ad N a) (N + 1) (va_up h N (.inl (B.2.1 3, n, .inl fun _ => 0))) (kc + 1) (ks + n) (pc + 2) lv (.ref a :: st)) : Gr Y B ad N h kc ks pc lv (.int v :: st) := by
  obtain ⟨p, l, e, R, s, m, args, below, meth, c, nL, A, Q⟩ := Y
  refine fun H locs ls hP hD hS hl => va_newa (atype := .boolean) (ty := .boolean) (a0 := (n, .inl fun _ => 0)) C.1 C.2.1 (C.2.2.2.2.1 _ w) rfl C.2.2.2.2.2.2.1 hP hD hS C.2.2.2.2.2.2.2.1 (fun _ => rfl) hn hN (byt_ok hsz .boolean (by decide)) (Nat.le_trans hkc hR.2.2.2.1) (Nat.le_trans hks hR.2.2.2.2) hd fun q cA H1 hK1 hP1 hD1 hS1 => ?_
  have e1 : s.vm.findClass ("[" ++ (.boolean : FieldType).toString) = some cA := (hK1.2 5 (cA, .boolean) rfl).2
  have e2 : s.vm.findClass ("[" ++ (.boolean : FieldType).toString) = some (B.2.1 3) := (C.2.2.2.2.2.2.1.2 3 (B.2.1 3, .boolean) rfl).2
  have e3 : cA = B.2.1 3 := Option.some.inj (e1.symm.trans e2)
  subst e3
  rw [wr_push] at hP1 hD1
  exact kk q H1 locs ls hP1 hD1 hS1 hl
theorem gz_newq {Y : YT} {B : BT} {cc : ByteArray} {own : String} {ad : Nat → Nat} {N kc ks pc : Nat} {h : Nat → va_E} {lv : List (Nat × Value)} {st : List Value} (C : CyR Y B cc own) {l0 : Launch} {d mc ms n index : Nat} {v : Int32} (hR : Ry Y l0 d mc ms) (w0 : Cond.classLink own index "CradleNames$Taste" ∈ uW) (hn : ¬ v < 0) (hN : v.toNatClampNeg = n) (hsz : n ≤ 30000) (hkc : kc + 1 ≤ mc) (hks : ks + n ≤ ms) (hd : decode cc pc = .ok (.anewarray index, 3)) (kk : ∀ a : Nat, Gr Y B (va_up ad N a) (N + 1) (va_up h N (.inl (B.2.1 4, n, .inr (.inr (.inr (.inr fun _ => none)))))) (kc + 1) (ks + n) (pc + 3) lv (.ref a :: st)) : Gr Y B ad N h kc ks pc lv (.int v :: st) := by
  obtain ⟨p, l, e, R, s, m, args, below, meth, c, nL, A, Q⟩ := Y
  refine fun H locs ls hP hD hS hl => va_newq C.1 C.2.1 C.2.2.2.1 (C.2.2.2.2.1 _ w0) C.2.2.2.2.2.2.2.2.2 C.2.2.2.2.2.2.1 hP hD hS C.2.2.2.2.2.2.2.1 hn hN (by omega) (Nat.le_trans hkc hR.2.2.2.1) (Nat.le_trans hks hR.2.2.2.2) hd fun q cA H1 hK1 hP1 hD1 hS1 => ?_
  obtain ⟨-, -, -, -, -, e1⟩ := (hK1.2 5 (cA, .object "CradleNames$Taste") rfl).2
  obtain ⟨-, -, -, -, -, e2⟩ := (C.2.2.2.2.2.2.1.2 4 (B.2.1 4, .object "CradleNames$Taste") rfl).2
  have e3 : cA = B.2.1 4 := Option.some.inj (e1.symm.trans e2)
  subst e3
  rw [wr_push] at hP1 hD1
  exact kk q H1 locs ls hP1 hD1 hS1 hl
theorem gz_iast {Y : YT} {B : BT} {cc : ByteArray} {own : String} {ad : Nat → Nat} {N kc ks pc : Nat} {h : Nat → va_E} {lv : List (Nat × Value)} {st : List Value} (C : CyR Y B cc own) {q n a : Nat} {f : Nat → Int32} {i v : Int32} (hh : h q = .inl (B.2.1 0, n, .inl f)) (ha : a = ad q) (hq : q < N) (hin : vp_in i n) (hd : decode cc pc = .ok (.iastore, 1)) (kk : Gr Y B ad N (va_up h q (.inl (B.2.1 0, n, .inl (upd f i.toNatClampNeg v)))) kc ks (pc + 1) lv st) : Gr Y B ad N h kc ks pc lv (.int v :: .int i :: .ref a :: st) := by
  obtain ⟨p, l, e, R, s, m, args, below, meth, c, nL, A, Q⟩ := Y
  subst ha
  refine fun H locs ls hP hD hS hl => va_iast C.1 C.2.1 C.2.2.2.2.2.2.1 hP hD hS q 0 (by rw [wr_get hq, hh]) rfl hin hd fun H1 locs1 hP1 hD1 hS1 => ?_
  rw [wr_set] at hP1 hD1
  exact kk H1 locs1 ls hP1 hD1 hS1 hl
theorem gz_aast {Y : YT} {B : BT} {cc : ByteArray} {own : String} {ad : Nat → Nat} {N kc ks pc : Nat} {h : Nat → va_E} {lv : List (Nat × Value)} {st : List Value} (C : CyR Y B cc own) {q q2 n a b : Nat} {fs : List Value} {f : Nat → Option Nat} {i : Int32} (hh : h q = .inl (B.2.1 4, n, .inr (.inr (.inr (.inr f))))) (ha : a = ad q) (hq : q < N) (h2 : h q2 = .inr (9, fs)) (hb : b = ad q2) (hq2 : q2 < N) (hin : vp_in i n) (hd : decode cc pc = .ok (.aastore, 1)) (kk : Gr Y B ad N (va_up h q (.inl (B.2.1 4, n, .inr (.inr (.inr (.inr (va_up f i.toNatClampNeg (some (ad q2)))))))) ) kc ks (pc + 1) lv st) : Gr Y B ad N h kc ks pc lv (.ref b :: .int i :: .ref a :: st) := by
  obtain ⟨p, l, e, R, s, m, args, below, meth, c, nL, A, Q⟩ := Y
  subst ha; subst hb
  refine fun H locs ls hP hD hS hl => va_astq C.1 C.2.1 C.2.2.2.2.2.2.1 hP hD hS q 4 q2 9 (r := (RX9, TX9, 4)) (by rw [wr_get hq, hh]) rfl (by rw [wr_get hq2, h2]) rfl hin hd fun H1 locs1 hP1 hD1 hS1 => ?_
  rw [wr_set] at hP1 hD1
  exact kk H1 locs1 ls hP1 hD1 hS1 hl
theorem gz_alen {Y : YT} {B : BT} {cc : ByteArray} {own : String} {ad : Nat → Nat} {N kc ks pc : Nat} {h : Nat → va_E} {lv : List (Nat × Value)} {st : List Value} (C : CyR Y B cc own) {q n a : Nat} {f : Nat → Int32} {v : Int32} (hh : h q = .inl (B.2.1 0, n, .inl f)) (ha : a = ad q) (hq : q < N) (hv : Int32.ofNat n = v) (hd : decode cc pc = .ok (.arraylength, 1)) (kk : Gr Y B ad N h kc ks (pc + 1) lv (.int v :: st)) : Gr Y B ad N h kc ks pc lv (.ref a :: st) := by
  obtain ⟨p, l, e, R, s, m, args, below, meth, c, nL, A, Q⟩ := Y
  subst ha
  exact fun H locs ls hP hD hS hl => va_alen C.1 C.2.1 C.2.2.2.2.2.2.1 hP q 0 (by rw [wr_get hq, hh]) rfl hv hd (kk H locs ls hP hD hS hl)
theorem gz_vret {Y : YT} {B : BT} {cc : ByteArray} {own : String} {ad ad0 qs : Nat → Nat} {N N0 kc ks pc : Nat} {h : Nat → va_E} {lv : List (Nat × Value)} (C : CyR Y B cc own) {post : (Nat → Nat) → (Nat → va_E) → Prop} (T0 : TyR Y B ad0 N0 N kc ks post) (ha : ∀ q, q < N → ad q = va_ext ad0 N0 qs q) (h2 : post (va_ext ad0 N0 qs) h) (hd : decode cc pc = .ok (.return_, 1)) : Gr Y B ad N h kc ks pc lv [] := by
  obtain ⟨p, l, e, R, s, m, args, below, meth, c, nL, A, Q⟩ := Y
  obtain ⟨hr, rfl⟩ := T0
  have e : wr ad N h = wr (va_ext ad0 N0 qs) N h := List.map_congr_left (fun q hq => by rw [ha q (List.mem_range.mp hq)])
  intro H locs ls hP hD hS hl
  rw [e] at hP hD
  exact W.vret C.1 C.2.1 hr (fun t ht hW => ⟨⟨rfl, qs, h, h2, by rw [ht]; exact hP, va_K.moved hW.alike C.2.2.2.2.2.2.1, hD⟩, hS.F ht⟩) hS.2.2 hd C.2.2.2.2.2.1
theorem w_callR {p : Program} {l : Launch} {e : Env} {R : Room} {s : State} {m : MethodId} {args : Array Value} {below : List Frame} {meth : Method} {c : Code} {H : Heap} {locs : List Loc} {cells slots pc mc ms N N' : Nat} {Q : State → Prop} {ls : Array Slot} {stk rest : List Value} {a : Array Value} {A A1 free : Nat → Prop} {B : BT} {ad : Nat → Nat} {post : (Nat → Nat) → (Nat → va_E) → Prop}
    (hr : va_Run p l e R s m args below meth c H locs cells slots mc ms (F0 m pc ls stk) rest (Qr B ad N N' post A1 a) free) (hS : va_S A s.heap H locs) (hA : ∀ q, A1 q → A q) (hf : ∀ q, free q → A q)
    (kk : ∀ (qs : Nat → Nat) (h : Nat → va_E) (H1 : Heap) (locs1 : List Loc), post (va_ext ad N qs) h → va_P B.1 vwCl (wr (va_ext ad N qs) N' h) H1 → va_D A (wr (va_ext ad N qs) N' h) → va_S A s.heap H1 locs1 → W p l e R s m args below meth c H1 locs1 (cells + mc) (slots + ms) Q (F0 m (pc + 3) ls rest)) : W p l e R s m args below meth c H locs cells slots Q (F0 m pc ls stk) := by
  intro T hT X
  obtain ⟨v, st₀, t, T', L, h0, X', hL, e1, e2, ⟨⟨hv, qs, h, hp, hP, hK, hD⟩, hz, hk⟩, st⟩ := hr T hT X
  cases hv
  rw [h0] at hz hk
  obtain ⟨t2, a1, b1⟩ := kk qs h T'.heap (locs ++ L) hp (by rw [e1]; exact hP) (hD.weaken (fun _ _ _ z => hA _ z))
    ⟨Nat.le_trans hS.1 (by rw [e1]; exact hz), fun q h1 h2 => by rw [e1, hk q (Nat.lt_of_lt_of_le h1 hS.1) (fun z => h2 (hA q z))]; exact hS.2.1 q h1 h2, fun q hq => by
      rcases List.mem_append.mp hq with h | h
      · exact hS.2.2 q h
      · exact hf _ (hL q h)⟩ T' rfl X'
  exact ⟨t2, st t2 a1, b1⟩
theorem sc_pre {p : Program} {l : Launch} {e : Env} {R : Room} {s : State} {m : MethodId} {args : Array Value} {below : List Frame} {meth : Method} {c : Code} {nL N : Nat} {A : Nat → Prop} {Q : State → Prop} {B : BT} {cc : ByteArray} {own : String} {ad : Nat → Nat} {h : Nat → va_E} {H : Heap} {locs : List Loc} (C : CyR (p, l, e, R, s, m, args, below, meth, c, nL, A, Q) B cc own) (hP : va_P B.1 vwCl (wr ad N h) H) (hD : va_D A (wr ad N h)) (hS : va_S A s.heap H locs) :
    (∀ q, va_A (wr ad N h) H.size q → A q) ∧ ∀ U : State, U.heap = H → s.WarmedH U.vm → U.heap.size = H.size ∧ va_P B.1 vwCl (wr ad N h) U.heap ∧ va_K B.1 vwCl (tB B) U ∧ va_D (fun _ => True) (wr ad N h) ∧ Ex (gB B (fun q => q) 0) (va_A (wr ad N h) H.size) U U.heap ∧ va_AO "CradleNames$Taste" U := by
  have hF : ∀ q, va_A (wr ad N h) H.size q → A q := fun q h => by
    rcases h with ⟨k, e, h⟩ | h
    · exact hD.2 k _ h
    · exact C.2.2.2.2.2.2.2.1 q (Nat.le_trans hS.1 h)
  refine ⟨hF, fun U hU hW => ⟨by rw [hU], by rw [hU]; exact hP, va_K.moved hW.alike C.2.2.2.2.2.2.1, hD.weaken (fun _ _ _ _ => trivial), ?_, va_AO.moved hW.alike C.2.2.2.2.2.2.2.2.2⟩⟩
  rw [hU]
  exact Ex.warm hW ((C.2.2.2.2.2.2.2.2.1.kept (fun a h1 h2 => hS.2.1 a h1 h2)).narrow hF)
theorem sc_blind {as : List Value} {B : BT} {ad : Nat → Nat} {N : Nat} {h : Nat → va_E} {sz : Nat} : FrameBlind (va_Pc as (fun U => U.heap.size = sz ∧ va_P B.1 vwCl (wr ad N h) U.heap ∧ va_K B.1 vwCl (tB B) U ∧ va_D (fun _ => True) (wr ad N h) ∧ Ex (gB B (fun q => q) 0) (va_A (wr ad N h) sz) U U.heap ∧ va_AO "CradleNames$Taste" U)) := by
  intro a U g mk q
  obtain ⟨q0, q1, qP, qK, qD, qE, qA⟩ := q
  exact ⟨q0, q1, qP, va_K.moved (u := U) (U := U.calling g mk a) (Vm.Alike.refl U.vm) qK, qD, Ex.same (s := U) (U := U.calling g mk a) rfl qE, va_AO.moved (u := U) (U := U.calling g mk a) (Vm.Alike.refl U.vm) qA⟩
def CwI (own : String) (index : Nat) (y : MethodName) (bytes : ByteArray) (maxL n : Nat) : Prop := Cond.methodLink own index y ∈ uW ∧ Cond.instanceMethod y ∈ uW ∧ Cond.initialized y.cls ∈ uW ∧ Cond.code y bytes maxL none ∈ uW ∧ (y.cls ≠ "java/lang/invoke/MethodHandle" ∧ y.cls ≠ "java/lang/invoke/VarHandle" ∧ (parseMethodDescriptor y.desc).map (fun d => d.parameters.length) = some n) ∧ y.name = "<init>"
theorem gz_callI {Y : YT} {B : BT} {cc : ByteArray} {own : String} {ad : Nat → Nat} {N N' kc ks pc : Nat} {h : Nat → va_E} {lv : List (Nat × Value)} {st stk : List Value} (C : CyR Y B cc own) {l0 : Launch} {d d' mc0 ms0 mc ms index maxL n a : Nat} {y : MethodName} {bytes : ByteArray} {as : List Value} {post : (Nat → Nat) → (Nat → va_E) → Prop}
    (hR : Ry Y l0 d mc0 ms0) (w : CwI own index y bytes maxL n) (hdd : d' + 1 ≤ d) (hmx : Nat.ble maxL 81 = true) (hkc : kc + mc ≤ mc0) (hks : ks + ms ≤ ms0) (hn : as.length = n) (hstk : stk = as.reverse ++ .ref a :: st) (hst : (st.map fun v => v.category).sum ≤ 8) (hd : decode cc pc = .ok (.invokespecial index, 3)) (M : Sc l0 B d' mc ms y bytes maxL (.ref a :: as) ad N h N' post)
    (kk : ∀ (qs : Nat → Nat) (h' : Nat → va_E), post (va_ext ad N qs) h' → Gr Y B (va_ext ad N qs) N' h' (kc + mc) (ks + ms) (pc + 3) lv st) : Gr Y B ad N h kc ks pc lv stk := by
  obtain ⟨p, l, e, R, s, m, args, below, meth, c, nL, A, Q⟩ := Y
  obtain ⟨rfl, r1, r2, r3, r4⟩ := hR
  have hmx := Nat.le_of_ble_eq_true hmx
  obtain ⟨w1, w2, w3, w4, w5, w6⟩ := w
  intro H locs ls hP hD hS hl
  obtain ⟨hF, hU⟩ := sc_pre C hP hD hS
  exact w_callR (A1 := va_A (wr ad N h) H.size) (va_runI (As := as) (rest := st) ⟨C.1, C.2.1, C.2.2.1, C.2.2.2.1, C.2.2.2.2.1⟩ (M H.size) ⟨callB_of n C.2.2.2.2.1 (uW_code w4) rfl rfl rfl (C.2.2.2.2.1 _ w3) (C.2.2.2.2.1 _ w1) w5 ⟨by show d' + 1 ≤ R.frames; omega, by show 8 + (maxL + 11) + 100 * d' ≤ R.locals; omega⟩, w6, C.2.2.2.2.1 _ w2⟩ ⟨sc_blind, fun U h1 h2 => ⟨rfl, hU U h1 h2⟩⟩ rfl hn hl.1 hstk (lv_room hst) hd ⟨by omega, by omega⟩) hS hF hF fun qs h' H1 locs1 hp hP1 hD1 hS1 => kk qs h' hp H1 locs1 ls hP1 hD1 hS1 hl
theorem gz_callS {Y : YT} {B : BT} {cc : ByteArray} {own : String} {ad : Nat → Nat} {N N' kc ks pc : Nat} {h : Nat → va_E} {lv : List (Nat × Value)} {st stk : List Value} (C : CyR Y B cc own) {l0 : Launch} {d d' mc0 ms0 mc ms index maxL n : Nat} {y : MethodName} {bytes : ByteArray} {as : List Value} {post : (Nat → Nat) → (Nat → va_E) → Prop}
    (hR : Ry Y l0 d mc0 ms0) (w : CwS own index y bytes maxL none n) (hdd : d' + 1 ≤ d) (hmx : Nat.ble maxL 81 = true) (hkc : kc + mc ≤ mc0) (hks : ks + ms ≤ ms0) (hn : as.length = n) (hstk : stk = as.reverse ++ st) (hst : (st.map fun v => v.category).sum ≤ 8) (hd : decode cc pc = .ok (.invokestatic index, 3)) (M : Sc l0 B d' mc ms y bytes maxL as ad N h N' post)
    (kk : ∀ (qs : Nat → Nat) (h' : Nat → va_E), post (va_ext ad N qs) h' → Gr Y B (va_ext ad N qs) N' h' (kc + mc) (ks + ms) (pc + 3) lv st) : Gr Y B ad N h kc ks pc lv stk := by
  obtain ⟨p, l, e, R, s, m, args, below, meth, c, nL, A, Q⟩ := Y
  obtain ⟨rfl, r1, r2, r3, r4⟩ := hR
  have hmx := Nat.le_of_ble_eq_true hmx
  obtain ⟨w1, w2, w3, w4, w5⟩ := w
  intro H locs ls hP hD hS hl
  obtain ⟨hF, hU⟩ := sc_pre C hP hD hS
  exact w_callR (A1 := va_A (wr ad N h) H.size) (va_runS (As := as) (rest := st) ⟨C.1, C.2.1, C.2.2.1, C.2.2.2.1, C.2.2.2.2.1⟩ (M H.size) ⟨callB_of n C.2.2.2.2.1 (uW_code w4) rfl rfl rfl (C.2.2.2.2.1 _ w3) (C.2.2.2.2.1 _ w1) w5 ⟨by show d' + 1 ≤ R.frames; omega, by show 8 + (maxL + 11) + 100 * d' ≤ R.locals; omega⟩, C.2.2.2.2.1 _ w2⟩ ⟨sc_blind, fun U h1 h2 => ⟨rfl, hU U h1 h2⟩⟩ rfl hn hl.1 hstk (lv_room hst) hd ⟨by omega, by omega⟩) hS hF hF fun qs h' H1 locs1 hp hP1 hD1 hS1 => kk qs h' hp H1 locs1 ls hP1 hD1 hS1 hl
/-- a method's contract, once all cells are whole -/
theorem gz_callP {Y : YT} {B : BT} {cc : ByteArray} {own : String} {ad : Nat → Nat} {N kc ks pc : Nat} {h : Nat → va_E} {lv : List (Nat × Value)} {st stk : List Value} (C : CyR Y B cc own) {l0 : Launch} {d d' mc0 ms0 index maxL n q ci : Nat} {y : MethodName} {bytes : ByteArray} {as : List Value} {σ : St} {post : Option Value → St → Prop} {fs : CS → List Value}
    (hR : Ry Y l0 d mc0 ms0) (hw : ∀ j, j < N → h j = wcc (gB B ad N) j (σ j)) (hs : ∀ x, wcc (gB B ad N) q x = .inr (ci, fs x)) (hq : q < N) (w : CwV own index ci y bytes maxL none n) (hdd : d' + 1 ≤ d) (hmx : Nat.ble maxL 81 = true) (hkc : kc ≤ mc0) (hks : ks ≤ ms0) (hn : as.length = n) (hstk : stk = as.reverse ++ .ref (ad q) :: st) (hst : (st.map fun v => v.category).sum ≤ 8) (hd : decode cc pc = .ok (.invokevirtual index, 3)) (M : Sp l0 (gB B ad N) d' y bytes maxL none (.ref (ad q) :: as) σ post)
    (kk : ∀ v τ, post v τ → Gr Y B ad N (fun q => wcc (gB B ad N) q (τ q)) kc ks (pc + 3) lv (v.toList ++ st)) : Gr Y B ad N h kc ks pc lv stk := by
  have e0 : wr ad N h = wl (gB B ad N) σ := List.map_congr_left (fun j hj => by rw [hw j (List.mem_range.mp hj)])
  obtain ⟨p, l, e, R, s, m, args, below, meth, c, nL, A, Q⟩ := Y
  intro H locs ls hP hD hS hl
  rw [e0] at hP hD
  have C2 : Cx (p, l, e, R, s, m, args, below, meth, c, nL, A, Q, kc, ks) (gB B ad N) cc own := ⟨C.1, C.2.1, C.2.2.1, C.2.2.2.1, C.2.2.2.2.1, C.2.2.2.2.2.1, C.2.2.2.2.2.2.1, C.2.2.2.2.2.2.2.1, fun τ => wl_D hD τ, C.2.2.2.2.2.2.2.2.1⟩
  have R2 : Rm (p, l, e, R, s, m, args, below, meth, c, nL, A, Q, kc, ks) l0 d := ⟨hR.1, hR.2.1, hR.2.2.1, Nat.le_trans hkc hR.2.2.2.1, Nat.le_trans hks hR.2.2.2.2⟩
  exact go_callV C2 R2 hs hq w hdd hmx hn hstk hst hd M (fun v τ hp H1 locs1 ls1 hP1 hS1 hl1 => kk v τ hp H1 locs1 ls1 hP1 (wl_D hD τ) hS1 hl1) H locs ls hP hS hl
