/-! THE CLAIM OUT OF ONE WALK OF THE LAW'S BODY. Your part is whole_start (and what it stands on); all else here is the same for every law, but numbers. -/
def R_law : String := "CradleNamesLaw"
def lw_P (b : Addr) (xs : List Int32) (args : Array Value) (s : State) : Prop := args = #[.ref b] ∧ s.IntsAt b xs ∧ xs.length ≤ 3584 ∧ (Jvm.Cond.and given_1 narrow_1).before args s = true
def lw_Q (_ : Array Value) (s : State) (o : Outcome) (t : State) : Prop := o = .returned (some (.int 1)) ∧ Framed s o t [] 600000 7302250
def lw_Z (below : List Frame) (a : Array Value) (s : State) : State → Prop := fun t => ∃ o, t.status = .running ∧ Ended t below o ∧ lw_Q a s o t
/-- the law's own end, with 1 on the stack, nothing written that was there before, its room as the claim has it -/
theorem lw_ret {p : Program} {l : Launch} {e : Env} {s : State} {m : MethodId} {below : List Frame} {meth : Method} {c : Code} {b : Nat} (hx : p.tables.exec = Jvm.exec) (hb : c.code = code) (hr : meth.sig.returnType = ret) (hlocks : meth.locks = false) {pc : Nat} {H : Heap} {ls : Array Slot} (hdg : decode code pc = .ok (.ireturn, 1)) : W p l e room_1 s m #[Value.ref b] below meth c H [] 600000 7302250 (lw_Z below #[Value.ref b] s) (F0 m pc ls [.int 1]) := by
  intro T hT X
  obtain ⟨fs, hret, hrun, hended, hW, hframe⟩ := X.leave (v := some (.int 1)) (hlocks := hlocks) (fun h => by rw [hr] at h; cases h)
  have hmeth' : T.vm.method? m = some meth := X.method'
  refine ⟨T.setFrames fs, ?_, .returned (some (.int 1)), hrun, hended, rfl, ⟨_, rfl⟩, hW, hframe⟩
  jvm_step X.here [X.here.top, hx, hb, hdg, hmeth', hr, ret, narrow_b1]
  (try refine ⟨rfl, ?_⟩); (try refine ⟨rfl, ?_⟩)
  first | (intro acts; rw [hret _ acts rfl rfl rfl]) | rw [hret _ _ rfl rfl rfl]
  exact Steps.refl _
/-- what holds at the law's entry: the machine, the code, the tables' words (any of lw_tbl by 'hts w (by decide +kernel)'), the script of L ints xs at the cell b, what the Statement gives of the start (any of its parts by flat_of_before) -/
def lw_At (p : Program) (s : State) (m : MethodId) (meth : Method) (c : Code) (b L : Nat) (xs : Nat → Int32) : Prop :=
  p.tables.exec = Jvm.exec ∧ c.code = code ∧ meth.sig.returnType = ret ∧ c.maxLocals = 4 ∧ s.vm.findClass R_law = some m.cls ∧ (∀ w ∈ lw_tbl, w.before #[Value.ref b] s = true) ∧ va_X b L xs s s.heap ∧ b < s.heap.size ∧ meth.locks = false ∧ (Jvm.Cond.and given_1 narrow_1).before #[Value.ref b] s = true
def Sx (X : XT) (b L : Nat) (xs : Nat → Int32) : Prop := match X with
  | (_, _, _, _, s, _, _, _, _, _, _, A, _, _, _) => va_X b L xs s s.heap ∧ b < s.heap.size ∧ ¬ A b
def Lr (X : XT) (b : Nat) : Prop := match X with
  | (_, _, _, R, s, _, args, below, meth, _, _, A, Q, kc, ks) => R = room_1 ∧ args = #[Value.ref b] ∧ meth.sig.returnType = ret ∧ Q = lw_Z below #[Value.ref b] s ∧ kc ≤ 600000 ∧ ks ≤ 7302250 ∧ (∀ q, A q → s.heap.size ≤ q)
theorem go_sld {X : XT} {G : GT} {cc : ByteArray} {own : String} {pc : Nat} {lv : List (Nat × Value)} {st : List Value} {σ : St} (C : Cx X G cc own) {b L : Nat} {xs : Nat → Int32} {i : Int32} (S : Sx X b L xs) (hin : vp_in i L) (hd : decode cc pc = .ok (.iaload, 1)) (kk : Go X G (pc + 1) lv (.int (xs i.toNatClampNeg) :: st) σ) : Go X G pc lv (.int i :: .ref b :: st) σ := by
  obtain ⟨p, l, e, R, s, m, args, below, meth, c, nL, A, Q, kc, ks⟩ := X
  exact fun H locs ls hP hS hl => va_sld C.1 C.2.1 S.1 S.2.1 S.2.2 hS hin hd (kk H locs ls hP hS hl)
theorem go_slen {X : XT} {G : GT} {cc : ByteArray} {own : String} {pc : Nat} {lv : List (Nat × Value)} {st : List Value} {σ : St} (C : Cx X G cc own) {b L : Nat} {xs : Nat → Int32} (S : Sx X b L xs) (hd : decode cc pc = .ok (.arraylength, 1)) (kk : Go X G (pc + 1) lv (.int (Int32.ofNat L) :: st) σ) : Go X G pc lv (.ref b :: st) σ := by
  obtain ⟨p, l, e, R, s, m, args, below, meth, c, nL, A, Q, kc, ks⟩ := X
  exact fun H locs ls hP hS hl => va_slen C.1 C.2.1 S.1 S.2.1 S.2.2 hS hd (kk H locs ls hP hS hl)
theorem go_lawret {X : XT} {G : GT} {own : String} {pc b : Nat} {lv : List (Nat × Value)} {σ : St} (C : Cx X G code own) (Lw : Lr X b) (hd : decode code pc = .ok (.ireturn, 1)) : Go X G pc lv [.int 1] σ := by
  obtain ⟨p, l, e, R, s, m, args, below, meth, c, nL, A, Q, kc, ks⟩ := X
  obtain ⟨rfl, rfl, hr, rfl, hk, hs, hA⟩ := Lw
  exact fun H locs ls hP hS hl => va_forget (fun q hq => hA _ (hS.2.2 q hq)) (W.widen hk hs (lw_ret C.1 C.2.1 hr C.2.2.2.2.2.1 hd))
