/-! THE FRAME: the two objects' heap as one fixed list of 92 cells whose contents are two memories (the class's, the reference's); a walk over it (xAt), a walk that follows a functional program (xR), and a method's contract (xCt). -/
/-- a memory: ints by (block, place), longs by place -/
abbrev xM : Type := (Nat → Nat → Int32) × (Nat → Int64)
/-- the class's memory, the reference's -/
abbrev xS : Type := xM × xM
/-- the launch, the tables' numbers, the classes of int rows and of boolean rows, the addresses, what else is known of the heap that nobody writes -/
abbrev xG : Type := Launch × va_G × ClassId × ClassId × (Nat → Nat) × (State → Heap → Prop)
def xl (G : xG) : Launch := G.1
def xD (G : xG) : va_G := G.2.1
def xI (G : xG) : ClassId := G.2.2.1
def xZ (G : xG) : ClassId := G.2.2.2.1
def xa (G : xG) : Nat → Nat := G.2.2.2.2.1
def xE (G : xG) : State → Heap → Prop := G.2.2.2.2.2
/-- a method: name, code, locals, what it returns, frames and words of its room -/
abbrev xY : Type := MethodName × ByteArray × Nat × Option FieldType × Nat × Nat
abbrev xn (Y : xY) : MethodName := Y.1
abbrev xb (Y : xY) : ByteArray := Y.2.1
abbrev xL (Y : xY) : Nat := Y.2.2.1
abbrev xt (Y : xY) : Option FieldType := Y.2.2.2.1
abbrev xf (Y : xY) : Nat := Y.2.2.2.2.1
abbrev xo (Y : xY) : Nat := Y.2.2.2.2.2
def xw (Y : xY) : List Cond := .code (xn Y) (xb Y) (xL Y) (xt Y) :: lw_tb
def xrm (Y : xY) : Room := { frames := xf Y, cells := 0, slots := 0, locals := xo Y }
def xup (m : Nat → Nat → Int32) (a i : Nat) (v : Int32) : Nat → Nat → Int32 := fun b j => if b = a ∧ j = i then v else m b j
def xul (m : Nat → Int64) (i : Nat) (v : Int64) : Nat → Int64 := fun j => if j = i then v else m j
/-- the table of the k-th BOARDS; rows, width and length of the tables -/
def xtb (k : Nat) : Nat := if k = 4 then 28 else 7 * k
def xrows (t : Nat) : Int32 := ([6, 8, 5, 4, 6, 6, 6, 6, 8, 5, 4, 6, 6, 6, 6, 8, 5, 4, 6, 6, 6, 6, 8, 5, 4, 6, 6, 6, 6, 150, 151, 4, 64, 4, 6, 4] : List Int32).getD t 0
def xwid (t : Nat) : Int32 := ([6, 37, 1, 1, 2, 5, 6, 6, 37, 1, 1, 2, 5, 6, 6, 37, 1, 1, 2, 5, 6, 6, 37, 1, 1, 2, 5, 6, 6, 1, 3, 64, 1, 1, 1, 1] : List Int32).getD t 0
def xlen (t : Nat) : Nat := ([36, 296, 5, 4, 12, 30, 36, 36, 296, 5, 4, 12, 30, 36, 36, 296, 5, 4, 12, 30, 36, 36, 296, 5, 4, 12, 30, 36, 36, 150, 453, 256, 64, 4, 6, 4] : List Nat).getD t 0
/-- the classes -/
abbrev xcl : List vw_C := [(RX0, TX0, 2), (RX1, TX1, 5), (RX2, TX2, 5), (RX4, TX4, 4), (RX5, TX5, 2), (RX6, TX6, 7), (RX8, TX8, 16), (RX9, TX9, 13)]
/-- what the k-th cell holds: 0 .. 35 rows of tables, 36 .. 71 tables, 72 .. 76 BOARDS, 77 .. 80 towns, 81 the class, 82 maker, 83 reader, 84 tokens, 85 the reference, 86 .. 91 its rows -/
def xC (G : xG) (S : xS) (k : Nat) : va_E :=
  if k < 36 then .inl (xI G, xlen k, .inl (S.1.1 k))
  else if k < 72 then .inr (3, [.int (xrows (k - 36)), .int (xwid (k - 36)), .ref (xa G (k - 36)), .int (S.1.1 36 (k - 36))])
  else if k < 77 then .inr (0, [.ref (xa G (36 + xtb (k - 72))), .int (S.1.1 37 (k - 72))])
  else if k < 81 then .inr (5, [.ref (xa G (k - 5)), .ref (xa G (37 + 7 * (k - 77))), .ref (xa G (38 + 7 * (k - 77))), .ref (xa G (39 + 7 * (k - 77))), .ref (xa G (40 + 7 * (k - 77))), .ref (xa G (41 + 7 * (k - 77))), .ref (xa G (42 + 7 * (k - 77)))])
  else if k = 81 then .inr (6, [.ref (xa G 77), .ref (xa G 78), .ref (xa G 79), .ref (xa G 76), .ref (xa G 65), .ref (xa G 83), .ref (xa G 82), .ref (xa G 70), .ref (xa G 71), .int (S.1.1 38 0), .int (S.1.1 38 1), .long (S.1.2 0), .long (S.1.2 1), .int (S.1.1 38 2), .int (S.1.1 38 3), .int (S.1.1 38 4)])
  else if k = 82 then .inr (1, [.ref (xa G 67), .ref (xa G 68), .ref (xa G 69), .int (S.1.1 39 0), .int (S.1.1 39 1)])
  else if k = 83 then .inr (2, [.ref (xa G 84), .ref (xa G 80), .int (S.1.1 40 0), .int (S.1.1 40 1), .int (S.1.1 40 2)])
  else if k = 84 then .inr (4, [.ref (xa G 66), .int (S.1.1 41 0)])
  else if k = 85 then .inr (7, [.ref (xa G 86), .ref (xa G 87), .ref (xa G 88), .int (S.2.1 6 0), .long (S.2.2 0), .long (S.2.2 1), .ref (xa G 89), .int (S.2.1 6 1), .int (S.2.1 6 2), .int (S.2.1 6 3), .ref (xa G 90), .ref (xa G 91), .long (S.2.2 2)])
  else if k = 86 then .inl (xI G, 1752, .inl (S.2.1 0))
  else if k = 87 then .inl (xZ G, 2, .inl (S.2.1 1))
  else if k = 88 then .inl (xI G, 150, .inl (S.2.1 2))
  else if k = 89 then .inl (xI G, 3, .inl (S.2.1 3))
  else if k = 90 then .inl (xI G, 6, .inl (S.2.1 4))
  else .inl (xI G, 6, .inl (S.2.1 5))
def xCL (G : xG) (S : xS) : va_W := (List.range 92).map fun k => (xa G k, xC G S k)
def xA (G : xG) : Nat → Prop := fun q => ∃ k, k < 92 ∧ q = xa G k
/-- the links to nest mates' methods -/
def xnl : List (String × Nat × MethodName × String) := [(RX5, 60, ⟨RX8, "within", "(III)Z"⟩, RX8), (RX2, 121, ⟨RX8, "within", "(III)Z"⟩, RX8), (RX6, 96, ⟨RX8, "holdsBit", "(II)Z"⟩, RX8), (RX1, 55, ⟨RX8, "isPartOf", "(II)Z"⟩, RX8), (RX1, 82, ⟨RX8, "holdsBit", "(II)Z"⟩, RX8)]
/-- the seven texts: lengths, bytes, signs -/
def xlS : List Nat := [4, 3, 5, 4, 3, 4, 5]
def xbS : List (List Int32) := [[116, 111, 119, 110], [119, 101, 116], [98, 111, 97, 114, 100], [109, 97, 107, 101], [99, 117, 116], [119, 111, 114, 109], [121, 101, 97, 114, 115]]
def xtx (i : Nat) : String := (["town", "wet", "board", "make", "cut", "worm", "years"] : List String).getD i ""
/-- the texts stand at 100 + i, their bytes at 200 + i; two statics -/
def xS0 (G : xG) (U : State) (H : Heap) : Prop := vk_S 7 xlS xbS (fun i => xa G (100 + i)) (fun i => xa G (200 + i)) (xA G) U H ∧ (∀ i, i < 7 → vk_R RX5 (81 + 2 * i) (xtx i) (xa G (100 + i)) U) ∧
  va_Z "java/lang/String" "COMPACT_STRINGS" "Z" (.int 1) (xA G) U H ∧ ∃ v : Value, (v = .null ∨ ∃ a, v = .ref a) ∧ va_Z "jdk/internal/util/Preconditions" "SIOOBE_FORMATTER" "Ljava/util/function/BiFunction;" v (xA G) U H
/-- what the tables say, and that the addresses are apart; what else is known stays -/
def xK (G : xG) (U : State) : Prop := va_K (xD G) xcl [(xI G, .int), (xZ G, .boolean)] U ∧ (∀ i j, i < 92 → j < 92 → xa G i = xa G j → i = j) ∧
  (∀ (u V : State) (H : Heap), u.WarmedH V.vm → xE G u H → xE G V H) ∧ (∀ (u V : State) (H : Heap), V.vm = u.vm → xE G u H → xE G V H) ∧ (∀ (u : State) (H H1 : Heap), xE G u H → (∀ q : Nat, q < H.size → ¬ xA G q → H1[q]? = H[q]?) → xE G u H1) ∧
  (∀ q ∈ xnl, va_Nw (.methodLinkNest q.1 q.2.1 q.2.2.1 q.2.2.2) U) ∧ ∀ (u : State) (H : Heap), xE G u H → xS0 G u H
theorem xK.warm {G : xG} {u U : State} (hW : u.WarmedH U.vm) (h : xK G u) : xK G U := ⟨va_K.moved hW.alike h.1, h.2.1, h.2.2.1, h.2.2.2.1, h.2.2.2.2.1, fun q hq => va_Nw.warmM hW (h.2.2.2.2.2.1 q hq), h.2.2.2.2.2.2⟩
theorem xK.same {G : xG} {u U : State} (hv : U.vm = u.vm) (h : xK G u) : xK G U := ⟨va_K.moved (by rw [hv]; exact Vm.Alike.refl u.vm) h.1, h.2.1, h.2.2.1, h.2.2.2.1, h.2.2.2.2.1, fun q hq => va_Nw.same rfl hv.symm (h.2.2.2.2.2.1 q hq), h.2.2.2.2.2.2⟩
theorem xCL_at {G : xG} {S : xS} {k : Nat} (h : k < 92) : (xCL G S)[k]? = some (xa G k, xC G S k) := by simp [xCL, h]
theorem xCL_lt {G : xG} {S : xS} {k : Nat} {q : Nat × va_E} (h : (xCL G S)[k]? = some q) : k < 92 ∧ q = (xa G k, xC G S k) := by
  have h1 : k < (xCL G S).length := (List.getElem?_eq_some_iff.mp h).1
  have h2 : k < 92 := by simpa [xCL] using h1
  exact ⟨h2, Option.some.inj (h.symm.trans (xCL_at h2))⟩
theorem xCL_set {G : xG} {S S' : xS} {k : Nat} {e : va_E} (hk : k < 92) (he : xC G S' k = e) (ho : ∀ j, j < 92 → j ≠ k → xC G S j = xC G S' j) : (xCL G S).set k (xa G k, e) = xCL G S' := by
  apply List.ext_getElem?
  intro j
  rw [List.getElem?_set]
  by_cases hj : k = j
  · subst hj
    rw [if_pos rfl, if_pos (by simpa [xCL] using hk), xCL_at hk, he]
  · rw [if_neg hj]
    by_cases h : j < 92
    · rw [xCL_at h, xCL_at h, ho j h (fun e => hj e.symm)]
    · rw [List.getElem?_eq_none (by simpa [xCL] using h), List.getElem?_eq_none (by simpa [xCL] using h)]
theorem xDD {G : xG} (S : xS) (hI : ∀ i j, i < 92 → j < 92 → xa G i = xa G j → i = j) : va_D (xA G) (xCL G S) := by
  refine ⟨fun i j p q hi hj e => ?_, fun k q hk => ?_⟩
  · obtain ⟨h1, rfl⟩ := xCL_lt hi
    obtain ⟨h2, rfl⟩ := xCL_lt hj
    exact hI i j h1 h2 e
  · obtain ⟨h1, rfl⟩ := xCL_lt hk
    exact ⟨k, h1, rfl⟩
/-- what holds in a method's frame -/
def xF (G : xG) (Y : xY) (p : Program) (R : Room) (s : State) (m : MethodId) (args : Array Value) (meth : Method) (c : Code) : Prop :=
  p.tables.exec = Jvm.exec ∧ c.code = xb Y ∧ c.maxLocals = xL Y ∧ s.vm.findClass (xn Y).cls = some m.cls ∧ (∀ w ∈ xw Y, w.before args s = true) ∧ meth.sig.returnType = xt Y ∧ meth.locks = false ∧ xf Y ≤ R.frames ∧ xo Y ≤ R.locals ∧ xK G s ∧ xE G s s.heap
def xQ (G : xG) (r : Option Value) (S : xS) : Array Value → State → Outcome → State → Prop := fun _ st oc t => oc = .returned r ∧ va_P (xD G) xcl (xCL G S) t.heap ∧ va_F (xA G) st t
/-- a walk: from this place, with these locals (some of them) and this stack, over the world of S, the method comes to its end with the answer r and the world of S' -/
def xAt (G : xG) (Y : xY) (pc : Nat) (lv : List (Nat × Value)) (st : List Value) (S : xS) (r : Option Value) (S' : xS) : Prop :=
  ∀ (p : Program) (e : Env) (R : Room) (s : State) (m : MethodId) (args : Array Value) (below : List Frame) (meth : Method) (c : Code) (H : Heap) (locs : List Loc) (ls : Array Slot),
    xF G Y p R s m args meth c → va_P (xD G) xcl (xCL G S) H → va_S (xA G) s.heap H locs → lv_has ls (xL Y) lv →
    W p (xl G) e R s m args below meth c H locs 0 0 (MQ below (xQ G r S') args s 0 0 (xA G)) (F0 m pc ls st)
/-- a method's contract: from the world of S with these arguments it answers r and leaves the world of S' -/
def xCt (G : xG) (Y : xY) (av : List Value) (S : xS) (r : Option Value) (S' : xS) : Prop :=
  Met (xl G) (xn Y) (xw Y) (xrm Y) (va_Pc av (fun U => va_P (xD G) xcl (xCL G S) U.heap ∧ xK G U ∧ xE G U U.heap)) (xQ G r S') 0 0 (xA G)
/-- a walk that follows a functional program: where the program has a value, the method comes to it -/
def xR {ρ : Type} (G : xG) (Y : xY) (em : ρ → Option Value × xS) (pc : Nat) (lv : List (Nat × Value)) (st : List Value) (S : xS) (F : Option ρ) : Prop :=
  ∀ r : ρ, F = some r → xAt G Y pc lv st S (em r).1 (em r).2
theorem xR_none {ρ : Type} {G : xG} {Y : xY} {em : ρ → Option Value × xS} {pc : Nat} {lv : List (Nat × Value)} {st : List Value} {S : xS} : xR G Y em pc lv st S none := fun _ h => by cases h
theorem xCt_of {G : xG} {Y : xY} {av : List Value} {S S' : xS} {r : Option Value} (hy : plainName (xn Y).cls = true) (hn : (lg_sl av).length ≤ xL Y) (h : xAt G Y 0 (lv_args 0 av) [] S r S') : xCt G Y av S r S' := by
  refine Met.ofW (cc := xb Y) (maxL := xL Y) (ret := xt Y) hy rfl ?_
  intro p e s m args below meth c s₁ B hml hv
  obtain ⟨rfl, hP, hK, hE⟩ := hv
  have hl := lv_entry av (n := xL Y) hn
  rw [lg_entry_eq]
  exact h p e _ s m _ below meth c s.heap [] _ ⟨B.exec, B.bytes, hml, findClass_of_methodNamed B.named, atoms_spec (ws := xw Y) B.pre, B.returns, B.notSynchronized, Nat.le_refl _, Nat.le_refl _, hK, hE⟩ hP va_S.rf hl
/-- a contract out of a walk that follows a program -/
theorem xR_ct {ρ : Type} {G : xG} {Y : xY} {em : ρ → Option Value × xS} {av : List Value} {S : xS} {F : Option ρ} (hy : plainName (xn Y).cls = true) (hn : (lg_sl av).length ≤ xL Y) (h : xR G Y em 0 (lv_args 0 av) [] S F) : ∀ r : ρ, F = some r → xCt G Y av S (em r).1 (em r).2 := fun r hr => xCt_of hy hn (h r hr)
