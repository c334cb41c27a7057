/-! TEXTS: rows over the seven constant texts -/
section XTXT
variable {ρ : Type} {G : xG} {Y : xY} {em : ρ → Option Value × xS} {lv : List (Nat × Value)} {st : List Value} {S : xS} {F : Option ρ}
theorem xS_of {p : Program} {R : Room} {s : State} {m : MethodId} {args : Array Value} {meth : Method} {c : Code} (hF : xF G Y p R s m args meth c) : xS0 G s s.heap := hF.2.2.2.2.2.2.2.2.2.1.2.2.2.2.2.2 _ _ hF.2.2.2.2.2.2.2.2.2.2
theorem xR_sgetc (pc i : Nat) (hi : i < 7) {idx : Nat} (hl : Cond.fieldLink (xn Y).cls idx "java/lang/String" "coder" "B" ∈ lw_tb) (hd : decode (xb Y) pc = .ok (.getfield idx, 3)) (kk : xR G Y em (pc + 3) lv (.int 0 :: st) S F) : xR G Y em pc lv (.ref (xa G (100 + i)) :: st) S F :=
  fun r hr p e R s m args below meth c H locs ls hF hP hS hlv => vk_getf hF.1 hF.2.1 (((xS_of hF).1.1 i hi).2.1) hS hF.2.2.2.1 (hF.2.2.2.2.1 _ (xw_of hl)) (fun x h => h) hd (kk r hr p e R s m args below meth c H locs ls hF hP hS hlv)
theorem xR_sgetv (pc i : Nat) (hi : i < 7) {idx : Nat} (hl : Cond.fieldLink (xn Y).cls idx "java/lang/String" "value" "[B" ∈ lw_tb) (hd : decode (xb Y) pc = .ok (.getfield idx, 3)) (kk : xR G Y em (pc + 3) lv (.ref (xa G (200 + i)) :: st) S F) : xR G Y em pc lv (.ref (xa G (100 + i)) :: st) S F :=
  fun r hr p e R s m args below meth c H locs ls hF hP hS hlv => vk_getf hF.1 hF.2.1 (((xS_of hF).1.1 i hi).2.2.1) hS hF.2.2.2.1 (hF.2.2.2.2.1 _ (xw_of hl)) (fun x h => h) hd (kk r hr p e R s m args below meth c H locs ls hF hP hS hlv)
theorem xR_salen (pc i : Nat) (hi : i < 7) (hd : decode (xb Y) pc = .ok (.arraylength, 1)) (kk : xR G Y em (pc + 1) lv (.int (Int32.ofNat (xlS.getD i 0)) :: st) S F) : xR G Y em pc lv (.ref (xa G (200 + i)) :: st) S F :=
  fun r hr p e R s m args below meth c H locs ls hF hP hS hlv => va_tlen hF.1 hF.2.1 (((xS_of hF).1.1 i hi).2.2.2) hS rfl hd (kk r hr p e R s m args below meth c H locs ls hF hP hS hlv)
theorem xR_sbald (pc i : Nat) (hi : i < 7) {j : Int32} (hd : decode (xb Y) pc = .ok (.baload, 1)) (kk : xR G Y em (pc + 1) lv (.int ((xbS.getD i []).getD j.toNatClampNeg 0) :: st) S F) : xR G Y em pc lv (.int j :: .ref (xa G (200 + i)) :: st) S (xck (xlS.getD i 0) j F) :=
  xR_ck fun hin r hr p e R s m args below meth c H locs ls hF hP hS hlv => va_tb hF.1 hF.2.1 (((xS_of hF).1.1 i hi).2.2.2) hS hin rfl hd (kk r hr p e R s m args below meth c H locs ls hF hP hS hlv)
theorem xR_sgets (pc : Nat) {idx : Nat} (hl : Cond.fieldLink (xn Y).cls idx "java/lang/String" "COMPACT_STRINGS" "Z" ∈ lw_tb) (hd : decode (xb Y) pc = .ok (.getstatic idx, 3)) (kk : xR G Y em (pc + 3) lv (.int 1 :: st) S F) : xR G Y em pc lv st S F :=
  fun r hr p e R s m args below meth c H locs ls hF hP hS hlv => va_gets hF.1 hF.2.1 (xS_of hF).2.2.1 hS hF.2.2.2.1 (hF.2.2.2.2.1 _ (xw_of hl)) (fun x h => h) hd (kk r hr p e R s m args below meth c H locs ls hF hP hS hlv)
theorem xR_sgetf (pc : Nat) {idx : Nat} (hl : Cond.fieldLink (xn Y).cls idx "jdk/internal/util/Preconditions" "SIOOBE_FORMATTER" "Ljava/util/function/BiFunction;" ∈ lw_tb) (hd : decode (xb Y) pc = .ok (.getstatic idx, 3)) (kk : ∀ v : Value, (v = .null ∨ ∃ a, v = .ref a) → xR G Y em (pc + 3) lv (v :: st) S F) : xR G Y em pc lv st S F :=
  fun r hr p e R s m args below meth c H locs ls hF hP hS hlv => by
    obtain ⟨v, hv, hZ⟩ := (xS_of hF).2.2.2
    exact va_gets hF.1 hF.2.1 hZ hS hF.2.2.2.1 (hF.2.2.2.2.1 _ (xw_of hl)) (fun x h => h) hd (kk v hv r hr p e R s m args below meth c H locs ls hF hP hS hlv)
theorem xR_sldc (pc i : Nat) (hi : i < 7) {idx : Nat} (hix : idx = 81 + 2 * i) (hY : (xn Y).cls = RX5) (hd : decode (xb Y) pc = .ok (.ldc idx, 2)) (kk : xR G Y em (pc + 2) lv (.ref (xa G (100 + i)) :: st) S F) : xR G Y em pc lv st S F :=
  fun r hr p e R s m args below meth c H locs ls hF hP hS hlv => va_ldcS hF.1 hF.2.1 hF.2.2.2.1 (by rw [hY, hix]; exact (xS_of hF).2.1 i hi) hd (kk r hr p e R s m args below meth c H locs ls hF hP hS hlv)
/-- an end with a small number: what its type keeps -/
theorem xW_nret {p : Program} {l : Launch} {e : Env} {R : Room} {s : State} {m : MethodId} {args : Array Value} {below : List Frame} {meth : Method} {c : Code} {H : Heap} {locs : List Loc} {cells slots : Nat} {cc : ByteArray} {Qc : Array Value → State → Outcome → State → Prop} {free : Addr → Prop} {v w : Int32} {ty : FieldType} (hexec : p.tables.exec = Jvm.exec) (hb : c.code = cc) (hr : meth.sig.returnType = some ty) (hn : narrow ty (.int v) = .int w)
    (hq : ∀ t : State, t.heap = H → s.WarmedH t.vm → Qc args s (.returned (some (.int w))) t) (hf : ∀ q ∈ locs, free q.base)
    {pc : Nat} {ls : Array Slot} (hdg : decode cc pc = .ok (.ireturn, 1)) (hlocks : meth.locks = false) : W p l e R s m args below meth c H locs cells slots (MQ below Qc args s cells slots free) (F0 m pc ls [.int v]) := by
  intro T hT X
  obtain ⟨fs, hret, hrun, hended, hW, hframe⟩ := X.leave (v := some (.int w)) (fun h => by rw [hr] at h; cases h)
  have hmeth' : T.vm.method? m = some meth := X.method'
  refine ⟨T.setFrames fs, ?_, .returned (some (.int w)), hrun, hended, hq _ hT hW, locs, ⟨⟨_, rfl⟩, hW, hframe⟩, hf⟩
  jvm_step X.here [X.here.top, hexec, hb, hdg, hmeth', hr, hn]
  (try refine ⟨rfl, ?_⟩); (try refine ⟨rfl, ?_⟩)
  first | (intro acts; rw [hret _ acts rfl rfl rfl]) | rw [hret _ _ rfl rfl rfl]
  exact Steps.refl _
theorem xR_nret (pc : Nat) {v : Int32} {r0 : ρ} (ty : FieldType) (hy : ty = .byte ∨ ty = .char) (ht : xt Y = some ty) (he : em r0 = (some (.int (vp_nar ty v)), S)) (hd : decode (xb Y) pc = .ok (.ireturn, 1)) : xR G Y em pc lv [.int v] S (some r0) :=
  fun r hr p e R s m args below meth c H locs ls hF hP hS hlv => by
    cases hr
    rw [he]
    exact xW_nret hF.1 hF.2.1 (hF.2.2.2.2.2.1.trans ht) (by rcases hy with rfl | rfl <;> rfl) (fun t h1 hW => ⟨rfl, by rw [h1]; exact hP, hS.F h1⟩) hS.2.2 hd hF.2.2.2.2.2.2.1
/-- an end with a text: its place -/
def emq (G : xG) (S : xS) : Nat → Option Value × xS := fun i => (some (.ref (xa G (100 + i))), S)
theorem xR_aret (pc i : Nat) (ht : xt Y = some (.object "java/lang/String")) {r0 : ρ} (he : em r0 = (some (.ref (xa G (100 + i))), S)) (hd : decode (xb Y) pc = .ok (.areturn, 1)) : xR G Y em pc lv [.ref (xa G (100 + i))] S (some r0) :=
  fun r hr p e R s m args below meth c H locs ls hF hP hS hlv => by
    cases hr
    rw [he]
    exact W.aret hF.1 hF.2.1 (hF.2.2.2.2.2.1.trans ht) (Or.inl ⟨_, rfl⟩) (Or.inr ⟨_, rfl⟩) (fun t h1 hW => ⟨rfl, by rw [h1]; exact hP, hS.F h1⟩) hS.2.2 hd hF.2.2.2.2.2.2.1
def xlt7 (i : Nat) {ρ : Type} (F : Option ρ) : Option ρ := if i < 7 then F else none
theorem xR_lt7 {i pc : Nat} (h : i < 7 → xR G Y em pc lv st S F) : xR G Y em pc lv st S (xlt7 i F) := by
  by_cases hy : i < 7
  · unfold xlt7; rw [if_pos hy]; exact h hy
  · unfold xlt7; rw [if_neg hy]; exact xR_none
/-- a call upon a text -/
theorem xR_callQi (pc : Nat) {idx n : Nat} {Y2 : xY} (hcv : xcv Y2 n) (hl : Cond.methodLink (xn Y).cls idx (xn Y2) ∈ lw_tb) (hroom : xf Y2 + 1 ≤ xf Y ∧ 8 + (xL Y2 + 11) + xo Y2 ≤ xo Y) (hC : (xn Y2).cls = "java/lang/String") (i : Nat) (hi : i < 7) (As : List Value) {rest st0 : List Value} (hn : As.length = n) (hst : st0 = As.reverse ++ .ref (xa G (100 + i)) :: rest) (hr8 : (rest.map fun v => v.category).sum ≤ 8) (hd : decode (xb Y) pc = .ok (.invokevirtual idx, 3))
    {g : Option Int32} {Kt : Int32 → Option ρ} (hcon : ∀ a, g = some a → xCt G Y2 (.ref (xa G (100 + i)) :: As) S (some (.int a)) S) (kk : ∀ a, xR G Y em (pc + 3) lv (.int a :: rest) S (Kt a)) : xR G Y em pc lv st0 S (g.bind Kt) := by
  intro r hr p e R s m args below meth c H locs ls hF hP hS hlv
  cases hg : g with
  | none => rw [hg] at hr; cases hr
  | some a =>
    rw [hg] at hr
    have hK : Kt a = some r := hr
    obtain ⟨hx, hb, hml, hown, hts, hret, hlk, hfr, hlo, hKK, hE⟩ := id hF
    have hG := xw_good (Y := Y) hcv.1
    have tb : ∀ w ∈ lw_tb, w.before args s = true := fun w hw => hts w (xw_of hw)
    have cb : CallB R s args (xn Y).cls idx (xn Y2) (xb Y2) (xL Y2) (xt Y2) (xw Y2) (xrm Y2) 0 0 n := callB_of n hts hG rfl rfl rfl (tb _ hcv.1.2.1) (tb _ hl) ⟨hcv.1.2.2.1.1, hcv.1.2.2.1.2, hcv.1.2.2.2⟩ ⟨Nat.le_trans hroom.1 hfr, Nat.le_trans hroom.2 hlo⟩
    exact xR_back (em2 := emi S) (va_runV (As := As) (rest := rest) (C := "java/lang/String") (b := xa G (100 + i)) ⟨hx, hb, hml, hown, hts⟩ (hcon a hg) ⟨cb, tb _ hcv.2.1, by rw [← hC]; exact tb _ hcv.2.2⟩ ⟨xblind, vk_recv (i := i) (adK := fun i => xa G (100 + i)) (xS_of hF).1 hi hS, xpre hF hP hS _⟩ rfl hn hlv.1 hst (lv_room hr8) hd ⟨Nat.zero_le _, Nat.zero_le _⟩) (kk a) hK hF hS hlv
theorem xR_callSq (pc : Nat) {idx n : Nat} {Y2 : xY} (hcs : xcs Y2 n) (hl : Cond.methodLink (xn Y).cls idx (xn Y2) ∈ lw_tb) (hroom : xf Y2 + 1 ≤ xf Y ∧ 8 + (xL Y2 + 11) + xo Y2 ≤ xo Y) (As : List Value) {rest st0 : List Value} (hn : As.length = n) (hst : st0 = As.reverse ++ rest) (hr8 : (rest.map fun v => v.category).sum ≤ 8) (hd : decode (xb Y) pc = .ok (.invokestatic idx, 3))
    {g : Option Nat} {Kt : Nat → Option ρ} (hcon : ∀ a, g = some a → xCt G Y2 As S (some (.ref (xa G (100 + a)))) S) (kk : ∀ a, xR G Y em (pc + 3) lv (.ref (xa G (100 + a)) :: rest) S (Kt a)) : xR G Y em pc lv st0 S (g.bind Kt) := xR_callS (em2 := emq G S) pc hcs hl hroom As hn hst hr8 hd hcon kk
def emu (S : xS) : Unit → Option Value × xS := fun _ => (none, S)
theorem xR_callSu (pc : Nat) {idx n : Nat} {Y2 : xY} (hcs : xcs Y2 n) (hl : Cond.methodLink (xn Y).cls idx (xn Y2) ∈ lw_tb) (hroom : xf Y2 + 1 ≤ xf Y ∧ 8 + (xL Y2 + 11) + xo Y2 ≤ xo Y) (As : List Value) {rest st0 : List Value} (hn : As.length = n) (hst : st0 = As.reverse ++ rest) (hr8 : (rest.map fun v => v.category).sum ≤ 8) (hd : decode (xb Y) pc = .ok (.invokestatic idx, 3))
    {g : Option Unit} {Kt : Unit → Option ρ} (hcon : ∀ a, g = some a → xCt G Y2 As S none S) (kk : ∀ a, xR G Y em (pc + 3) lv rest S (Kt a)) : xR G Y em pc lv st0 S (g.bind Kt) := xR_callS (em2 := emu S) pc hcs hl hroom As hn hst hr8 hd hcon kk
end XTXT
