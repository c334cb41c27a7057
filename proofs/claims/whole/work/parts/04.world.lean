/-! THE WORLD: what each cell holds, what a write of it changes -/
theorem xcf0 : xcf 0 RX0 TX0 2 tyX0 := ⟨rfl, by decide +kernel, tyX0_ok, nmX0, by decide +kernel⟩
theorem xcf1 : xcf 1 RX1 TX1 5 tyX1 := ⟨rfl, by decide +kernel, tyX1_ok, nmX1, by decide +kernel⟩
theorem xcf2 : xcf 2 RX2 TX2 5 tyX2 := ⟨rfl, by decide +kernel, tyX2_ok, nmX2, by decide +kernel⟩
theorem xcf3 : xcf 3 RX4 TX4 4 tyX4 := ⟨rfl, by decide +kernel, tyX4_ok, nmX4, by decide +kernel⟩
theorem xcf4 : xcf 4 RX5 TX5 2 tyX5 := ⟨rfl, by decide +kernel, tyX5_ok, nmX5, by decide +kernel⟩
theorem xcf5 : xcf 5 RX6 TX6 7 tyX6 := ⟨rfl, by decide +kernel, tyX6_ok, nmX6, by decide +kernel⟩
theorem xcf6 : xcf 6 RX8 TX8 16 tyX8 := ⟨rfl, by decide +kernel, tyX8_ok, nmX8, by decide +kernel⟩
theorem xcf7 : xcf 7 RX9 TX9 13 tyX9 := ⟨rfl, by decide +kernel, tyX9_ok, nmX9, by decide +kernel⟩
section XW
variable {G : xG} {S : xS} {μ ν : xM}
theorem xC_arr {t : Nat} (h : t < 36) : xC G S t = .inl (xI G, xlen t, .inl (S.1.1 t)) := by unfold xC; rw [if_pos h]
theorem xC_tab {t : Nat} (h : t < 36) : xC G S (36 + t) = .inr (3, [.int (xrows t), .int (xwid t), .ref (xa G t), .int (S.1.1 36 t)]) := by
  unfold xC
  rw [if_neg (by omega), if_pos (by omega), Nat.add_sub_cancel_left]
theorem xC_brd {b : Nat} (h : b < 5) : xC G S (72 + b) = .inr (0, [.ref (xa G (36 + xtb b)), .int (S.1.1 37 b)]) := by
  unfold xC
  rw [if_neg (by omega), if_neg (by omega), if_pos (by omega), Nat.add_sub_cancel_left]
theorem xC_twn {t : Nat} (h : t < 4) : xC G S (77 + t) = .inr (5, [.ref (xa G (72 + t)), .ref (xa G (36 + (7 * t + 1))), .ref (xa G (36 + (7 * t + 2))), .ref (xa G (36 + (7 * t + 3))), .ref (xa G (36 + (7 * t + 4))), .ref (xa G (36 + (7 * t + 5))), .ref (xa G (36 + (7 * t + 6)))]) := by
  unfold xC
  rw [if_neg (by omega), if_neg (by omega), if_neg (by omega), if_pos (by omega), Nat.add_sub_cancel_left]
  have e : ∀ a b : Nat, a = b → xa G a = xa G b := fun _ _ h => by rw [h]
  rw [e (77 + t - 5) (72 + t) (by omega), e (37 + 7 * t) (36 + (7 * t + 1)) (by omega), e (38 + 7 * t) (36 + (7 * t + 2)) (by omega), e (39 + 7 * t) (36 + (7 * t + 3)) (by omega), e (40 + 7 * t) (36 + (7 * t + 4)) (by omega), e (41 + 7 * t) (36 + (7 * t + 5)) (by omega), e (42 + 7 * t) (36 + (7 * t + 6)) (by omega)]
theorem xC_same {S' : xS} {j : Nat} (hj : j < 92) (h0 : j < 36 → S.1.1 j = S'.1.1 j) (h1 : 36 ≤ j → j < 72 → S.1.1 36 (j - 36) = S'.1.1 36 (j - 36)) (h2 : 72 ≤ j → j < 77 → S.1.1 37 (j - 72) = S'.1.1 37 (j - 72)) (h3 : j = 81 → S.1.1 38 = S'.1.1 38 ∧ S.1.2 = S'.1.2) (h4 : j = 82 → S.1.1 39 = S'.1.1 39) (h5 : j = 83 → S.1.1 40 = S'.1.1 40) (h6 : j = 84 → S.1.1 41 = S'.1.1 41) (h7 : j = 85 → S.2.1 6 = S'.2.1 6 ∧ S.2.2 = S'.2.2) (h8 : 86 ≤ j → S.2.1 (j - 86) = S'.2.1 (j - 86)) : xC G S j = xC G S' j := by
  unfold xC
  by_cases c0 : j < 36
  · rw [if_pos c0, if_pos c0, h0 c0]
  rw [if_neg c0, if_neg c0]
  by_cases c1 : j < 72
  · rw [if_pos c1, if_pos c1, h1 (by omega) c1]
  rw [if_neg c1, if_neg c1]
  by_cases c2 : j < 77
  · rw [if_pos c2, if_pos c2, h2 (by omega) c2]
  rw [if_neg c2, if_neg c2]
  by_cases c3 : j < 81
  · rw [if_pos c3, if_pos c3]
  rw [if_neg c3, if_neg c3]
  by_cases c4 : j = 81
  · rw [if_pos c4, if_pos c4, (h3 c4).1, (h3 c4).2]
  rw [if_neg c4, if_neg c4]
  by_cases c5 : j = 82
  · rw [if_pos c5, if_pos c5, h4 c5]
  rw [if_neg c5, if_neg c5]
  by_cases c6 : j = 83
  · rw [if_pos c6, if_pos c6, h5 c6]
  rw [if_neg c6, if_neg c6]
  by_cases c7 : j = 84
  · rw [if_pos c7, if_pos c7, h6 c7]
  rw [if_neg c7, if_neg c7]
  by_cases c8 : j = 85
  · rw [if_pos c8, if_pos c8, (h7 c8).1, (h7 c8).2]
  rw [if_neg c8, if_neg c8]
  have h9 := h8 (by omega)
  by_cases c9 : j = 86
  · subst c9; rw [if_pos rfl, if_pos rfl, show S.2.1 0 = S'.2.1 0 from h9]
  rw [if_neg c9, if_neg c9]
  by_cases c10 : j = 87
  · subst c10; rw [if_pos rfl, if_pos rfl, show S.2.1 1 = S'.2.1 1 from h9]
  rw [if_neg c10, if_neg c10]
  by_cases c11 : j = 88
  · subst c11; rw [if_pos rfl, if_pos rfl, show S.2.1 2 = S'.2.1 2 from h9]
  rw [if_neg c11, if_neg c11]
  by_cases c12 : j = 89
  · subst c12; rw [if_pos rfl, if_pos rfl, show S.2.1 3 = S'.2.1 3 from h9]
  rw [if_neg c12, if_neg c12]
  by_cases c13 : j = 90
  · subst c13; rw [if_pos rfl, if_pos rfl, show S.2.1 4 = S'.2.1 4 from h9]
  rw [if_neg c13, if_neg c13]
  have c14 : j = 91 := by omega
  subst c14; rw [show S.2.1 5 = S'.2.1 5 from h9]
theorem xup_ne {m : Nat → Nat → Int32} {a i b : Nat} {v : Int32} (h : b ≠ a) : m b = xup m a i v b := by funext j; simp [xup, h]
theorem xup_nx (m : Nat → Nat → Int32) (a i b : Nat) (v : Int32) (h : b ≠ a) : m b = xup m a i v b := xup_ne h
theorem xup_at {m : Nat → Nat → Int32} {a i : Nat} {v : Int32} : xup m a i v a = upd (m a) i v := by funext j; simp [xup, upd]
theorem xup_nj {m : Nat → Nat → Int32} {a i j : Nat} {v : Int32} (h : j ≠ i) (b : Nat) : m b j = xup m a i v b j := by simp [xup, h]
theorem xup_eq {m : Nat → Nat → Int32} {a i : Nat} {v : Int32} : xup m a i v a i = v := by simp [xup]
/-- writes of the class's memory -/
theorem xW_arr {t i : Nat} {v : Int32} (h : t < 36) : xWr G (μ, ν) ((xup μ.1 t i v, μ.2), ν) t (.inl (xI G, xlen t, .inl (upd (μ.1 t) i v))) :=
  ⟨by rw [xC_arr h]; show Sum.inl (_, _, Sum.inl (xup μ.1 t i v t)) = _; rw [xup_at], fun j hj hne => xC_same hj (fun _ => xup_ne hne) (fun _ _ => congrFun (xup_ne (by omega)) _) (fun _ _ => congrFun (xup_ne (by omega)) _) (fun _ => ⟨xup_ne (by omega), rfl⟩) (fun _ => xup_ne (by omega)) (fun _ => xup_ne (by omega)) (fun _ => xup_ne (by omega)) (fun _ => ⟨rfl, rfl⟩) (fun _ => rfl)⟩
theorem xW_used {t : Nat} {v : Int32} (h : t < 36) : xWr G (μ, ν) ((xup μ.1 36 t v, μ.2), ν) (36 + t) (.inr (3, [.int (xrows t), .int (xwid t), .ref (xa G t), .int v])) :=
  ⟨by rw [xC_tab h]; show Sum.inr (3, [_, _, _, Value.int (xup μ.1 36 t v 36 t)]) = _; rw [xup_eq], fun j hj hne => xC_same hj (fun h => xup_nx μ.1 36 t j v (by omega)) (fun _ _ => xup_nj (by omega) _) (fun _ _ => congrFun (xup_nx μ.1 36 t 37 v (by omega)) _) (fun _ => ⟨xup_nx μ.1 36 t 38 v (by omega), rfl⟩) (fun _ => xup_nx μ.1 36 t 39 v (by omega)) (fun _ => xup_nx μ.1 36 t 40 v (by omega)) (fun _ => xup_nx μ.1 36 t 41 v (by omega)) (fun _ => ⟨rfl, rfl⟩) (fun _ => rfl)⟩
theorem xW_year {b : Nat} {v : Int32} (h : b < 5) : xWr G (μ, ν) ((xup μ.1 37 b v, μ.2), ν) (72 + b) (.inr (0, [.ref (xa G (36 + xtb b)), .int v])) :=
  ⟨by rw [xC_brd h]; show Sum.inr (0, [_, Value.int (xup μ.1 37 b v 37 b)]) = _; rw [xup_eq], fun j hj hne => xC_same hj (fun h => xup_nx μ.1 37 b j v (by omega)) (fun _ _ => congrFun (xup_nx μ.1 37 b 36 v (by omega)) _) (fun _ _ => xup_nj (by omega) _) (fun _ => ⟨xup_nx μ.1 37 b 38 v (by omega), rfl⟩) (fun _ => xup_nx μ.1 37 b 39 v (by omega)) (fun _ => xup_nx μ.1 37 b 40 v (by omega)) (fun _ => xup_nx μ.1 37 b 41 v (by omega)) (fun _ => ⟨rfl, rfl⟩) (fun _ => rfl)⟩
/-- a write of block a, 38 and on: cell a + 43 alone reads it -/
theorem xW_blk {a i : Nat} {v : Int32} (h : 38 ≤ a) (h2 : a ≤ 41) {e : va_E} (he : xC G ((xup μ.1 a i v, μ.2), ν) (a + 43) = e) : xWr G (μ, ν) ((xup μ.1 a i v, μ.2), ν) (a + 43) e :=
  ⟨he, fun j hj hne => xC_same hj (fun h => xup_ne (by omega)) (fun _ _ => congrFun (xup_ne (by omega)) _) (fun _ _ => congrFun (xup_ne (by omega)) _) (fun _ => ⟨xup_ne (by omega), rfl⟩) (fun _ => xup_ne (by omega)) (fun _ => xup_ne (by omega)) (fun _ => xup_ne (by omega)) (fun _ => ⟨rfl, rfl⟩) (fun _ => rfl)⟩
theorem xW_lng {i : Nat} {v : Int64} {e : va_E} (he : xC G ((μ.1, xul μ.2 i v), ν) 81 = e) : xWr G (μ, ν) ((μ.1, xul μ.2 i v), ν) 81 e :=
  ⟨he, fun j hj hne => xC_same hj (fun _ => rfl) (fun _ _ => rfl) (fun _ _ => rfl) (fun h => absurd h hne) (fun _ => rfl) (fun _ => rfl) (fun _ => rfl) (fun _ => ⟨rfl, rfl⟩) (fun _ => rfl)⟩
/-- writes of the reference's memory -/
theorem xW_mrow {a i : Nat} {v : Int32} (h : a < 6) {e : va_E} (he : xC G (μ, (xup ν.1 a i v, ν.2)) (86 + a) = e) : xWr G (μ, ν) (μ, (xup ν.1 a i v, ν.2)) (86 + a) e :=
  ⟨he, fun j hj hne => xC_same hj (fun _ => rfl) (fun _ _ => rfl) (fun _ _ => rfl) (fun _ => ⟨rfl, rfl⟩) (fun _ => rfl) (fun _ => rfl) (fun _ => rfl) (fun _ => ⟨xup_ne (by omega), rfl⟩) (fun h => xup_ne (by omega))⟩
theorem xW_mint {i : Nat} {v : Int32} {e : va_E} (he : xC G (μ, (xup ν.1 6 i v, ν.2)) 85 = e) : xWr G (μ, ν) (μ, (xup ν.1 6 i v, ν.2)) 85 e :=
  ⟨he, fun j hj hne => xC_same hj (fun _ => rfl) (fun _ _ => rfl) (fun _ _ => rfl) (fun _ => ⟨rfl, rfl⟩) (fun _ => rfl) (fun _ => rfl) (fun _ => rfl) (fun h => absurd h hne) (fun h => xup_ne (by omega))⟩
theorem xW_mlng {i : Nat} {v : Int64} {e : va_E} (he : xC G (μ, (ν.1, xul ν.2 i v)) 85 = e) : xWr G (μ, ν) (μ, (ν.1, xul ν.2 i v)) 85 e :=
  ⟨he, fun j hj hne => xC_same hj (fun _ => rfl) (fun _ _ => rfl) (fun _ _ => rfl) (fun _ => ⟨rfl, rfl⟩) (fun _ => rfl) (fun _ => rfl) (fun _ => rfl) (fun h => absurd h hne) (fun _ => rfl)⟩
end XW
/-! answers -/
def emi (S : xS) : Int32 → Option Value × xS := fun v => (some (.int v), S)
def eml (S : xS) : Int64 → Option Value × xS := fun v => (some (.long v), S)
def emic (ν : xM) : Int32 × xM → Option Value × xS := fun q => (some (.int q.1), (q.2, ν))
def emlc (ν : xM) : Int64 × xM → Option Value × xS := fun q => (some (.long q.1), (q.2, ν))
def emvc (ν : xM) : xM → Option Value × xS := fun q => (none, (q, ν))
def emim (μ : xM) : Int32 × xM → Option Value × xS := fun q => (some (.int q.1), (μ, q.2))
def emlm (μ : xM) : Int64 × xM → Option Value × xS := fun q => (some (.long q.1), (μ, q.2))
def emvm (μ : xM) : xM → Option Value × xS := fun q => (none, (μ, q))
section XM
variable {ρ : Type} {G : xG} {Y : xY} {em : ρ → Option Value × xS} {lv : List (Nat × Value)} {st : List Value} {S : xS} {F : Option ρ}
def xmax (x y : Int32) : Int32 := if x < y then y else x
def xmin (x y : Int32) : Int32 := if y < x then y else x
def xabs (x : Int32) : Int32 := if 0 ≤ x then x else 0 - x
theorem xmw_max : Cond.static Lib.Math.max.name ∈ lw_tb ∧ Cond.initialized "java/lang/Math" ∈ lw_tb ∧ Cond.code Lib.Math.max.name Lib.Math.max.code 2 (some .int) ∈ lw_tb := by decide +kernel
theorem xmw_min : Cond.static Lib.Math.min.name ∈ lw_tb ∧ Cond.initialized "java/lang/Math" ∈ lw_tb ∧ Cond.code Lib.Math.min.name Lib.Math.min.code 2 (some .int) ∈ lw_tb := by decide +kernel
theorem xmw_abs : Cond.static Lib.Math.abs.name ∈ lw_tb ∧ Cond.initialized "java/lang/Math" ∈ lw_tb ∧ Cond.code Lib.Math.abs.name Lib.Math.abs.code 1 (some .int) ∈ lw_tb := by decide +kernel
theorem xR_mmax (pc : Nat) {idx : Nat} {x y : Int32} (hl : Cond.methodLink (xn Y).cls idx Lib.Math.max.name ∈ lw_tb) (hroom : 1 ≤ xf Y ∧ (st.map fun v => v.category).sum + 13 ≤ xo Y) (hd : decode (xb Y) pc = .ok (.invokestatic idx, 3)) (kk : xR G Y em (pc + 3) lv (.int (xmax x y) :: st) S F) : xR G Y em pc lv (.int y :: .int x :: st) S F :=
  fun r hr p e R s m args below meth c H locs ls hF hP hS hlv => va_mmax hF.1 hF.2.1 (hF.2.2.1.trans hlv.1.symm) hF.2.2.2.1 (hF.2.2.2.2.1 _ (xw_of hl)) (hF.2.2.2.2.1 _ (xw_of xmw_max.1)) (hF.2.2.2.2.1 _ (xw_of xmw_max.2.1)) (hF.2.2.2.2.1 _ (xw_of xmw_max.2.2)) (Nat.le_trans hroom.1 hF.2.2.2.2.2.2.2.1) (Nat.le_trans hroom.2 hF.2.2.2.2.2.2.2.2.1) (Nat.zero_le _) (Nat.zero_le _) hd (kk r hr p e R s m args below meth c H locs ls hF hP hS hlv)
theorem xR_mmin (pc : Nat) {idx : Nat} {x y : Int32} (hl : Cond.methodLink (xn Y).cls idx Lib.Math.min.name ∈ lw_tb) (hroom : 1 ≤ xf Y ∧ (st.map fun v => v.category).sum + 13 ≤ xo Y) (hd : decode (xb Y) pc = .ok (.invokestatic idx, 3)) (kk : xR G Y em (pc + 3) lv (.int (xmin x y) :: st) S F) : xR G Y em pc lv (.int y :: .int x :: st) S F :=
  fun r hr p e R s m args below meth c H locs ls hF hP hS hlv => va_mmin hF.1 hF.2.1 (hF.2.2.1.trans hlv.1.symm) hF.2.2.2.1 (hF.2.2.2.2.1 _ (xw_of hl)) (hF.2.2.2.2.1 _ (xw_of xmw_min.1)) (hF.2.2.2.2.1 _ (xw_of xmw_min.2.1)) (hF.2.2.2.2.1 _ (xw_of xmw_min.2.2)) (Nat.le_trans hroom.1 hF.2.2.2.2.2.2.2.1) (Nat.le_trans hroom.2 hF.2.2.2.2.2.2.2.2.1) (Nat.zero_le _) (Nat.zero_le _) hd (kk r hr p e R s m args below meth c H locs ls hF hP hS hlv)
theorem xR_mabs (pc : Nat) {idx : Nat} {x : Int32} (hl : Cond.methodLink (xn Y).cls idx Lib.Math.abs.name ∈ lw_tb) (hroom : 1 ≤ xf Y ∧ (st.map fun v => v.category).sum + 13 ≤ xo Y) (hd : decode (xb Y) pc = .ok (.invokestatic idx, 3)) (kk : xR G Y em (pc + 3) lv (.int (xabs x) :: st) S F) : xR G Y em pc lv (.int x :: st) S F :=
  fun r hr p e R s m args below meth c H locs ls hF hP hS hlv => va_mabs hF.1 hF.2.1 (hF.2.2.1.trans hlv.1.symm) hF.2.2.2.1 (hF.2.2.2.2.1 _ (xw_of hl)) (hF.2.2.2.2.1 _ (xw_of xmw_abs.1)) (hF.2.2.2.2.1 _ (xw_of xmw_abs.2.1)) (hF.2.2.2.2.1 _ (xw_of xmw_abs.2.2)) (Nat.le_trans hroom.1 hF.2.2.2.2.2.2.2.1) (Nat.le_trans hroom.2 hF.2.2.2.2.2.2.2.2.1) (Nat.zero_le _) (Nat.zero_le _) hd (kk r hr p e R s m args below meth c H locs ls hF hP hS hlv)
theorem xR_ldc (pc : Nat) {idx : Nat} {v : Int32} (hl : Cond.constant (xn Y).cls idx v ∈ lw_tb) (hd : decode (xb Y) pc = .ok (.ldc idx, 2)) (kk : xR G Y em (pc + 2) lv (.int v :: st) S F) : xR G Y em pc lv st S F :=
  fun r hr p e R s m args below meth c H locs ls hF hP hS hlv => lv_ldc hF.1 hF.2.1 hF.2.2.2.1 (hF.2.2.2.2.1 _ (xw_of hl)) hd (kk r hr p e R s m args below meth c H locs ls hF hP hS hlv)
theorem xR_ldc2 (pc : Nat) {idx : Nat} {v : Int64} (hl : Cond.constantLong (xn Y).cls idx v ∈ lw_tb) (hd : decode (xb Y) pc = .ok (.ldc2_w idx, 3)) (kk : xR G Y em (pc + 3) lv (.long v :: st) S F) : xR G Y em pc lv st S F :=
  fun r hr p e R s m args below meth c H locs ls hF hP hS hlv => lv_ldc2 hF.1 hF.2.1 hF.2.2.2.1 (hF.2.2.2.2.1 _ (xw_of hl)) hd (kk r hr p e R s m args below meth c H locs ls hF hP hS hlv)
/-- a switch: the number is the table's j-th; the number is none of them -/
theorem xR_tsw (pc tgt : Nat) {dflt lo hi : Int} {offs : Array Int} {len : Nat} {x : Int32} (v : Int32) {off : Int} (hd : decode (xb Y) pc = .ok (.tableswitch dflt lo hi offs, len)) (h1 : ¬ v.toInt < lo) (h2 : ¬ hi < v.toInt) (ho : offs[(v.toInt - lo).toNat]? = some off) (ht : (pc : Int) + off = (tgt : Int)) {F1 F2 : Option ρ} (kk : xR G Y em tgt lv st S F1) (kf : ¬ x = v → xR G Y em pc lv (.int x :: st) S F2) : xR G Y em pc lv (.int x :: st) S (if x = v then F1 else F2) := by
  by_cases hx : x = v
  · subst hx
    rw [if_pos rfl]
    exact fun r hr p e R s m args below meth c H locs ls hF hP hS hlv => lv_tableIn hF.1 hF.2.1 hd h1 h2 ho ht (kk r hr p e R s m args below meth c H locs ls hF hP hS hlv)
  · rw [if_neg hx]
    exact kf hx
theorem xR_tso (pc tgt : Nat) {dflt lo hi : Int} {offs : Array Int} {len : Nat} {x : Int32} (hd : decode (xb Y) pc = .ok (.tableswitch dflt lo hi offs, len)) (h : x.toInt < lo ∨ hi < x.toInt) (ht : (pc : Int) + dflt = (tgt : Int)) (kk : xR G Y em tgt lv st S F) : xR G Y em pc lv (.int x :: st) S F :=
  fun r hr p e R s m args below meth c H locs ls hF hP hS hlv => lv_tableOut hF.1 hF.2.1 hd h ht (kk r hr p e R s m args below meth c H locs ls hF hP hS hlv)
/-- System.arraycopy between int rows -/
def xcpy (n0 n1 : Nat) (sp dp n : Int32) {ρ : Type} (F : Option ρ) : Option ρ := if ¬ sp < 0 ∧ ¬ dp < 0 ∧ ¬ n < 0 ∧ sp.toNatClampNeg + n.toNatClampNeg ≤ n0 ∧ dp.toNatClampNeg + n.toNatClampNeg ≤ n1 then F else none
theorem xaw : Cond.native arraycopyName ∈ lw_tb ∧ Cond.static arraycopyName ∈ lw_tb ∧ Cond.initialized "java/lang/System" ∈ lw_tb := by decide +kernel
theorem xR_copy (pc : Nat) {idx : Nat} (hl : Cond.methodLink (xn Y).cls idx arraycopyName ∈ lw_tb) (k0 k1 : Nat) (hk0 : k0 < 92) (hk1 : k1 < 92) {n0 n1 : Nat} {f g : Nat → Int32} (hc0 : xC G S k0 = .inl (xI G, n0, .inl f)) (hc1 : xC G S k1 = .inl (xI G, n1, .inl g)) {sp dp n : Int32} (S' : xS) (hw : xWr G S S' k1 (.inl (xI G, n1, .inl (va_cpy f g sp.toNatClampNeg dp.toNatClampNeg n.toNatClampNeg)))) (hroom : 1 ≤ xf Y ∧ (st.map fun v => v.category).sum + 18 ≤ xo Y) (hd : decode (xb Y) pc = .ok (.invokestatic idx, 3)) (kk : xR G Y em (pc + 3) lv st S' F) : xR G Y em pc lv (.int n :: .int dp :: .ref (xa G k1) :: .int sp :: .ref (xa G k0) :: st) S (xcpy n0 n1 sp dp n F) := by
  by_cases h : ¬ sp < 0 ∧ ¬ dp < 0 ∧ ¬ n < 0 ∧ sp.toNatClampNeg + n.toNatClampNeg ≤ n0 ∧ dp.toNatClampNeg + n.toNatClampNeg ≤ n1
  · unfold xcpy
    rw [if_pos h]
    obtain ⟨h1, h2, h3, h4, h5⟩ := h
    exact fun r hr p e R s m args below meth c H locs ls hF hP hS hlv => va_copyi hF.1 hF.2.1 (hF.2.2.1.trans hlv.1.symm) hF.2.2.2.1 (hF.2.2.2.2.1 _ (xw_of hl)) (hF.2.2.2.2.1 _ (xw_of xaw.1)) (hF.2.2.2.2.1 _ (xw_of xaw.2.1)) (hF.2.2.2.2.1 _ (xw_of xaw.2.2)) hF.2.2.2.2.2.2.2.2.2.1.1 hP (xDD S hF.2.2.2.2.2.2.2.2.2.1.2.1) hS k0 k1 0 0 (by rw [xCL_at hk0, hc0]) (by rw [xCL_at hk1, hc1]) rfl rfl (ty := .int) rfl h1 h2 h3 h4 h5 (fun _ _ => rfl) (Nat.le_trans hroom.1 hF.2.2.2.2.2.2.2.1) (Nat.le_trans (by show _ + 18 ≤ _; exact hroom.2) hF.2.2.2.2.2.2.2.2.1) hd (fun H1 locs1 hP1 _ hS1 => kk r hr p e R s m args below meth c H1 locs1 ls hF (hw.P hk1 hP1) hS1 hlv)
  · unfold xcpy
    rw [if_neg h]
    exact xR_none
end XM
