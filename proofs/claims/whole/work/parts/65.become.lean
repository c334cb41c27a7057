/-! STEPS: images, and the start -/
theorem xRel_start : xRel ((fun a i => if a = 36 then (if i = 2 ∨ i = 9 ∨ i = 16 ∨ i = 23 then 5 else 0) else 0, fun i => if i = 1 then 1 else 0) : xM) ((fun _ _ => 0, fun i => if i = 1 then 1 else 0) : xM) := by
  refine ⟨⟨0, 0, 0, 0, 0, 0, 0, ⟨by decide, by decide, by decide, by decide, by decide, by decide, by decide⟩, ⟨rfl, rfl, rfl, rfl, rfl, rfl, rfl, rfl⟩, ⟨rfl, rfl, rfl, rfl, rfl, rfl, rfl⟩, ⟨fun b c hb => absurd hb (Nat.not_lt_zero b), fun b hb => absurd hb (Nat.not_lt_zero b), fun i hi => absurd hi (Nat.not_lt_zero i)⟩, fun j hj => ⟨?_, 0, by decide, ?_⟩, fun i hi => absurd hi (Nat.not_lt_zero i), fun r hr => absurd hr (Nat.not_lt_zero r), fun r c hr => absurd hr (Nat.not_lt_zero r), fun r hr => absurd hr (Nat.not_lt_zero r), fun r hr => absurd hr (Nat.not_lt_zero r)⟩, Or.inl ⟨rfl, rfl⟩, Or.inl ⟨rfl, rfl⟩, ⟨0, by decide, rfl, rfl, fun j hj => absurd hj (Nat.not_lt_zero j)⟩, ⟨rfl, rfl⟩, rfl, rfl, rfl⟩
  · rfl
  · rfl
theorem xmin_self {x : Int32} : xmin x x = x := if_neg Int32.lt_irrefl
/-- a table becomes as another one of its size -/
theorem T_bec {t t1 u : Nat} {m : xM} (ht : t < 36) (h1 : t1 < 36) (el : xlen t = xlen t1) (er : rN t = rN t1) (hu : m.1 36 t1 = nI u) (hu2 : u ≤ rN t1) : ∃ m', fT_become t t1 m = some m' ∧ (∀ x, x < xlen t → m'.1 t x = m.1 t1 x) ∧ m'.1 36 t = m.1 36 t1 ∧ (∀ j x, j ≠ t → (j ≠ 36 ∨ x ≠ t) → m'.1 j x = m.1 j x) ∧ m'.2 = m.2 := by
  obtain ⟨-, e2, -, -, b2, b3, -⟩ := xw_N t ht
  have hx : xcpm m t1 t 0 0 (Int32.ofNat (xlen t1)) = xcb m t t1 0 0 (xlen t1) := xcpm_eq (s := 0) (d := 0) (n := xlen t1) (by decide) (by decide) (by omega)
  refine ⟨xset (xcb m t t1 0 0 (xlen t1)) 36 t (nI u), ?_, ?_, ?_, ?_, rfl⟩
  · unfold fT_become
    have c0 : (Int32.ofNat (xlen t1)).toNatClampNeg = xlen t1 := nI_clamp (by omega)
    rw [el, xmin_self, hx]
    unfold xcpy
    rw [if_pos ⟨by decide, by decide, nI_pos (n := xlen t1) (by omega), by rw [c0]; show 0 + xlen t1 ≤ xlen t1; omega, by rw [c0]; show 0 + xlen t1 ≤ xlen t1; omega⟩, xcb_nb (by omega), hu, e2]
    unfold xmin
    rw [if_neg (fun z => absurd (Int32.le_of_lt z) (by
      intro _
      exact absurd z (Int32.not_lt.mpr (nI_le (by omega) (by omega)))))]
  · intro x hx
    rw [xset_ne (by omega), xcb_in (by omega) (by omega), show 0 + (x - 0) = x by omega]
  · rw [xset_eq, hu]
  · intro j x h1 h2
    rcases h2 with h2 | h2
    · rw [xset_ne h2, xcb_nb h1]
    · rw [xset_nj h2, xcb_nb h1]
theorem xl7 : ∀ T, T < 4 → ∀ j, j < 7 → xlen (7 * T + j) = xlen j ∧ rN (7 * T + j) = rN j ∧ xtb T = 7 * T := by decide +kernel
/-- a town becomes as another one -/
theorem W_bec {T T1 : Nat} {m : xM} (hT : T < 4) (h1 : T1 < 4) (ne : T ≠ T1) (hu : ∀ j, j < 7 → ∃ u, u ≤ rN j ∧ m.1 36 (7 * T1 + j) = nI u) : ∃ m', fW_become T T1 m = some m' ∧ (∀ j x, j < 7 → x < xlen j → m'.1 (7 * T + j) x = m.1 (7 * T1 + j) x) ∧ (∀ j, j < 7 → m'.1 36 (7 * T + j) = m.1 36 (7 * T1 + j)) ∧ m'.1 37 T = m.1 37 T1 ∧ (∀ j x, (j < 7 * T ∨ 7 * T + 7 ≤ j) → (j ≠ 36 ∨ x < 7 * T ∨ 7 * T + 7 ≤ x) → (j ≠ 37 ∨ x ≠ T) → m'.1 j x = m.1 j x) ∧ m'.2 = m.2 := by
  have L := fun j hj => (xl7 T hT j hj).1.trans (xl7 T1 h1 j hj).1.symm
  have Rr := fun j hj => (xl7 T hT j hj).2.1.trans (xl7 T1 h1 j hj).2.1.symm
  have Ru := fun j hj => (xl7 T1 h1 j hj).2.1
  have Lj := fun j hj => (xl7 T hT j hj).1
  have tb := (xl7 T hT 0 (by decide)).2.2
  have tb1 := (xl7 T1 h1 0 (by decide)).2.2
  unfold fW_become fB_become
  rw [tb, tb1]
  obtain ⟨v0, hv0, ev0⟩ := hu 0 (by decide)
  obtain ⟨v1, hv1, ev1⟩ := hu 1 (by decide)
  obtain ⟨v2, hv2, ev2⟩ := hu 2 (by decide)
  obtain ⟨v3, hv3, ev3⟩ := hu 3 (by decide)
  obtain ⟨v4, hv4, ev4⟩ := hu 4 (by decide)
  obtain ⟨v5, hv5, ev5⟩ := hu 5 (by decide)
  obtain ⟨v6, hv6, ev6⟩ := hu 6 (by decide)
  obtain ⟨m0, s0, c0, d0, f0, l0⟩ := T_bec (t := 7 * T + 0) (t1 := 7 * T1 + 0) (m := m) (by omega) (by omega) (L 0 (by decide)) (Rr 0 (by decide)) (by exact ev0) (by rw [Ru 0 (by decide)]; exact hv0)
  obtain ⟨m1, s1, c1, d1, f1, l1⟩ := T_bec (t := 7 * T + 1) (t1 := 7 * T1 + 1) (m := (xset m0 37 T (m0.1 37 T1))) (by omega) (by omega) (L 1 (by decide)) (Rr 1 (by decide)) (by rw [xset_ne (by omega), f0 _ _ (by omega) (by omega)]; exact ev1) (by rw [Ru 1 (by decide)]; exact hv1)
  obtain ⟨m2, s2, c2, d2, f2, l2⟩ := T_bec (t := 7 * T + 2) (t1 := 7 * T1 + 2) (m := m1) (by omega) (by omega) (L 2 (by decide)) (Rr 2 (by decide)) (by rw [f1 _ _ (by omega) (by omega), xset_ne (by omega), f0 _ _ (by omega) (by omega)]; exact ev2) (by rw [Ru 2 (by decide)]; exact hv2)
  obtain ⟨m3, s3, c3, d3, f3, l3⟩ := T_bec (t := 7 * T + 3) (t1 := 7 * T1 + 3) (m := m2) (by omega) (by omega) (L 3 (by decide)) (Rr 3 (by decide)) (by rw [f2 _ _ (by omega) (by omega), f1 _ _ (by omega) (by omega), xset_ne (by omega), f0 _ _ (by omega) (by omega)]; exact ev3) (by rw [Ru 3 (by decide)]; exact hv3)
  obtain ⟨m4, s4, c4, d4, f4, l4⟩ := T_bec (t := 7 * T + 4) (t1 := 7 * T1 + 4) (m := m3) (by omega) (by omega) (L 4 (by decide)) (Rr 4 (by decide)) (by rw [f3 _ _ (by omega) (by omega), f2 _ _ (by omega) (by omega), f1 _ _ (by omega) (by omega), xset_ne (by omega), f0 _ _ (by omega) (by omega)]; exact ev4) (by rw [Ru 4 (by decide)]; exact hv4)
  obtain ⟨m5, s5, c5, d5, f5, l5⟩ := T_bec (t := 7 * T + 5) (t1 := 7 * T1 + 5) (m := m4) (by omega) (by omega) (L 5 (by decide)) (Rr 5 (by decide)) (by rw [f4 _ _ (by omega) (by omega), f3 _ _ (by omega) (by omega), f2 _ _ (by omega) (by omega), f1 _ _ (by omega) (by omega), xset_ne (by omega), f0 _ _ (by omega) (by omega)]; exact ev5) (by rw [Ru 5 (by decide)]; exact hv5)
  obtain ⟨m6, s6, c6, d6, f6, l6⟩ := T_bec (t := 7 * T + 6) (t1 := 7 * T1 + 6) (m := m5) (by omega) (by omega) (L 6 (by decide)) (Rr 6 (by decide)) (by rw [f5 _ _ (by omega) (by omega), f4 _ _ (by omega) (by omega), f3 _ _ (by omega) (by omega), f2 _ _ (by omega) (by omega), f1 _ _ (by omega) (by omega), xset_ne (by omega), f0 _ _ (by omega) (by omega)]; exact ev6) (by rw [Ru 6 (by decide)]; exact hv6)
  refine ⟨m6, ?_, ?_, ?_, ?_, ?_, ?_⟩
  · show (((fT_become (7 * T + 0) (7 * T1 + 0) m).bind _).bind _) = _
    rw [s0]
    show (((fT_become (7 * T + 1) (7 * T1 + 1) (xset m0 37 T (m0.1 37 T1))).bind _)) = _
    rw [s1, bnd]
    rw [s2, bnd]
    rw [s3, bnd]
    rw [s4, bnd]
    rw [s5, bnd]
    rw [s6, bnd]
  · intro j x hj hx
    have hx' : x < xlen (7 * T + j) := by rw [Lj j hj]; exact hx
    rcases (show j = 0 ∨ j = 1 ∨ j = 2 ∨ j = 3 ∨ j = 4 ∨ j = 5 ∨ j = 6 by omega) with rfl | rfl | rfl | rfl | rfl | rfl | rfl
    · rw [f6 _ _ (by omega) (by omega), f5 _ _ (by omega) (by omega), f4 _ _ (by omega) (by omega), f3 _ _ (by omega) (by omega), f2 _ _ (by omega) (by omega), f1 _ _ (by omega) (by omega), xset_ne (by omega), c0 x hx']
    · rw [f6 _ _ (by omega) (by omega), f5 _ _ (by omega) (by omega), f4 _ _ (by omega) (by omega), f3 _ _ (by omega) (by omega), f2 _ _ (by omega) (by omega), c1 x hx', xset_ne (by omega), f0 _ _ (by omega) (by omega)]
    · rw [f6 _ _ (by omega) (by omega), f5 _ _ (by omega) (by omega), f4 _ _ (by omega) (by omega), f3 _ _ (by omega) (by omega), c2 x hx', f1 _ _ (by omega) (by omega), xset_ne (by omega), f0 _ _ (by omega) (by omega)]
    · rw [f6 _ _ (by omega) (by omega), f5 _ _ (by omega) (by omega), f4 _ _ (by omega) (by omega), c3 x hx', f2 _ _ (by omega) (by omega), f1 _ _ (by omega) (by omega), xset_ne (by omega), f0 _ _ (by omega) (by omega)]
    · rw [f6 _ _ (by omega) (by omega), f5 _ _ (by omega) (by omega), c4 x hx', f3 _ _ (by omega) (by omega), f2 _ _ (by omega) (by omega), f1 _ _ (by omega) (by omega), xset_ne (by omega), f0 _ _ (by omega) (by omega)]
    · rw [f6 _ _ (by omega) (by omega), c5 x hx', f4 _ _ (by omega) (by omega), f3 _ _ (by omega) (by omega), f2 _ _ (by omega) (by omega), f1 _ _ (by omega) (by omega), xset_ne (by omega), f0 _ _ (by omega) (by omega)]
    · rw [c6 x hx', f5 _ _ (by omega) (by omega), f4 _ _ (by omega) (by omega), f3 _ _ (by omega) (by omega), f2 _ _ (by omega) (by omega), f1 _ _ (by omega) (by omega), xset_ne (by omega), f0 _ _ (by omega) (by omega)]
  · intro j hj
    rcases (show j = 0 ∨ j = 1 ∨ j = 2 ∨ j = 3 ∨ j = 4 ∨ j = 5 ∨ j = 6 by omega) with rfl | rfl | rfl | rfl | rfl | rfl | rfl
    · rw [f6 _ _ (by omega) (by omega), f5 _ _ (by omega) (by omega), f4 _ _ (by omega) (by omega), f3 _ _ (by omega) (by omega), f2 _ _ (by omega) (by omega), f1 _ _ (by omega) (by omega), xset_ne (by omega), d0]
    · rw [f6 _ _ (by omega) (by omega), f5 _ _ (by omega) (by omega), f4 _ _ (by omega) (by omega), f3 _ _ (by omega) (by omega), f2 _ _ (by omega) (by omega), d1, xset_ne (by omega), f0 _ _ (by omega) (by omega)]
    · rw [f6 _ _ (by omega) (by omega), f5 _ _ (by omega) (by omega), f4 _ _ (by omega) (by omega), f3 _ _ (by omega) (by omega), d2, f1 _ _ (by omega) (by omega), xset_ne (by omega), f0 _ _ (by omega) (by omega)]
    · rw [f6 _ _ (by omega) (by omega), f5 _ _ (by omega) (by omega), f4 _ _ (by omega) (by omega), d3, f2 _ _ (by omega) (by omega), f1 _ _ (by omega) (by omega), xset_ne (by omega), f0 _ _ (by omega) (by omega)]
    · rw [f6 _ _ (by omega) (by omega), f5 _ _ (by omega) (by omega), d4, f3 _ _ (by omega) (by omega), f2 _ _ (by omega) (by omega), f1 _ _ (by omega) (by omega), xset_ne (by omega), f0 _ _ (by omega) (by omega)]
    · rw [f6 _ _ (by omega) (by omega), d5, f4 _ _ (by omega) (by omega), f3 _ _ (by omega) (by omega), f2 _ _ (by omega) (by omega), f1 _ _ (by omega) (by omega), xset_ne (by omega), f0 _ _ (by omega) (by omega)]
    · rw [d6, f5 _ _ (by omega) (by omega), f4 _ _ (by omega) (by omega), f3 _ _ (by omega) (by omega), f2 _ _ (by omega) (by omega), f1 _ _ (by omega) (by omega), xset_ne (by omega), f0 _ _ (by omega) (by omega)]
  · rw [f6 _ _ (by omega) (by omega), f5 _ _ (by omega) (by omega), f4 _ _ (by omega) (by omega), f3 _ _ (by omega) (by omega), f2 _ _ (by omega) (by omega), f1 _ _ (by omega) (by omega), xset_eq, f0 _ _ (by omega) (by omega)]
  · intro j x g1 g2 g3
    have gg : (xset m0 37 T (m0.1 37 T1)).1 j x = m0.1 j x := by
      rcases g3 with g3 | g3
      · exact xset_ne g3
      · exact xset_nj g3
    rw [f6 _ _ (by omega) (by omega), f5 _ _ (by omega) (by omega), f4 _ _ (by omega) (by omega), f3 _ _ (by omega) (by omega), f2 _ _ (by omega) (by omega), f1 _ _ (by omega) (by omega), gg, f0 _ _ (by omega) (by omega)]
  · rw [l6, l5, l4, l3, l2, l1, ← l0]
    rfl
