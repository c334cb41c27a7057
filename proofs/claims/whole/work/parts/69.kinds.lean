/-! STEPS: kinds -/
theorem M_io16 {μ ν : xM} {q : Nat} (hq : q ≤ 6) (u6 : μ.1 36 6 = nI q) (w5 : ν.1 0 92 = nI q) (hM : pM q μ.1 (ν.1 0)) {kd : Nat} (hkd : kd < 6) {v : Int32} (k4 : Int32 → Int32 → Int32 → Option Int32) (M : Int32) : ∀ (f r : Nat), r ≤ q → q < r + f → (fM_instrumentsOf_l16 ν k4 f v M (nI kd) 1 (nI r) = (fW_playsAsMarked_l2 0 μ f (nI kd) v (nI r)).bind fun z => if z = 0 then k4 v M (nI (kd + 1)) else k4 v (M ||| ((1 : Int32) <<< (nI kd &&& 31))) (nI (kd + 1))) ∧ (fM_instrumentsOf_l16 ν k4 f v M (nI kd) 0 (nI r) = k4 v M (nI (kd + 1))) ∧ ∃ z, fW_playsAsMarked_l2 0 μ f (nI kd) v (nI r) = some z
  | 0, r, h1, h2 => absurd h2 (by omega)
  | f + 1, r, h1, h2 => by
    unfold fM_instrumentsOf_l16 fW_playsAsMarked_l2
    show (xck 1752 92 _ = ((some (μ.1 36 6)).bind _).bind _) ∧ _ ∧ ∃ z, (some (μ.1 36 6)).bind _ = some z
    rw [xk92, xk92, xl92, w5, bnd, u6, xnb_1, xnb_0]
    by_cases hr : r = q
    · subst hr
      have c := nI_le (Nat.le_refl r) (by omega)
      simp only [if_pos c, xi1, if_true]
      unfold fM_instrumentsOf_b132
      refine ⟨?_, ?_, ⟨1, rfl⟩⟩
      · rw [bnd, if_neg (by decide), nI_1]
      · rw [Int32.or_zero, nI_1]
    · obtain ⟨i1, i2, i3⟩ := M_io16 hq u6 w5 hM hkd (v := v) k4 M f (r + 1) (by omega) (by omega)
      obtain ⟨m0, ⟨x1, hx1, ex1⟩, ⟨x2, hx2, ex2⟩, ⟨x3, hx3, ex3⟩, ⟨x4, hx4, ex4⟩⟩ := hM r (by omega)
      obtain ⟨p, hp, p1, p2⟩ := play_N (kd := nI kd) hx4 (X := x1) (by omega) (H := x2) (by omega) (K := x3) (by omega)
      have eb : (93 : Int32) + 6 * nI r = nI (93 + 6 * r) := by rw [show (6 : Int32) = nI 6 from rfl, nI_mul, show (93 : Int32) = nI 93 from rfl, nI_add]
      have g : ∀ c (v2 : Int32), v2 = nI c → c < 6 → fT_get (7 * 0 + 6) μ (nI r) v2 = some (μ.1 6 (r * 6 + c)) := fun c v2 e hc => T_get (t := 6) (r := r) (c := c) (by decide) rfl e hc (by show r < 6; omega)
      have ec : ∀ c, c < 6 → ν.1 0 (93 + 6 * r + c) = μ.1 6 (r * 6 + c) := fun c hc => (m0 c hc).symm
      have e0 : ν.1 0 (93 + 6 * r) = μ.1 6 (r * 6 + 0) := ec 0 (by decide)
      have c := nI_ge (a := r) (b := q) (by omega) (by omega)
      simp only [if_neg c, xi1, if_true]
      rw [eb, xck_nI (by omega) (by decide), nI_clamp (by omega), show nI (93 + 6 * r) + 1 = nI (93 + 6 * r + 1) from nI_add _ 1, show nI (93 + 6 * r) + 2 = nI (93 + 6 * r + 2) from nI_add _ 2, show nI (93 + 6 * r) + 3 = nI (93 + 6 * r + 3) from nI_add _ 3, show nI (93 + 6 * r) + 4 = nI (93 + 6 * r + 4) from nI_add _ 4, show nI (93 + 6 * r) + 5 = nI (93 + 6 * r + 5) from nI_add _ 5, xck_nI (k := 93 + 6 * r + 4) (by omega) (by decide), xck_nI (k := 93 + 6 * r + 1) (by omega) (by decide), xck_nI (k := 93 + 6 * r + 2) (by omega) (by decide), xck_nI (k := 93 + 6 * r + 3) (by omega) (by decide), nI_clamp (n := 93 + 6 * r + 3) (by omega), nI_clamp (n := 93 + 6 * r + 1) (by omega), nI_clamp (n := 93 + 6 * r + 2) (by omega), nI_clamp (n := 93 + 6 * r + 4) (by omega), nI_clamp (n := 93 + 6 * r + 5) (by omega), e0, ec 3 (by decide), ec 1 (by decide), ec 2 (by decide), ec 4 (by decide), ec 5 (by decide), ex1, ex2, ex3, ex4, p2, bnd, xck_nI (k := 93 + 6 * r + 5) (by omega) (by decide), g 4 4 rfl (by decide), bnd, g 1 1 rfl (by decide), bnd, g 2 2 rfl (by decide), bnd, g 3 3 rfl (by decide), bnd, ex1, ex2, ex3, ex4, p1, bnd, g 0 0 rfl (by decide), bnd, g 5 5 rfl (by decide)]
      unfold fM_instrumentsOf_b110 fM_instrumentsOf_b106 fM_instrumentsOf_b111 fW_playsAsMarked_b88
      rw [nI_1, bnd]
      by_cases c0 : μ.1 6 (r * 6 + 0) = v
      · simp only [if_pos c0]
        by_cases c1 : nI p = μ.1 6 (r * 6 + 5)
        · simp only [if_pos c1]
          exact ⟨i1, i2, i3⟩
        · simp only [if_neg c1]
          refine ⟨?_, i2, ⟨0, rfl⟩⟩
          rw [bnd, if_pos rfl]
          exact i2
      · simp only [if_neg c0]
        exact ⟨i1, i2, i3⟩
theorem kinds_both {μ ν : xM} {q : Nat} (hq : q ≤ 6) (u6 : μ.1 36 6 = nI q) (w5 : ν.1 0 92 = nI q) (hM : pM q μ.1 (ν.1 0)) {v : Int32} : ∀ (f b : Nat) (M : Nat), b ≤ 6 → 6 < b + f → M < 2 ^ b → ∃ M', M' < 64 ∧ fW_markedKinds_l4 0 μ f v (nI M) (nI b) = some (nI M') ∧ fM_instrumentsOf_l4 ν f v (nI M) (nI b) = some (nI M')
  | 0, b, M, h1, h2, h3 => absurd h2 (by omega)
  | f + 1, b, M, h1, h2, h3 => by
    unfold fW_markedKinds_l4 fM_instrumentsOf_l4
    by_cases hb : b = 6
    · subst hb
      rw [if_pos (by decide), if_pos (by decide)]
      exact ⟨M, h3, rfl, rfl⟩
    · have c := nI_ge (a := b) (b := 6) (by omega) (by omega)
      rw [if_neg (show ¬ (6 : Int32) ≤ nI b from c), if_neg (show ¬ (6 : Int32) ≤ nI b from c)]
      obtain ⟨i1, i2, z, i3⟩ := M_io16 hq u6 w5 hM (kd := b) (by omega) (v := v) (fM_instrumentsOf_l4 ν f) (nI M) xfu 0 (by omega) (by show q < 0 + 100000; omega)
      have i1' : fM_instrumentsOf_l16 ν (fM_instrumentsOf_l4 ν f) xfu v (nI M) (nI b) 1 0 = _ := i1
      have i3' : fW_playsAsMarked 0 μ (nI b) v = some z := i3
      have e2 : 2 ^ (b + 1) = 2 ^ b + 2 ^ b := by rw [Nat.pow_succ]; omega
      rw [i1', i3', i3, bnd, bnd]
      unfold fW_markedKinds_b25
      rw [nI_1]
      by_cases c : z = 0
      · rw [if_pos c, if_pos c]
        exact kinds_both hq u6 w5 hM f (b + 1) M (by omega) (by omega) (by omega)
      · rw [if_neg c, if_neg c, or_bit b (by omega) M h3]
        exact kinds_both hq u6 w5 hM f (b + 1) (M + 2 ^ b) (by omega) (by omega) (by omega)
theorem st_kinds {μ ν : xM} (h : xRel μ ν) (v1 : Int32) : ∃ (r : Int32) (μ2 ν2 : xM), (fH_kinds v1 μ = some (r, μ2)) ∧ (fM_kinds v1 ν = some (r, ν2)) ∧ xRel μ2 ν2 := by
  unfold fH_kinds fM_kinds
  obtain ⟨n, k, y, hh, a, q, u, B, U, W, hC, hW, hI, hH, hN, hM, hP⟩ := rel_op h
  obtain ⟨b1, b2, b3, b4, b5, b6, b7⟩ := id B
  obtain ⟨u0, u1, u2, u3, u4, u5, u6, uy⟩ := U
  obtain ⟨w0, w1, w2, w3, w4, w5, w6⟩ := W
  rcases xin (Nat.le_trans b2 (by decide)) u3 w1 v1 with ⟨i, hi, rfl, e1, e2⟩ | ⟨e1, e2⟩
  · rw [e1, e2, bnd, bnd, xi1, xi1]
    obtain ⟨M, hM', e3, e4⟩ := kinds_both b6 u6 w5 hM (v := nI i) xfu 0 0 (by decide) (by decide) (by decide)
    refine ⟨nI M, μ, ν, ?_, ?_, h⟩
    · show (fW_markedKinds_l4 0 μ xfu (nI i) (nI 0) (nI 0)).bind _ = _
      rw [e3]; rfl
    · show (fM_instrumentsOf_l4 ν xfu (nI i) (nI 0) (nI 0)).bind _ = _
      rw [e4]; rfl
  · rw [e1, e2, bnd, bnd, xi0, xi0]
    exact ⟨-2, _, _, rfl, rfl, rel_bad h⟩
