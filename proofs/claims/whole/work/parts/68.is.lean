/-! STEPS: is -/
theorem sound_tot (k s a d : Int32) : ∃ x, fM_soundOf k s a d = some x := by
  unfold fM_soundOf fM_stair fM_sill
  obtain ⟨x, hx⟩ : ∃ x, fM_door a d = some x := by unfold fM_door; split <;> exact ⟨_, rfl⟩
  obtain ⟨x0, hx0⟩ : ∃ x, fM_door a 0 = some x := by unfold fM_door; split <;> exact ⟨_, rfl⟩
  rw [hx, hx0]
  repeat' split
  all_goals exact ⟨_, rfl⟩
theorem M_ko16 {μ ν : xM} {a : Nat} (ha : a ≤ 6) (u5 : μ.1 36 5 = nI a) (w4 : ν.1 0 61 = nI a) (hN : pN a μ.1 (ν.1 0)) {kd : Nat} (hkd : kd < 6) {v : Int32} (k4 : Int32 → Int32 → Int32 → Option Int32) (M : Int32) : ∀ (f r : Nat), r ≤ a → a < r + f → (fM_kindsOf_l16 ν k4 f v M (nI kd) 1 (nI r) = (fW_soundsAsNoted_l2 0 μ f (nI kd) v (nI r)).bind fun z => if z = 0 then k4 v M (nI (kd + 1)) else k4 v (M ||| ((1 : Int32) <<< (nI kd &&& 31))) (nI (kd + 1))) ∧ (fM_kindsOf_l16 ν k4 f v M (nI kd) 0 (nI r) = k4 v M (nI (kd + 1))) ∧ ∃ z, fW_soundsAsNoted_l2 0 μ f (nI kd) v (nI r) = some z
  | 0, r, h1, h2 => absurd h2 (by omega)
  | f + 1, r, h1, h2 => by
    unfold fM_kindsOf_l16 fW_soundsAsNoted_l2
    show (xck 1752 61 _ = ((some (μ.1 36 5)).bind _).bind _) ∧ _ ∧ ∃ z, (some (μ.1 36 5)).bind _ = some z
    rw [xk61, xk61, xl61, w4, bnd, u5, xnb_1, xnb_0]
    by_cases hr : r = a
    · subst hr
      have c := nI_le (Nat.le_refl r) (by omega)
      simp only [if_pos c, xi1, if_true]
      unfold fM_kindsOf_b122
      refine ⟨?_, ?_, ⟨1, rfl⟩⟩
      · rw [bnd, if_neg (by decide), nI_1]
      · rw [Int32.or_zero, nI_1]
    · obtain ⟨i1, i2, i3⟩ := M_ko16 ha u5 w4 hN hkd (v := v) k4 M f (r + 1) (by omega) (by omega)
      obtain ⟨s, e1⟩ := sound_tot (nI kd) (μ.1 5 (r * 5 + 3)) (μ.1 5 (r * 5 + 1)) (μ.1 5 (r * 5 + 2))
      have eb : (62 : Int32) + 5 * nI r = nI (62 + 5 * r) := by rw [show (5 : Int32) = nI 5 from rfl, nI_mul, show (62 : Int32) = nI 62 from rfl, nI_add]
      have g : ∀ c (v2 : Int32), v2 = nI c → c < 5 → fT_get (7 * 0 + 5) μ (nI r) v2 = some (μ.1 5 (r * 5 + c)) := fun c v2 e hc => T_get (t := 5) (r := r) (c := c) (by decide) rfl e hc (by show r < 6; omega)
      have ec : ∀ c, c < 5 → ν.1 0 (62 + 5 * r + c) = μ.1 5 (r * 5 + c) := fun c hc => (hN r c (by omega) hc).symm
      have e0 : ν.1 0 (62 + 5 * r) = μ.1 5 (r * 5 + 0) := ec 0 (by decide)
      have c := nI_ge (a := r) (b := a) (by omega) (by omega)
      simp only [if_neg c, xi1, if_true]
      rw [eb, xck_nI (by omega) (by decide), nI_clamp (by omega), show nI (62 + 5 * r) + 1 = nI (62 + 5 * r + 1) from nI_add _ 1, show nI (62 + 5 * r) + 2 = nI (62 + 5 * r + 2) from nI_add _ 2, show nI (62 + 5 * r) + 3 = nI (62 + 5 * r + 3) from nI_add _ 3, show nI (62 + 5 * r) + 4 = nI (62 + 5 * r + 4) from nI_add _ 4, xck_nI (k := 62 + 5 * r + 3) (by omega) (by decide), xck_nI (k := 62 + 5 * r + 1) (by omega) (by decide), xck_nI (k := 62 + 5 * r + 2) (by omega) (by decide), nI_clamp (n := 62 + 5 * r + 3) (by omega), nI_clamp (n := 62 + 5 * r + 1) (by omega), nI_clamp (n := 62 + 5 * r + 2) (by omega), nI_clamp (n := 62 + 5 * r + 4) (by omega), e0, ec 3 (by decide), ec 1 (by decide), ec 2 (by decide), ec 4 (by decide), e1, bnd, xck_nI (k := 62 + 5 * r + 4) (by omega) (by decide), g 3 3 rfl (by decide), bnd, g 1 1 rfl (by decide), bnd, g 2 2 rfl (by decide), bnd, sound_eq, e1, bnd, g 0 0 rfl (by decide), bnd, g 4 4 rfl (by decide)]
      unfold fM_kindsOf_b100 fM_kindsOf_b96 fM_kindsOf_b101 fW_soundsAsNoted_b75
      rw [nI_1, bnd]
      by_cases c0 : μ.1 5 (r * 5 + 0) = v
      · simp only [if_pos c0]
        by_cases c1 : s = μ.1 5 (r * 5 + 4)
        · simp only [if_pos c1]
          exact ⟨i1, i2, i3⟩
        · simp only [if_neg c1]
          refine ⟨?_, i2, ⟨0, rfl⟩⟩
          rw [bnd, if_pos rfl]
          exact i2
      · simp only [if_neg c0]
        exact ⟨i1, i2, i3⟩
theorem is_both {μ ν : xM} {a : Nat} (ha : a ≤ 6) (u5 : μ.1 36 5 = nI a) (w4 : ν.1 0 61 = nI a) (hN : pN a μ.1 (ν.1 0)) {v : Int32} : ∀ (f b : Nat) (M : Nat), b ≤ 6 → 6 < b + f → M < 2 ^ b → ∃ M', M' < 64 ∧ fW_notedKinds_l4 0 μ f v (nI M) (nI b) = some (nI M') ∧ fM_kindsOf_l4 ν f v (nI M) (nI b) = some (nI M')
  | 0, b, M, h1, h2, h3 => absurd h2 (by omega)
  | f + 1, b, M, h1, h2, h3 => by
    unfold fW_notedKinds_l4 fM_kindsOf_l4
    by_cases hb : b = 6
    · subst hb
      rw [if_pos (by decide), if_pos (by decide)]
      exact ⟨M, h3, rfl, rfl⟩
    · have c := nI_ge (a := b) (b := 6) (by omega) (by omega)
      rw [if_neg (show ¬ (6 : Int32) ≤ nI b from c), if_neg (show ¬ (6 : Int32) ≤ nI b from c)]
      obtain ⟨i1, i2, z, i3⟩ := M_ko16 ha u5 w4 hN (kd := b) (by omega) (v := v) (fM_kindsOf_l4 ν f) (nI M) xfu 0 (by omega) (by show a < 0 + 100000; omega)
      have i1' : fM_kindsOf_l16 ν (fM_kindsOf_l4 ν f) xfu v (nI M) (nI b) 1 0 = _ := i1
      have i3' : fW_soundsAsNoted 0 μ (nI b) v = some z := i3
      have e2 : 2 ^ (b + 1) = 2 ^ b + 2 ^ b := by rw [Nat.pow_succ]; omega
      rw [i1', i3', i3, bnd, bnd]
      unfold fW_notedKinds_b25
      rw [nI_1]
      by_cases c : z = 0
      · rw [if_pos c, if_pos c]
        exact is_both ha u5 w4 hN f (b + 1) M (by omega) (by omega) (by omega)
      · rw [if_neg c, if_neg c, or_bit b (by omega) M h3]
        exact is_both ha u5 w4 hN f (b + 1) (M + 2 ^ b) (by omega) (by omega) (by omega)
theorem st_is {μ ν : xM} (h : xRel μ ν) (v1 : Int32) : ∃ (r : Int32) (μ2 ν2 : xM), (fH_is v1 μ = some (r, μ2)) ∧ (fM_is v1 ν = some (r, ν2)) ∧ xRel μ2 ν2 := by
  unfold fH_is fM_is
  obtain ⟨n, k, y, hh, a, q, u, B, U, W, hC, hW, hI, hH, hN, hM, hP⟩ := rel_op h
  obtain ⟨b1, b2, b3, b4, b5, b6, b7⟩ := id B
  obtain ⟨u0, u1, u2, u3, u4, u5, u6, uy⟩ := U
  obtain ⟨w0, w1, w2, w3, w4, w5, w6⟩ := W
  rcases xbd b1 u0 w0 v1 with ⟨b, hb, rfl, e1, e2⟩ | ⟨e1, e2⟩
  · rw [e1, e2, bnd, bnd, xi1, xi1]
    obtain ⟨M, hM, e3, e4⟩ := is_both b5 u5 w4 hN (v := nI b) xfu 0 0 (by decide) (by decide) (by decide)
    refine ⟨nI M, μ, ν, ?_, ?_, h⟩
    · show (fW_notedKinds_l4 0 μ xfu (nI b) (nI 0) (nI 0)).bind _ = _
      rw [e3]; rfl
    · show (fM_kindsOf_l4 ν xfu (nI b) (nI 0) (nI 0)).bind _ = _
      rw [e4]; rfl
  · rw [e1, e2, bnd, bnd, xi0, xi0]
    exact ⟨-2, _, _, rfl, rfl, rel_bad h⟩
