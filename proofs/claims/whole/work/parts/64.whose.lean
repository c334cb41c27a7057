/-! STEPS: whose -/
theorem M_wh19 {μ ν : xM} {n k hh : Nat} (h : bE n k 0 0 μ ν) (hhh : hh ≤ 6) (u4 : μ.1 36 4 = nI hh) (w3 : ν.1 0 48 = nI hh) (hH : pH hh μ.1 (ν.1 0)) {b : Nat} (hb : b < n) (k4 : Int32 → Int32 → Option Int32) (M : Int32) : ∀ (f r : Nat), r ≤ hh → hh < r + f → (fM_whose_l19 ν k4 f M (nI b) 1 (nI r) = (fW_soundsAsHeard_l2 0 μ f (nI b) (nI r)).bind fun z => if z = 0 then k4 M (nI (b + 1)) else k4 (M ||| ((1 : Int32) <<< (nI b &&& 31))) (nI (b + 1))) ∧ (fM_whose_l19 ν k4 f M (nI b) 0 (nI r) = k4 M (nI (b + 1))) ∧ ∃ z, fW_soundsAsHeard_l2 0 μ f (nI b) (nI r) = some z
  | 0, r, h1, h2 => absurd h2 (by omega)
  | f + 1, r, h1, h2 => by
    unfold fM_whose_l19 fW_soundsAsHeard_l2
    show (xck 1752 48 _ = ((some (μ.1 36 4)).bind _).bind _) ∧ _ ∧ ∃ z, (some (μ.1 36 4)).bind _ = some z
    rw [xk48, xk48, xl48, w3, bnd, u4, xnb_1, xnb_0]
    by_cases hr : r = hh
    · subst hr
      have c := nI_le (Nat.le_refl r) (by omega)
      simp only [if_pos c, xi1, if_true]
      unfold fM_whose_b94
      refine ⟨?_, ?_, ⟨1, rfl⟩⟩
      · rw [bnd, if_neg (by decide), nI_1]
      · rw [Int32.or_zero, nI_1]
    · obtain ⟨p1, p2, x, hx, p3⟩ := hH r (by omega)
      obtain ⟨i1, i2, i3⟩ := M_wh19 h hhh u4 w3 hH hb k4 M f (r + 1) (by omega) (by omega)
      obtain ⟨s, hs, e1, e2⟩ := snd_both h hb hx
      have eb : (49 : Int32) + 2 * nI r = nI (49 + 2 * r) := by rw [show (2 : Int32) = nI 2 from rfl, nI_mul, show (49 : Int32) = nI 49 from rfl, nI_add]
      have g0 : fT_get (7 * 0 + 4) μ (nI r) 0 = some (μ.1 4 (r * 2 + 0)) := T_get (t := 4) (r := r) (c := 0) (v2 := 0) (by decide) rfl rfl (by decide) (by show r < 6; omega)
      have g1 : fT_get (7 * 0 + 4) μ (nI r) 1 = some (μ.1 4 (r * 2 + 1)) := T_get (t := 4) (r := r) (c := 1) (v2 := 1) (by decide) rfl rfl (by decide) (by show r < 6; omega)
      rw [Nat.add_zero (r * 2)] at g0
      have e2' : fM_soundsIn ν 0 (nI b) (nI x) = some (nI s) := e2
      have c := nI_ge (a := r) (b := hh) (by omega) (by omega)
      simp only [if_neg c, xi1, if_true]
      rw [eb, xck_nI (by omega) (by decide), nI_clamp (by omega), ← p1, p3, e2', bnd, show nI (49 + 2 * r) + 1 = nI (49 + 2 * r + 1) from nI_add _ 1, xck_nI (by omega) (by decide), nI_clamp (by omega), ← p2, g0, bnd, p3, e1, bnd, g1, bnd]
      unfold fM_whose_b74 fM_whose_b75
      rw [nI_1]
      by_cases c : nI s = μ.1 4 (r * 2 + 1)
      · rw [if_pos c, if_pos c]
        exact ⟨i1, i2, i3⟩
      · rw [if_neg c, if_neg c]
        refine ⟨?_, i2, ⟨0, rfl⟩⟩
        rw [bnd, if_pos rfl]
        exact i2
theorem whose_both {μ ν : xM} {n k hh : Nat} (h : bE n k 0 0 μ ν) (hhh : hh ≤ 6) (u4 : μ.1 36 4 = nI hh) (w3 : ν.1 0 48 = nI hh) (hH : pH hh μ.1 (ν.1 0)) : ∀ (f b : Nat) (M : Nat), b ≤ n → n < b + f → M < 2 ^ b → ∃ M', M' < 2 ^ n ∧ fW_heardBoards_l4 0 μ f (nI M) (nI b) = some (nI M') ∧ fM_whose_l4 ν f (nI M) (nI b) = some (nI M')
  | 0, b, M, h1, h2, h3 => absurd h2 (by omega)
  | f + 1, b, M, h1, h2, h3 => by
    obtain ⟨hβ, hR, hn, hk, u0, w0, hE, hV⟩ := id h
    unfold fW_heardBoards_l4 fM_whose_l4
    have gm : fB_many 0 μ = some (nI n) := by
      unfold fB_many
      rw [B_many, bnd, u0]
    rw [gm, bnd, xk0, xl0, w0]
    by_cases hb : b = n
    · subst hb
      rw [if_pos (nI_le (Nat.le_refl _) (by omega)), if_pos (nI_le (Nat.le_refl _) (by omega))]
      exact ⟨M, h3, rfl, rfl⟩
    · rw [if_neg (nI_ge (by omega) (by omega)), if_neg (nI_ge (by omega) (by omega))]
      obtain ⟨i1, i2, z, i3⟩ := M_wh19 h hhh u4 w3 hH (b := b) (by omega) (fM_whose_l4 ν f) (nI M) xfu 0 (by omega) (by show hh < 0 + 100000; omega)
      have i1' : fM_whose_l19 ν (fM_whose_l4 ν f) xfu (nI M) (nI b) 1 0 = _ := i1
      have i3' : fW_soundsAsHeard 0 μ (nI b) = some z := i3
      have e2 : 2 ^ (b + 1) = 2 ^ b + 2 ^ b := by rw [Nat.pow_succ]; omega
      rw [i1', i3', i3, bnd, bnd]
      unfold fW_heardBoards_b29
      rw [nI_1]
      by_cases c : z = 0
      · rw [if_pos c, if_pos c]
        exact whose_both h hhh u4 w3 hH f (b + 1) M (by omega) (by omega) (by omega)
      · rw [if_neg c, if_neg c, or_bit b (by omega) M h3]
        exact whose_both h hhh u4 w3 hH f (b + 1) (M + 2 ^ b) (by omega) (by omega) (by omega)
theorem st_whose {μ ν : xM} (h : xRel μ ν) : ∃ (r : Int32) (μ2 ν2 : xM), (fH_whose μ = some r ∧ μ2 = μ) ∧ (fM_whose ν = some r ∧ ν2 = ν) ∧ xRel μ2 ν2 := by
  obtain ⟨n, k, y, hh, a, q, u, B, U, W, hC, hW, hI, hH, hN, hM, hP⟩ := rel_op h
  obtain ⟨b1, b2, b3, b4, b5, b6, b7⟩ := id B
  obtain ⟨u0, u1, u2, u3, u4, u5, u6, uy⟩ := U
  obtain ⟨w0, w1, w2, w3, w4, w5, w6⟩ := W
  obtain ⟨M, hM, e1, e2⟩ := whose_both (bE_0 b1 b2 u0 w0 hC) b4 u4 w3 hH xfu 0 0 (by omega) (by show n < 0 + 100000; omega) (by decide)
  refine ⟨nI M, μ, ν, ⟨?_, rfl⟩, ⟨e2, rfl⟩, h⟩
  show (fW_heardBoards_l4 0 μ xfu (nI 0) (nI 0)).bind _ = _
  rw [e1]
  rfl
