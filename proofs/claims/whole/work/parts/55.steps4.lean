/-! STEPS: a board comes -/
theorem st_board {μ ν : xM} (h : xRel μ ν) (v1 : Int32) (v2 : Int32) (v3 : Int32) (v4 : Int32) : ∃ (r : Int32) (μ2 ν2 : xM), (fH_board v1 v2 v3 v4 μ = some (r, μ2)) ∧ (fM_board v1 v2 v3 v4 ν = some (r, ν2)) ∧ xRel μ2 ν2 := by
  unfold fH_board fM_board
  rw [xkdb, xib2 (y := 0) (z := 5) (a := 0) (b := 5) rfl rfl]
  by_cases c1 : 0 ≤ v1 ∧ v1 ≤ 5
  · rw [if_pos c1, if_pos c1, xwb, xib2 (y := 0) (z := 99) (a := 0) (b := 99) rfl rfl]
    by_cases c2 : 0 ≤ v2 ∧ v2 ≤ 99
    · rw [if_pos c2, if_pos c2, xwb, xib2 (y := 0) (z := 9) (a := 0) (b := 9) rfl rfl]
      by_cases c3 : 0 ≤ v3 ∧ v3 ≤ 9
      · rw [if_pos c3, if_pos c3, xwb, xib2 (y := 0) (z := 3) (a := 0) (b := 3) rfl rfl]
        by_cases c4 : 0 ≤ v4 ∧ v4 ≤ 3
        · rw [if_pos c4, if_pos c4]
          obtain ⟨n, k, y, hh, a, q, u, B, U, W, hC, hW, hI, hH, hN, hM, hP⟩ := rel_op h
          obtain ⟨b1, b2, b3, b4, b5, b6, b7⟩ := id B
          obtain ⟨u0, u1, u2, u3, u4, u5, u6, uy⟩ := U
          obtain ⟨w0, w1, w2, w3, w4, w5, w6⟩ := W
          obtain ⟨x1, hx1, ex1⟩ := nI_of2 (M := 5) (n := 5) rfl (Int32.not_lt.mpr c1.1) c1.2
          obtain ⟨x2, hx2, ex2⟩ := nI_of2 (M := 99) (n := 99) rfl (Int32.not_lt.mpr c2.1) c2.2
          obtain ⟨x3, hx3, ex3⟩ := nI_of2 (M := 9) (n := 9) rfl (Int32.not_lt.mpr c3.1) c3.2
          obtain ⟨x4, hx4, ex4⟩ := nI_of2 (M := 3) (n := 3) rfl (Int32.not_lt.mpr c4.1) c4.2
          show ∃ r μ2 ν2, (if μ.1 36 0 < 6 then _ else _) = _ ∧ _ ∧ _
          rw [u0]
          by_cases hk : n = 6
          · subst hk
            rw [if_neg (by decide)]
            refine ⟨-4, _, _, rfl, ?_, rel_full h⟩
            simp (disch := omega) only [Nat.add_zero, xk0, xk1, xk2, xk48, xk61, xk92, xk129, xl0, xl1, xl2, xl48, xl61, xl92, xl129, xck_nI, nI_clamp, nI_1, xset_ne, xset_nj, xset_eq, bnd, w0]
            rfl
          · have hn6 : n < 6 := by omega
            rw [if_pos (show nI n < 6 from nI_lt hn6 (by decide))]
            have s0 : fT_newRow (xtb 0) (xset μ 36 1 0) = some (nI n, xset (xset μ 36 1 0) 36 0 (nI (n + 1))) := T_newRow (t := 0) (by decide) (by simp (disch := omega) only [xset_ne, xset_nj, xset_eq, Nat.add_zero]; exact u0) hn6
            have sp : ∀ (c : Nat) (v2 v : Int32) m, v2 = nI c → c < 6 → fT_put (xtb 0) (nI n) v2 v m = some (xset m 0 (n * 6 + c) v) := fun c v2 v m e hc => B_put (β := 0) (b := n) (c := c) (by decide) rfl e hc hn6
            refine ⟨nI n, xset (xset (xset (xset (xset (xset (xset (xset μ 36 1 0) 36 0 (nI (n + 1))) 0 (n * 6 + 0) v1) 0 (n * 6 + 1) v2) 0 (n * 6 + 2) v3) 0 (n * 6 + 3) v4) 0 (n * 6 + 4) 0) 0 (n * 6 + 5) (-1), xset (xset (xset (xset (xset (xset (xset (xset (ν) 0 (8 + n) v1) 0 (14 + n) v2) 0 (20 + n) v3) 0 (26 + n) v4) 0 (32 + n) 0) 0 (38 + n) (-1)) 0 0 (nI (n + 1))) 0 129 0, ?_, ?_, ?_⟩
            · show ((fB_bring 0 v1 v2 v3 v4 (xset μ 36 1 0)).bind _) = _
              unfold fB_bring
              rw [s0, bnd, sp 0 0 v1 _ rfl (by decide), bnd, sp 1 1 v2 _ rfl (by decide), bnd, sp 2 2 v3 _ rfl (by decide), bnd, sp 3 3 v4 _ rfl (by decide), bnd, sp 4 4 0 _ rfl (by decide), bnd, sp 5 5 (-1) _ rfl (by decide)]
              rfl
            · have e0 : (0 : Int32) + 0 = 0 := rfl
              have e8 : (0 : Int32) + 8 + nI n = nI (8 + n) := nI_add 8 n
              have e14 : (0 : Int32) + 14 + nI n = nI (14 + n) := nI_add 14 n
              have e20 : (0 : Int32) + 20 + nI n = nI (20 + n) := nI_add 20 n
              have e26 : (0 : Int32) + 26 + nI n = nI (26 + n) := nI_add 26 n
              have e32 : (0 : Int32) + 32 + nI n = nI (32 + n) := nI_add 32 n
              have e38 : (0 : Int32) + 38 + nI n = nI (38 + n) := nI_add 38 n
              have ne : ¬ nI n = 6 := nIne (b := 6) hn6 (by decide)
              unfold fM_adds
              simp (disch := omega) only [Nat.add_zero, e0, xk0, xk1, xk2, xk48, xk61, xk92, xk129, xl0, xl1, xl2, xl48, xl61, xl92, xl129, xck_nI, nI_clamp, nI_1, xset_ne, xset_nj, xset_eq, bnd, w0, e8, e14, e20, e26, e32, e38]
              rw [if_neg ne, ← nI_1, Int32.add_sub_cancel]
            · exact rel_cl h (frH_set (by unfold kH; omega) (frH_set (by unfold kH; omega) (frH_set (by unfold kH; omega) (frH_set (by unfold kH; omega) (frH_set (by unfold kH; omega) (frH_set (by unfold kH; omega) (frH_set (by unfold kH; omega) (frH_set (by unfold kH; omega) frH_refl)))))))) (frM_set (by unfold kM; omega) (frM_set (by unfold kM; omega) (frM_set (by unfold kM; omega) (frM_set (by unfold kM; omega) (frM_set (by unfold kM; omega) (frM_set (by unfold kM; omega) (frM_set (by unfold kM; omega) (frM_set (by unfold kM; omega) frM_refl)))))))) (n := n + 1) (k := k) (y := y) (hh := hh) (a := a) (q := q) (u := 0) ⟨⟨by omega, b2, b3, b4, b5, b6, by decide⟩, ⟨by simp (disch := omega) only [xset_ne, xset_nj, xset_eq, Nat.add_zero], by simp (disch := omega) only [xset_ne, xset_nj, xset_eq, Nat.add_zero]; rfl, by simp (disch := omega) only [xset_ne, xset_nj, xset_eq, Nat.add_zero]; exact u2, by simp (disch := omega) only [xset_ne, xset_nj, xset_eq, Nat.add_zero]; exact u3, by simp (disch := omega) only [xset_ne, xset_nj, xset_eq, Nat.add_zero]; exact u4, by simp (disch := omega) only [xset_ne, xset_nj, xset_eq, Nat.add_zero]; exact u5, by simp (disch := omega) only [xset_ne, xset_nj, xset_eq, Nat.add_zero]; exact u6, by simp (disch := omega) only [xset_ne, xset_nj, xset_eq, Nat.add_zero]; exact uy⟩, ⟨by simp (disch := omega) only [xset_ne, xset_nj, xset_eq, Nat.add_zero], by simp (disch := omega) only [xset_ne, xset_nj, xset_eq, Nat.add_zero]; exact w1, by simp (disch := omega) only [xset_ne, xset_nj, xset_eq, Nat.add_zero]; exact w2, by simp (disch := omega) only [xset_ne, xset_nj, xset_eq, Nat.add_zero]; exact w3, by simp (disch := omega) only [xset_ne, xset_nj, xset_eq, Nat.add_zero]; exact w4, by simp (disch := omega) only [xset_ne, xset_nj, xset_eq, Nat.add_zero]; exact w5, by simp (disch := omega) only [xset_ne, xset_nj, xset_eq, Nat.add_zero]; rfl⟩, ⟨fun b c hb hc => by
            by_cases e : b = n
            · subst e
              rcases (show c = 0 ∨ c = 1 ∨ c = 2 ∨ c = 3 ∨ c = 4 ∨ c = 5 by omega) with rfl | rfl | rfl | rfl | rfl | rfl
              all_goals simp (disch := omega) only [xset_ne, xset_nj, xset_eq, Nat.add_zero]
            · simp (disch := omega) only [xset_ne, xset_nj, xset_eq, Nat.add_zero]; exact hC.1 b c (by omega) hc, vB_board (by omega) hC.2 (fun b c hb hc => by simp (disch := omega) only [xset_ne, xset_nj, xset_eq, Nat.add_zero]) ⟨x1, by omega, by simp (disch := omega) only [xset_ne, xset_nj, xset_eq, Nat.add_zero]; exact ex1⟩ ⟨x2, hx2, by simp (disch := omega) only [xset_ne, xset_nj, xset_eq, Nat.add_zero]; exact ex2⟩ ⟨x3, hx3, by simp (disch := omega) only [xset_ne, xset_nj, xset_eq, Nat.add_zero]; exact ex3⟩ ⟨x4, by omega, by simp (disch := omega) only [xset_ne, xset_nj, xset_eq, Nat.add_zero]; exact ex4⟩ (by simp (disch := omega) only [xset_ne, xset_nj, xset_eq, Nat.add_zero]) (by simp (disch := omega) only [xset_ne, xset_nj, xset_eq, Nat.add_zero])⟩, pW_congr (fun i hi => by simp (disch := omega) only [xset_ne, xset_nj, xset_eq, Nat.add_zero]) (fun i h1 h2 => by simp (disch := omega) only [xset_ne, xset_nj, xset_eq, Nat.add_zero]) hW, pI_congr b2 (fun i hi => by simp (disch := omega) only [xset_ne, xset_nj, xset_eq, Nat.add_zero]) (fun i h1 h2 => by simp (disch := omega) only [xset_ne, xset_nj, xset_eq, Nat.add_zero]) hI, pH_congr b4 (fun i hi => by simp (disch := omega) only [xset_ne, xset_nj, xset_eq, Nat.add_zero]) (fun i h1 h2 => by simp (disch := omega) only [xset_ne, xset_nj, xset_eq, Nat.add_zero]) hH, pN_congr b5 (fun i hi => by simp (disch := omega) only [xset_ne, xset_nj, xset_eq, Nat.add_zero]) (fun i h1 h2 => by simp (disch := omega) only [xset_ne, xset_nj, xset_eq, Nat.add_zero]) hN, pM_congr b6 (fun i hi => by simp (disch := omega) only [xset_ne, xset_nj, xset_eq, Nat.add_zero]) (fun i h1 h2 => by simp (disch := omega) only [xset_ne, xset_nj, xset_eq, Nat.add_zero]) hM, fun r hr => absurd hr (Nat.not_lt_zero r)⟩
        · rw [if_neg c4, if_neg c4]
          exact ⟨-2, _, _, rfl, rfl, rel_bad h⟩
      · rw [if_neg c3, if_neg c3]
        exact ⟨-2, _, _, rfl, rfl, rel_bad h⟩
    · rw [if_neg c2, if_neg c2]
      exact ⟨-2, _, _, rfl, rfl, rel_bad h⟩
  · rw [if_neg c1, if_neg c1]
    exact ⟨-2, _, _, rfl, rfl, rel_bad h⟩
