/-! STEPS: image, from -/
theorem M_copy2 {s d : Nat} (hs : s ≤ 1326) (hd : d ≤ 1326) (hsd : s + 426 ≤ d ∨ d + 426 ≤ s) : ∀ (f i : Nat) (m : xM), i ≤ 426 → 426 < i + f → fM_copy_l2 f (nI s) (nI d) (nI i) m = some (xcb m 0 0 (d + i) (s + i) (426 - i))
  | 0, i, m, h1, h2 => absurd h2 (by omega)
  | f + 1, i, m, h1, h2 => by
    unfold fM_copy_l2
    by_cases hi : i = 426
    · subst hi
      rw [if_pos (by decide), show 426 - 426 = 0 from rfl, xcb_0]
    · rw [if_neg (show ¬ (426 : Int32) ≤ nI i from nI_ge (b := 426) (by omega) (by decide)), nI_add, nI_add, nI_1, xck_nI (by omega) (by decide), xck_nI (by omega) (by decide), nI_clamp (by omega), nI_clamp (by omega), M_copy2 hs hd hsd f (i + 1) _ (by omega) (by omega)]
      have e1 : 426 - i = 426 - (i + 1) + 1 := by omega
      rw [e1, ← xcb_step (m := m) (by omega)]
      rfl
theorem M_copy {s d : Nat} {m : xM} (hs : s ≤ 1326) (hd : d ≤ 1326) (hsd : s + 426 ≤ d ∨ d + 426 ≤ s) : fM_copy (nI s) (nI d) m = some (xcb m 0 0 d s 426) := M_copy2 hs hd hsd xfu 0 m (by decide) (by decide)
/-- the counters of a town that is there -/
theorem rTw_cnt {m ν : xM} {T r : Nat} (h : rTw m T ν r) : ∀ j, j < 7 → ∃ u, u ≤ rN j ∧ m.1 36 (7 * T + j) = nI u := by
  obtain ⟨n, k, y, hh, a, q, u, B, U, -⟩ := h
  obtain ⟨b1, b2, b3, b4, b5, b6, b7⟩ := B
  obtain ⟨u0, u1, u2, u3, u4, u5, u6, -⟩ := U
  intro j hj
  rcases (show j = 0 ∨ j = 1 ∨ j = 2 ∨ j = 3 ∨ j = 4 ∨ j = 5 ∨ j = 6 by omega) with rfl | rfl | rfl | rfl | rfl | rfl | rfl
  · exact ⟨n, b1, u0⟩
  · exact ⟨u, b7, u1⟩
  · exact ⟨5, by decide, u2⟩
  · exact ⟨k, b2, u3⟩
  · exact ⟨hh, b4, u4⟩
  · exact ⟨a, b5, u5⟩
  · exact ⟨q, b6, u6⟩
theorem image_N {μ ν : xM} (h : xRel μ ν) {x : Nat} (hx : x < 2) : ∃ μ1, fW_become (x + 1) 0 μ = some μ1 ∧ xRel (xset μ1 38 x 1) (xset (xcb ν 0 0 (426 + 426 * x) 0 426) 1 x 1) := by
  obtain ⟨μ1, e, c, d, cy, f, l⟩ := W_bec (T := x + 1) (T1 := 0) (m := μ) (by omega) (by decide) (by omega) (rTw_cnt h.1)
  refine ⟨μ1, e, ?_⟩
  obtain ⟨h1, a1, a2, ⟨L, t1, t2, t3, t4⟩, ⟨f1, f2⟩, s1, s2, s3⟩ := id h
  have im : ∀ y, y < 2 → rIm μ ν y → rIm (xset μ1 38 x 1) (xset (xcb ν 0 0 (426 + 426 * x) 0 426) 1 x 1) y := by
    intro y hy h0
    by_cases yx : y = x
    · subst yx
      refine Or.inr ⟨xset_eq, xset_eq, ?_⟩
      obtain ⟨n, k, yy, hh, a, q, u, H⟩ := h1
      refine ⟨n, k, yy, hh, a, q, u, rT_congr (fun j i hj hi => ?_) (fun j hj => ?_) ?_ (fun i hi => ?_) H⟩
      · show μ.1 (7 * 0 + j) i = (xset μ1 38 y 1).1 (7 * (y + 1) + j) i
        rw [xset_ne (by omega), c j i hj hi]
      · show μ.1 36 (7 * 0 + j) = (xset μ1 38 y 1).1 36 (7 * (y + 1) + j)
        rw [xset_ne (by decide), d j hj]
      · rw [xset_ne (by decide), cy]
      · show ν.1 0 (0 + i) = (xset (xcb ν 0 0 (426 + 426 * y) 0 426) 1 y 1).1 0 (426 + 426 * y + i)
        rw [xset_ne (by decide), xcb_in (by omega) (by omega), show 0 + (426 + 426 * y + i - (426 + 426 * y)) = 0 + i by omega]
    · unfold rIm
      rw [xset_nj yx, xset_nj yx, xcb_nb (by decide), f 38 y (by omega) (by omega) (by omega)]
      rcases h0 with h0 | ⟨g1, g3, g4⟩
      · exact Or.inl h0
      · refine Or.inr ⟨g1, g3, rTw_congr (fun j i hj => ?_) (fun j hj => ?_) ?_ (fun i hi => ?_) g4⟩
        · rw [xset_ne (by omega), f _ _ (by omega) (by omega) (by omega)]
        · rw [xset_ne (by decide), f _ _ (by omega) (by omega) (by omega)]
        · rw [xset_ne (by decide), f _ _ (by omega) (by omega) (by omega)]
        · rw [xset_ne (by decide)]
          rcases (show y < x ∨ x < y by omega) with w | w
          · rw [xcb_lo (by omega)]
          · rw [xcb_hi (by omega)]
  refine ⟨rTw_congr (fun j i hj => ?_) (fun j hj => ?_) ?_ (fun i hi => ?_) h1, im 0 (by decide) a1, im 1 (by decide) a2, ⟨L, t1, ?_, ?_, ?_⟩, ⟨?_, ?_⟩, ?_, ?_, ?_⟩
  · rw [xset_ne (by omega), f _ _ (by omega) (by omega) (by omega)]
  · rw [xset_ne (by decide), f _ _ (by omega) (by omega) (by omega)]
  · rw [xset_ne (by decide), f _ _ (by omega) (by omega) (by omega)]
  · rw [xset_ne (by decide), xcb_lo (by omega)]
  · rw [xset_ne (by decide), f _ _ (by omega) (by omega) (by omega)]
    exact t2
  · rw [xset_ne (by decide), xcb_nb (by decide)]
    exact t3
  · intro j hj
    rw [xset_ne (by decide), f _ _ (by omega) (by omega) (by omega), xset_ne (by decide), xcb_nb (by decide)]
    exact t4 j hj
  · show μ1.2 0 = ν.2 0
    rw [l]
    exact f1
  · show μ1.2 1 = ν.2 1
    rw [l]
    exact f2
  · rw [xset_nj (by omega), xset_ne (by decide), f _ _ (by omega) (by omega) (by omega), xcb_nb (by decide)]
    exact s1
  · rw [xset_nj (by omega), xset_ne (by decide), f _ _ (by omega) (by omega) (by omega), xcb_nb (by decide)]
    exact s2
  · rw [xset_nj (by omega), xset_ne (by decide), f _ _ (by omega) (by omega) (by omega), xcb_nb (by decide)]
    exact s3
theorem st_image {μ ν : xM} (h : xRel μ ν) (v1 : Int32) : ∃ (r : Int32) (μ2 ν2 : xM), (fH_image v1 μ = some (r, μ2)) ∧ (fM_image v1 ν = some (r, ν2)) ∧ xRel μ2 ν2 := by
  unfold fH_image fM_image
  rw [xwb, xib2 (y := 0) (z := 1) (a := 0) (b := 1) rfl rfl]
  by_cases c1 : 0 ≤ v1 ∧ v1 ≤ 1
  · rw [if_pos c1, if_pos c1]
    obtain ⟨x, hx, rfl⟩ := nI_of2 (M := 1) (n := 1) rfl (Int32.not_lt.mpr c1.1) c1.2
    obtain ⟨μ1, e, R⟩ := image_N h (x := x) (by omega)
    refine ⟨1, xset μ1 38 x 1, xset (xcb ν 0 0 (426 + 426 * x) 0 426) 1 x 1, ?_, ?_, R⟩
    · rcases (show x = 0 ∨ x = 1 by omega) with rfl | rfl
      · rw [if_pos (show nI 0 = 0 from rfl)]
        show (fW_become (0 + 1) 0 μ).bind _ = _
        rw [e]; rfl
      · rw [if_neg (by decide)]
        show (fW_become (1 + 1) 0 μ).bind _ = _
        rw [e]; rfl
    · have e2 : (426 : Int32) + 426 * nI x = nI (426 + 426 * x) := by rw [show (426 : Int32) = nI 426 from rfl, nI_mul, nI_add]
      rw [e2, show (0 : Int32) = nI 0 from rfl, M_copy (s := 0) (d := 426 + 426 * x) (by decide) (by omega) (by omega), bnd, xck_nI (by omega) (by decide), nI_clamp (by omega)]
      rfl
  · rw [if_neg c1, if_neg c1]
    exact ⟨-2, _, _, rfl, rfl, rel_bad h⟩
theorem from_N {μ ν : xM} (h : xRel μ ν) {x : Nat} (hx : x < 2) (g : rTw μ (x + 1) ν (426 + 426 * x)) : ∃ μ1, fW_become 0 (x + 1) μ = some μ1 ∧ xRel μ1 (xcb ν 0 0 0 (426 + 426 * x) 426) := by
  obtain ⟨μ1, e, c, d, cy, f, l⟩ := W_bec (T := 0) (T1 := x + 1) (m := μ) (by omega) (by omega) (by omega) (rTw_cnt g)
  refine ⟨μ1, e, ?_, ?_⟩
  · obtain ⟨n, k, yy, hh, a, q, u, H⟩ := g
    refine ⟨n, k, yy, hh, a, q, u, rT_congr (fun j i hj hi => ?_) (fun j hj => ?_) ?_ (fun i hi => ?_) H⟩
    · show μ.1 (7 * (x + 1) + j) i = μ1.1 (7 * 0 + j) i
      rw [c j i hj hi]
    · show μ.1 36 (7 * (x + 1) + j) = μ1.1 36 (7 * 0 + j)
      rw [d j hj]
    · rw [cy]
    · show ν.1 0 (426 + 426 * x + i) = (xcb ν 0 0 0 (426 + 426 * x) 426).1 0 (0 + i)
      rw [xcb_in (by omega) (by omega), show 426 + 426 * x + (0 + i - 0) = 426 + 426 * x + i by omega]
  · refine rRest_fr h.2 ⟨fun j i k => ?_, l⟩ ⟨fun j i k => ?_, rfl, rfl⟩
    · unfold kH at k
      exact f j i (by omega) (by omega) (by omega)
    · unfold kM at k
      rcases k with k | k | k | k | k
      · rw [xcb_hi (by omega)]
      · rw [xcb_nb (by omega)]
      · rw [xcb_nb (by omega)]
      · rw [xcb_nb (by omega)]
      · rw [xcb_nb (by omega)]
theorem st_from {μ ν : xM} (h : xRel μ ν) (v1 : Int32) : ∃ (r : Int32) (μ2 ν2 : xM), (fH_from v1 μ = some (r, μ2)) ∧ (fM_from v1 ν = some (r, ν2)) ∧ xRel μ2 ν2 := by
  unfold fH_from fM_from
  rw [xwb, xib2 (y := 0) (z := 1) (a := 0) (b := 1) rfl rfl]
  by_cases c1 : 0 ≤ v1 ∧ v1 ≤ 1
  · rw [if_pos c1, if_pos c1]
    obtain ⟨x, hx, rfl⟩ := nI_of2 (M := 1) (n := 1) rfl (Int32.not_lt.mpr c1.1) c1.2
    have im : rIm μ ν x := by
      rcases (show x = 0 ∨ x = 1 by omega) with rfl | rfl
      · exact h.2.1
      · exact h.2.2.1
    rw [xck_nI (by omega) (by decide), nI_clamp (by omega)]
    rcases im with ⟨g1, g2⟩ | ⟨g1, g2, g3⟩
    · rw [g2, xi0]
      rcases (show x = 0 ∨ x = 1 by omega) with rfl | rfl
      · rw [if_pos (show nI 0 = 0 from rfl), g1, xi0]
        exact ⟨-3, _, _, rfl, rfl, rel_no h⟩
      · rw [if_neg (show ¬ nI 1 = 0 by decide), g1, xi0]
        exact ⟨-3, _, _, rfl, rfl, rel_no h⟩
    · obtain ⟨μ1, e, R⟩ := from_N h (x := x) (by omega) g3
      have e2 : (426 : Int32) + 426 * nI x = nI (426 + 426 * x) := by rw [show (426 : Int32) = nI 426 from rfl, nI_mul, nI_add]
      refine ⟨1, μ1, xcb ν 0 0 0 (426 + 426 * x) 426, ?_, ?_, R⟩
      · unfold fH_from_b40
        rcases (show x = 0 ∨ x = 1 by omega) with rfl | rfl
        · rw [if_pos (show nI 0 = 0 from rfl), g1, xi1, if_pos (show nI 0 = 0 from rfl)]
          show (fW_become 0 (0 + 1) μ).bind _ = _
          rw [e]; rfl
        · rw [if_neg (show ¬ nI 1 = 0 by decide), g1, xi1, if_neg (show ¬ nI 1 = 0 by decide)]
          show (fW_become 0 (1 + 1) μ).bind _ = _
          rw [e]; rfl
      · rw [g2, xi1, e2]
        show (fM_copy (nI (426 + 426 * x)) (nI 0) ν).bind _ = _
        rw [M_copy (s := 426 + 426 * x) (d := 0) (by omega) (by decide) (by omega)]
        rfl
  · rw [if_neg c1, if_neg c1]
    exact ⟨-2, _, _, rfl, rfl, rel_bad h⟩
