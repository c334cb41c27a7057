/-! STEPS: undo, masks, cuts -/
theorem M_l58 {e : Nat} (he : 130 ≤ e) (he2 : e + 37 ≤ 426) : ∀ (f i : Nat) (m : xM), i ≤ 36 → 36 < i + f → fM_undo_l58 f (nI e) (nI i) m = some (m.1 0 2, xcb m 0 0 (8 + i) (e + 1 + i) (36 - i))
  | 0, i, m, h1, h2 => absurd h2 (by omega)
  | f + 1, i, m, h1, h2 => by
    unfold fM_undo_l58
    by_cases hi : i = 36
    · subst hi
      rw [if_pos (by decide), xk2, xl2, show 36 - 36 = 0 from rfl, xcb_0]
    · rw [if_neg (show ¬ (36 : Int32) ≤ nI i from nI_ge (b := 36) (by omega) (by decide)), show (8 : Int32) + nI i = nI (8 + i) from nI_add 8 i, nI_1, nI_add, nI_1, xck_nI (by omega) (by decide), xck_nI (by omega) (by decide), nI_clamp (by omega), nI_clamp (by omega), M_l58 he he2 f (i + 1) _ (by omega) (by omega), xset_nj (by omega)]
      have e1 : 36 - i = 36 - (i + 1) + 1 := by omega
      rw [e1, ← xcb_step (m := m) (by omega)]
      rfl
theorem H_g11 {r b : Nat} (hr : r < 8) (hb : b < 6) (k2 : Int32 → Int32 → xM → Option xM) : ∀ (f c : Nat) (m : xM), c ≤ 6 → 6 < c + f → fB_goBackTo_l11 0 1 k2 f (nI r) (nI b) (nI c) m = k2 (nI r) (nI (b + 1)) (xcb m 0 1 (6 * b + c) (r * 37 + 6 * b + c) (6 - c))
  | 0, c, m, h1, h2 => absurd h2 (by omega)
  | f + 1, c, m, h1, h2 => by
    unfold fB_goBackTo_l11
    by_cases hc : c = 6
    · subst hc
      rw [if_pos (by decide), show 6 - 6 = 0 from rfl, xcb_0, nI_1]
    · rw [if_neg (show ¬ (6 : Int32) ≤ nI c from nI_ge (b := 6) (by omega) (by decide)), show (6 : Int32) * nI b + nI c = nI (6 * b + c) by rw [show (6 : Int32) = nI 6 from rfl, nI_mul, nI_add], T_get (t := 1) (r := r) (c := 6 * b + c) (by decide) rfl rfl (by show _ < 37; omega) (by show _ < 8; omega), bnd, B_put (β := 0) (b := b) (c := c) (by decide) rfl rfl (by omega) hb, bnd, nI_1, H_g11 hr hb k2 f (c + 1) _ (by omega) (by omega)]
      have e1 : 6 - c = 6 - (c + 1) + 1 := by omega
      have e2 : r * wN 1 + (6 * b + c) = r * 37 + 6 * b + c := by show r * 37 + (6 * b + c) = _; omega
      rw [e1, e2, Nat.mul_comm b 6, ← xcb_step (m := m) (Or.inl (by decide))]
      rfl
theorem H_g2 {r : Nat} (hr : r < 8) : ∀ (f b : Nat) (m : xM), b ≤ 6 → 6 < b + f → fB_goBackTo_l2 0 1 f (nI r) (nI b) m = some (xset (xcb m 0 1 (6 * b) (r * 37 + 6 * b) (36 - 6 * b)) 37 0 (m.1 1 (r * 37 + 36)))
  | 0, b, m, h1, h2 => absurd h2 (by omega)
  | f + 1, b, m, h1, h2 => by
    unfold fB_goBackTo_l2
    by_cases hb : b = 6
    · subst hb
      rw [if_pos (by decide), T_get (t := 1) (r := r) (c := 36) (v2 := 36) (by decide) rfl rfl (by decide) (by show _ < 8; omega), bnd, show 36 - 6 * 6 = 0 from rfl, xcb_0]
      rfl
    · rw [if_neg (show ¬ (6 : Int32) ≤ nI b from nI_ge (b := 6) (by omega) (by decide)), show (0 : Int32) = nI 0 from rfl, H_g11 hr (by omega) _ xfu 0 m (by omega) (by show 6 < 0 + 100000; omega), H_g2 hr f (b + 1) _ (by omega) (by omega), xcb_nb (by decide)]
      have e1 : r * 37 + 6 * (b + 1) = r * 37 + 6 * b + 6 := by omega
      have e2 : 6 * (b + 1) = 6 * b + 6 := by omega
      have e3 : 36 - 6 * b = 6 + (36 - (6 * b + 6)) := by omega
      rw [e1, e2, e3, ← xcb_xcb (m := m) (Or.inl (by decide))]
      rfl
theorem st_undo {μ ν : xM} (h : xRel μ ν) : ∃ (r : Int32) (μ2 ν2 : xM), (fH_undo  μ = some (r, μ2)) ∧ (fM_undo  ν = some (r, ν2)) ∧ xRel μ2 ν2 := by
  unfold fH_undo fM_undo
  obtain ⟨n, k, y, hh, a, q, u, B, U, W, hC, hW, hI, hH, hN, hM, hP⟩ := rel_op h
  obtain ⟨b1, b2, b3, b4, b5, b6, b7⟩ := id B
  obtain ⟨u0, u1, u2, u3, u4, u5, u6, uy⟩ := U
  obtain ⟨w0, w1, w2, w3, w4, w5, w6⟩ := W
  rw [xk129, xl129, w6]
  show ∃ r μ2 ν2, (if μ.1 36 1 = 0 then _ else _) = _ ∧ _ ∧ _
  rw [u1]
  by_cases e : u = 0
  · subst e
    rw [if_pos (show nI 0 = 0 from rfl), if_pos (show nI 0 = 0 from rfl)]
    exact ⟨-3, _, _, rfl, rfl, rel_no h⟩
  · obtain ⟨r, rfl⟩ : ∃ r, u = r + 1 := ⟨u - 1, by omega⟩
    have ne : ¬ nI (r + 1) = 0 := fun e => by
      have := (nI_eq (a := r + 1) (b := 0) (by omega) (by decide)).mp e
      omega
    rw [if_neg ne, if_neg ne, ← nI_1, Int32.add_sub_cancel]
    obtain ⟨p1, p2, p3, p4⟩ := hP r (by omega)
    obtain ⟨y', hy', ey'⟩ := p1
    have cell : ∀ b c, b < n → c < 6 → (xset (xset (xcb μ 0 1 0 (r * 37) 36) 37 0 (μ.1 1 (r * 37 + 36))) 36 1 (nI r)).1 0 (b * 6 + c) = μ.1 1 (r * 37 + (6 * b + c)) := by
      intro b c hb hc
      simp (disch := omega) only [xcb_nb, xcb_lo, xcb_hi, xcb_in, xset_ne, xset_nj, xset_eq, Nat.add_zero]
      rw [show r * 37 + (b * 6 + c - 0) = r * 37 + (6 * b + c) by omega]
    refine ⟨nI y', xset (xset (xcb μ 0 1 0 (r * 37) 36) 37 0 (μ.1 1 (r * 37 + 36))) 36 1 (nI r), xcb (xset (xset ν 0 129 (nI r)) 0 2 (ν.1 0 (130 + 37 * r))) 0 0 8 (131 + 37 * r) 36, ?_, ?_, ?_⟩
    · unfold fW_stepBack fB_goBackTo
      have s1 := H_g2 (r := r) (by omega) xfu 0 μ (by decide) (by decide)
      show (((fB_goBackTo_l2 0 1 xfu (μ.1 36 1 - 1) (nI 0) μ).bind _).bind _) = _
      rw [u1, ← nI_1, Int32.add_sub_cancel, s1]
      show some ((xset (xset (xcb μ 0 1 0 (r * 37) 36) 37 0 (μ.1 1 (r * 37 + 36))) 36 1 (xmax (μ.1 36 1 - 1) 0)).1 37 0, xset (xset (xcb μ 0 1 0 (r * 37) 36) 37 0 (μ.1 1 (r * 37 + 36))) 36 1 (xmax (μ.1 36 1 - 1) 0)) = _
      have l : xmax (nI r) 0 = nI r := if_neg (nI_pos (by omega))
      rw [u1, ← nI_1, Int32.add_sub_cancel, l]
      simp (disch := omega) only [xcb_nb, xcb_lo, xcb_hi, xcb_in, xset_ne, xset_nj, xset_eq, Nat.add_zero]
      rw [ey']
    · have e1 : (130 : Int32) + 37 * nI r = nI (130 + 37 * r) := by rw [show (37 : Int32) = nI 37 from rfl, nI_mul, show (130 : Int32) = nI 130 from rfl, nI_add]
      have s1 := M_l58 (e := 130 + 37 * r) (by omega) (by omega) xfu 0 (xset (xset ν 0 129 (nI r)) 0 2 (ν.1 0 (130 + 37 * r))) (by decide) (by decide)
      rw [xk129, xk129, xk129, xset_eq, e1, xck_nI (by omega) (by decide), nI_clamp (by omega), xk2, xl2, xset_nj (i := 129) (by omega)]
      show fM_undo_l58 xfu (nI (130 + 37 * r)) (nI 0) _ = _
      rw [s1, xset_eq, ← p2, ey', show 130 + 37 * r + 1 + 0 = 131 + 37 * r by omega]
    · refine rel_cl h (frH_set (by unfold kH; omega) (frH_set (by unfold kH; omega) (frH_cb (fun x _ _ => (by unfold kH; omega)) frH_refl))) (frM_cb (fun x _ _ => (by unfold kM; omega)) (frM_set (by unfold kM; omega) (frM_set (by unfold kM; omega) frM_refl))) (n := n) (k := k) (y := y') (hh := hh) (a := a) (q := q) (u := r) ⟨⟨b1, b2, hy', b4, b5, b6, by omega⟩, ⟨by simp (disch := omega) only [xcb_nb, xcb_lo, xcb_hi, xcb_in, xset_ne, xset_nj, xset_eq, Nat.add_zero]; exact u0, by simp (disch := omega) only [xcb_nb, xcb_lo, xcb_hi, xcb_in, xset_ne, xset_nj, xset_eq, Nat.add_zero], by simp (disch := omega) only [xcb_nb, xcb_lo, xcb_hi, xcb_in, xset_ne, xset_nj, xset_eq, Nat.add_zero]; exact u2, by simp (disch := omega) only [xcb_nb, xcb_lo, xcb_hi, xcb_in, xset_ne, xset_nj, xset_eq, Nat.add_zero]; exact u3, by simp (disch := omega) only [xcb_nb, xcb_lo, xcb_hi, xcb_in, xset_ne, xset_nj, xset_eq, Nat.add_zero]; exact u4, by simp (disch := omega) only [xcb_nb, xcb_lo, xcb_hi, xcb_in, xset_ne, xset_nj, xset_eq, Nat.add_zero]; exact u5, by simp (disch := omega) only [xcb_nb, xcb_lo, xcb_hi, xcb_in, xset_ne, xset_nj, xset_eq, Nat.add_zero]; exact u6, by simp (disch := omega) only [xcb_nb, xcb_lo, xcb_hi, xcb_in, xset_ne, xset_nj, xset_eq, Nat.add_zero]; exact ey'⟩, ⟨by simp (disch := omega) only [xcb_nb, xcb_lo, xcb_hi, xcb_in, xset_ne, xset_nj, xset_eq, Nat.add_zero]; exact w0, by simp (disch := omega) only [xcb_nb, xcb_lo, xcb_hi, xcb_in, xset_ne, xset_nj, xset_eq, Nat.add_zero]; exact w1, by simp (disch := omega) only [xcb_nb, xcb_lo, xcb_hi, xcb_in, xset_ne, xset_nj, xset_eq, Nat.add_zero]; exact p2.symm.trans ey', by simp (disch := omega) only [xcb_nb, xcb_lo, xcb_hi, xcb_in, xset_ne, xset_nj, xset_eq, Nat.add_zero]; exact w3, by simp (disch := omega) only [xcb_nb, xcb_lo, xcb_hi, xcb_in, xset_ne, xset_nj, xset_eq, Nat.add_zero]; exact w4, by simp (disch := omega) only [xcb_nb, xcb_lo, xcb_hi, xcb_in, xset_ne, xset_nj, xset_eq, Nat.add_zero]; exact w5, by simp (disch := omega) only [xcb_nb, xcb_lo, xcb_hi, xcb_in, xset_ne, xset_nj, xset_eq, Nat.add_zero]⟩, ⟨fun b c hb hc => ?_, vB_congr (fun b c hb hc => (cell b c hb hc).symm) p4⟩, pW_congr (fun i hi => by simp (disch := omega) only [xcb_nb, xcb_lo, xcb_hi, xcb_in, xset_ne, xset_nj, xset_eq, Nat.add_zero]) (fun i h1 h2 => by simp (disch := omega) only [xcb_nb, xcb_lo, xcb_hi, xcb_in, xset_ne, xset_nj, xset_eq, Nat.add_zero]) hW, pI_congr b2 (fun i hi => by simp (disch := omega) only [xcb_nb, xcb_lo, xcb_hi, xcb_in, xset_ne, xset_nj, xset_eq, Nat.add_zero]) (fun i h1 h2 => by simp (disch := omega) only [xcb_nb, xcb_lo, xcb_hi, xcb_in, xset_ne, xset_nj, xset_eq, Nat.add_zero]) hI, pH_congr b4 (fun i hi => by simp (disch := omega) only [xcb_nb, xcb_lo, xcb_hi, xcb_in, xset_ne, xset_nj, xset_eq, Nat.add_zero]) (fun i h1 h2 => by simp (disch := omega) only [xcb_nb, xcb_lo, xcb_hi, xcb_in, xset_ne, xset_nj, xset_eq, Nat.add_zero]) hH, pN_congr b5 (fun i hi => by simp (disch := omega) only [xcb_nb, xcb_lo, xcb_hi, xcb_in, xset_ne, xset_nj, xset_eq, Nat.add_zero]) (fun i h1 h2 => by simp (disch := omega) only [xcb_nb, xcb_lo, xcb_hi, xcb_in, xset_ne, xset_nj, xset_eq, Nat.add_zero]) hN, pM_congr b6 (fun i hi => by simp (disch := omega) only [xcb_nb, xcb_lo, xcb_hi, xcb_in, xset_ne, xset_nj, xset_eq, Nat.add_zero]) (fun i h1 h2 => by simp (disch := omega) only [xcb_nb, xcb_lo, xcb_hi, xcb_in, xset_ne, xset_nj, xset_eq, Nat.add_zero]) hM, pP_congr b1 (by omega) (fun i hi => by simp (disch := omega) only [xcb_nb, xcb_lo, xcb_hi, xcb_in, xset_ne, xset_nj, xset_eq, Nat.add_zero]) (fun i h1 h2 => by simp (disch := omega) only [xcb_nb, xcb_lo, xcb_hi, xcb_in, xset_ne, xset_nj, xset_eq, Nat.add_zero]) (fun r' hr' => hP r' (by omega))⟩
      rw [cell b c hb hc]
      simp (disch := omega) only [xcb_nb, xcb_lo, xcb_hi, xcb_in, xset_ne, xset_nj, xset_eq, Nat.add_zero]
      rw [p3 b c hb hc, show 131 + 37 * r + (8 + 6 * c + b - 8) = 131 + 37 * r + (6 * c + b) by omega]
