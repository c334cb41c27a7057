/-! STEPS: what was kept, cuts, takes, dries, undo -/
theorem xcpm_eq {m : xM} {a b s d n : Nat} (h1 : s < 2 ^ 31) (h2 : d < 2 ^ 31) (h3 : n < 2 ^ 31) : xcpm m a b (nI s) (nI d) (nI n) = xcb m b a d s n := by
  unfold xcpm xcb
  rw [nI_clamp h1, nI_clamp h2, nI_clamp h3]
  refine Prod.ext ?_ rfl
  funext j x
  show (if j = b then (if d ≤ x ∧ x < d + n then m.1 a (s + (x - d)) else m.1 b x) else m.1 j x) = if j = b ∧ d ≤ x ∧ x < d + n then m.1 a (s + (x - d)) else m.1 j x
  by_cases c : j = b
  · subst c
    rw [if_pos rfl]
    by_cases c2 : d ≤ x ∧ x < d + n
    · rw [if_pos c2, if_pos ⟨rfl, c2⟩]
    · rw [if_neg c2, if_neg (fun z => c2 z.2)]
  · rw [if_neg c, if_neg (fun z => c z.1)]
/-- the oldest falls away where eight are kept -/
theorem rem_drop {μ ν : xM} (h : xRel μ ν) (u1 : μ.1 36 1 = nI 8) : xRel (xset (xcb μ 1 1 0 37 259) 36 1 (nI 7)) (xset (xcb ν 0 0 130 167 259) 0 129 (nI 7)) := by
  obtain ⟨n, k, y, hh, a, q, u, B, U, W, hC, hW, hI, hH, hN, hM, hP⟩ := rel_op h
  obtain ⟨b1, b2, b3, b4, b5, b6, b7⟩ := id B
  obtain ⟨u0, u1', u2, u3, u4, u5, u6, uy⟩ := U
  obtain ⟨w0, w1, w2, w3, w4, w5, w6⟩ := W
  have eu : u = 8 := (nI_eq (by omega) (by omega)).mp (u1'.symm.trans u1)
  subst eu
  refine rel_cl h (frH_set (by unfold kH; omega) (frH_cb (fun x _ _ => (by unfold kH; omega)) frH_refl)) (frM_set (by unfold kM; omega) (frM_cb (fun x _ _ => (by unfold kM; omega)) frM_refl)) (n := n) (k := k) (y := y) (hh := hh) (a := a) (q := q) (u := 7) ⟨⟨b1, b2, b3, b4, b5, b6, by decide⟩, ⟨by simp (disch := omega) only [xcb_nb, xcb_lo, xcb_hi, xcb_in, xset_ne, xset_nj, xset_eq, Nat.add_zero]; exact u0, by simp (disch := omega) only [xcb_nb, xcb_lo, xcb_hi, xcb_in, xset_ne, xset_nj, xset_eq, Nat.add_zero], by simp (disch := omega) only [xcb_nb, xcb_lo, xcb_hi, xcb_in, xset_ne, xset_nj, xset_eq, Nat.add_zero]; exact u2, by simp (disch := omega) only [xcb_nb, xcb_lo, xcb_hi, xcb_in, xset_ne, xset_nj, xset_eq, Nat.add_zero]; exact u3, by simp (disch := omega) only [xcb_nb, xcb_lo, xcb_hi, xcb_in, xset_ne, xset_nj, xset_eq, Nat.add_zero]; exact u4, by simp (disch := omega) only [xcb_nb, xcb_lo, xcb_hi, xcb_in, xset_ne, xset_nj, xset_eq, Nat.add_zero]; exact u5, by simp (disch := omega) only [xcb_nb, xcb_lo, xcb_hi, xcb_in, xset_ne, xset_nj, xset_eq, Nat.add_zero]; exact u6, by simp (disch := omega) only [xcb_nb, xcb_lo, xcb_hi, xcb_in, xset_ne, xset_nj, xset_eq, Nat.add_zero]; exact uy⟩, ⟨by simp (disch := omega) only [xcb_nb, xcb_lo, xcb_hi, xcb_in, xset_ne, xset_nj, xset_eq, Nat.add_zero]; exact w0, by simp (disch := omega) only [xcb_nb, xcb_lo, xcb_hi, xcb_in, xset_ne, xset_nj, xset_eq, Nat.add_zero]; exact w1, by simp (disch := omega) only [xcb_nb, xcb_lo, xcb_hi, xcb_in, xset_ne, xset_nj, xset_eq, Nat.add_zero]; exact w2, by simp (disch := omega) only [xcb_nb, xcb_lo, xcb_hi, xcb_in, xset_ne, xset_nj, xset_eq, Nat.add_zero]; exact w3, by simp (disch := omega) only [xcb_nb, xcb_lo, xcb_hi, xcb_in, xset_ne, xset_nj, xset_eq, Nat.add_zero]; exact w4, by simp (disch := omega) only [xcb_nb, xcb_lo, xcb_hi, xcb_in, xset_ne, xset_nj, xset_eq, Nat.add_zero]; exact w5, by simp (disch := omega) only [xcb_nb, xcb_lo, xcb_hi, xcb_in, xset_ne, xset_nj, xset_eq, Nat.add_zero]⟩, pC_congr b1 (fun i hi => by simp (disch := omega) only [xcb_nb, xcb_lo, xcb_hi, xcb_in, xset_ne, xset_nj, xset_eq, Nat.add_zero]) (fun i h1 h2 => by simp (disch := omega) only [xcb_nb, xcb_lo, xcb_hi, xcb_in, xset_ne, xset_nj, xset_eq, Nat.add_zero]) hC, pW_congr (fun i hi => by simp (disch := omega) only [xcb_nb, xcb_lo, xcb_hi, xcb_in, xset_ne, xset_nj, xset_eq, Nat.add_zero]) (fun i h1 h2 => by simp (disch := omega) only [xcb_nb, xcb_lo, xcb_hi, xcb_in, xset_ne, xset_nj, xset_eq, Nat.add_zero]) hW, pI_congr b2 (fun i hi => by simp (disch := omega) only [xcb_nb, xcb_lo, xcb_hi, xcb_in, xset_ne, xset_nj, xset_eq, Nat.add_zero]) (fun i h1 h2 => by simp (disch := omega) only [xcb_nb, xcb_lo, xcb_hi, xcb_in, xset_ne, xset_nj, xset_eq, Nat.add_zero]) hI, pH_congr b4 (fun i hi => by simp (disch := omega) only [xcb_nb, xcb_lo, xcb_hi, xcb_in, xset_ne, xset_nj, xset_eq, Nat.add_zero]) (fun i h1 h2 => by simp (disch := omega) only [xcb_nb, xcb_lo, xcb_hi, xcb_in, xset_ne, xset_nj, xset_eq, Nat.add_zero]) hH, pN_congr b5 (fun i hi => by simp (disch := omega) only [xcb_nb, xcb_lo, xcb_hi, xcb_in, xset_ne, xset_nj, xset_eq, Nat.add_zero]) (fun i h1 h2 => by simp (disch := omega) only [xcb_nb, xcb_lo, xcb_hi, xcb_in, xset_ne, xset_nj, xset_eq, Nat.add_zero]) hN, pM_congr b6 (fun i hi => by simp (disch := omega) only [xcb_nb, xcb_lo, xcb_hi, xcb_in, xset_ne, xset_nj, xset_eq, Nat.add_zero]) (fun i h1 h2 => by simp (disch := omega) only [xcb_nb, xcb_lo, xcb_hi, xcb_in, xset_ne, xset_nj, xset_eq, Nat.add_zero]) hM, fun r hr => ?_⟩
  obtain ⟨p1, p2, p3, p4⟩ := hP (r + 1) (by omega)
  have g1 : ∀ i, i < 37 → (xset (xcb μ 1 1 0 37 259) 36 1 (nI 7)).1 1 (r * 37 + i) = μ.1 1 ((r + 1) * 37 + i) := by
    intro i hi
    simp (disch := omega) only [xcb_nb, xcb_lo, xcb_hi, xcb_in, xset_ne, xset_nj, xset_eq, Nat.add_zero]
    rw [show 37 + (r * 37 + i - 0) = (r + 1) * 37 + i by omega]
  have g2 : ∀ i, i < 37 → (xset (xcb ν 0 0 130 167 259) 0 129 (nI 7)).1 0 (130 + 37 * r + i) = ν.1 0 (130 + 37 * (r + 1) + i) := by
    intro i hi
    simp (disch := omega) only [xcb_nb, xcb_lo, xcb_hi, xcb_in, xset_ne, xset_nj, xset_eq, Nat.add_zero]
    rw [show 167 + (130 + 37 * r + i - 130) = 130 + 37 * (r + 1) + i by omega]
  have g3 : ∀ b c, b < n → c < 6 → (xset (xcb ν 0 0 130 167 259) 0 129 (nI 7)).1 0 (131 + 37 * r + (6 * c + b)) = ν.1 0 (131 + 37 * (r + 1) + (6 * c + b)) := by
    intro b c hb hc
    have e := g2 (1 + (6 * c + b)) (by omega)
    rw [show 130 + 37 * r + (1 + (6 * c + b)) = 131 + 37 * r + (6 * c + b) by omega, show 130 + 37 * (r + 1) + (1 + (6 * c + b)) = 131 + 37 * (r + 1) + (6 * c + b) by omega] at e
    exact e
  refine ⟨?_, ?_, fun b c hb hc => ?_, vB_congr (fun b c hb hc => (g1 (6 * b + c) (by omega)).symm) p4⟩
  · rw [g1 36 (by decide)]
    exact p1
  · have e := g2 0 (by decide)
    rw [Nat.add_zero, Nat.add_zero] at e
    rw [g1 36 (by decide), e]
    exact p2
  · rw [g1 (6 * b + c) (by omega), g3 b c hb hc]
    exact p3 b c hb hc
theorem rem {μ ν : xM} (h : xRel μ ν) : ∃ μ1 ν1, fW_remember 0 μ = some μ1 ∧ fM_minds ν = some ν1 ∧ xRel μ1 ν1 ∧ (∀ j i, j ≠ 1 → (j ≠ 36 ∨ i ≠ 1) → μ1.1 j i = μ.1 j i) ∧ (∀ i, i < 129 → ν1.1 0 i = ν.1 0 i) := by
  obtain ⟨n, k, y, hh, a, q, u, B, U, W, hC, hW, hI, hH, hN, hM, hP⟩ := rel_op h
  obtain ⟨b1, b2, b3, b4, b5, b6, b7⟩ := id B
  obtain ⟨u0, u1, u2, u3, u4, u5, u6, uy⟩ := U
  obtain ⟨w0, w1, w2, w3, w4, w5, w6⟩ := W
  unfold fW_remember fM_minds
  rw [xk129, xl129, w6]
  show ∃ μ1 ν1, (if μ.1 36 1 < 8 then fW_remember_b19 0 μ else (fT_dropFirst (7 * 0 + 1) μ).bind fun r16 => fW_remember_b19 0 r16) = some μ1 ∧ _
  rw [u1]
  by_cases e : u = 8
  · subst e
    obtain ⟨μ1, ν1, c1, c2, c3, c4, c5⟩ := rem_lt (rem_drop h u1) (u := 7) (by decide) (by simp (disch := omega) only [xcb_nb, xcb_lo, xcb_hi, xcb_in, xset_ne, xset_nj, xset_eq, Nat.add_zero])
    refine ⟨μ1, ν1, ?_, ?_, c3, ?_, ?_⟩
    · rw [if_neg (by decide)]
      have s0 : fT_dropFirst (7 * 0 + 1) μ = some (xset (xcb μ 1 1 0 37 259) 36 1 (nI 7)) := by
        show (if μ.1 36 1 ≤ 0 then some μ else if (Int32.ofNat (xlen 1)) < xwid 1 then some μ else xcpy (xlen 1) (xlen 1) (xwid 1) 0 (Int32.ofNat (xlen 1) - xwid 1) (some (xset (xcpm μ 1 1 (xwid 1) 0 (Int32.ofNat (xlen 1) - xwid 1)) 36 1 ((μ.1 36 1) - 1)))) = _
        rw [u1, if_neg (by decide), if_neg (by decide)]
        unfold xcpy
        rw [if_pos (by decide), show nI 8 - 1 = nI 7 from by decide, show Int32.ofNat (xlen 1) - xwid 1 = nI 259 from by decide, show xwid 1 = nI 37 from by decide, show (0 : Int32) = nI 0 from rfl, xcpm_eq (by decide) (by decide) (by decide)]
      rw [s0, bnd]
      exact c1
    · rw [if_pos (show nI 8 = 8 from rfl)]
      show fM_minds_l15 xfu (nI 0) ν = _
      rw [M_l15 xfu 0 ν (by decide) (by decide), w6]
      exact c2
    · intro j i h1 h2
      rw [c4 j i h1 h2]
      rcases h2 with h2 | h2
      · simp (disch := omega) only [xcb_nb, xcb_lo, xcb_hi, xcb_in, xset_ne, xset_nj, xset_eq, Nat.add_zero]
      · simp (disch := omega) only [xcb_nb, xcb_lo, xcb_hi, xcb_in, xset_ne, xset_nj, xset_eq, Nat.add_zero]
    · intro i hi
      rw [c5 i hi]
      simp (disch := omega) only [xcb_nb, xcb_lo, xcb_hi, xcb_in, xset_ne, xset_nj, xset_eq, Nat.add_zero]
  · rw [if_pos (show nI u < 8 from nI_lt (b := 8) (by omega) (by decide)), if_neg (show ¬ nI u = 8 from nIne (b := 8) (by omega) (by decide))]
    exact rem_lt h (by omega) u1
/-- one cell of a board changes, in both -/
theorem rel_cell {μ ν : xM} (h : xRel μ ν) {n b c : Nat} {v : Int32} (hn6 : n ≤ 6) (u0 : μ.1 36 0 = nI n) (hb : b < n) (hc : c < 6) (hv : ∀ k, k ≤ 4 → μ.1 36 3 = nI k → vB n k (fun b c => μ.1 0 (b * 6 + c)) → vB n k (fun b' c' => (xset μ 0 (b * 6 + c) v).1 0 (b' * 6 + c'))) : xRel (xset μ 0 (b * 6 + c) v) (xset ν 0 (8 + 6 * c + b) v) := by
  obtain ⟨n', k, y, hh, a, q, u, B, U, W, hC, hW, hI, hH, hN, hM, hP⟩ := rel_op h
  obtain ⟨b1, b2, b3, b4, b5, b6, b7⟩ := id B
  obtain ⟨u0', u1, u2, u3, u4, u5, u6, uy⟩ := U
  obtain ⟨w0, w1, w2, w3, w4, w5, w6⟩ := W
  have en : n' = n := (nI_eq (by omega) (by omega)).mp (u0'.symm.trans u0)
  subst en
  refine rel_cl h (frH_set (by unfold kH; omega) frH_refl) (frM_set (by unfold kM; omega) frM_refl) (n := n') (k := k) (y := y) (hh := hh) (a := a) (q := q) (u := u) ⟨B, ⟨by simp (disch := omega) only [xset_ne, xset_nj, xset_eq, Nat.add_zero]; exact u0, by simp (disch := omega) only [xset_ne, xset_nj, xset_eq, Nat.add_zero]; exact u1, by simp (disch := omega) only [xset_ne, xset_nj, xset_eq, Nat.add_zero]; exact u2, by simp (disch := omega) only [xset_ne, xset_nj, xset_eq, Nat.add_zero]; exact u3, by simp (disch := omega) only [xset_ne, xset_nj, xset_eq, Nat.add_zero]; exact u4, by simp (disch := omega) only [xset_ne, xset_nj, xset_eq, Nat.add_zero]; exact u5, by simp (disch := omega) only [xset_ne, xset_nj, xset_eq, Nat.add_zero]; exact u6, by simp (disch := omega) only [xset_ne, xset_nj, xset_eq, Nat.add_zero]; exact uy⟩, ⟨by simp (disch := omega) only [xset_ne, xset_nj, xset_eq, Nat.add_zero]; exact w0, by simp (disch := omega) only [xset_ne, xset_nj, xset_eq, Nat.add_zero]; exact w1, by simp (disch := omega) only [xset_ne, xset_nj, xset_eq, Nat.add_zero]; exact w2, by simp (disch := omega) only [xset_ne, xset_nj, xset_eq, Nat.add_zero]; exact w3, by simp (disch := omega) only [xset_ne, xset_nj, xset_eq, Nat.add_zero]; exact w4, by simp (disch := omega) only [xset_ne, xset_nj, xset_eq, Nat.add_zero]; exact w5, by simp (disch := omega) only [xset_ne, xset_nj, xset_eq, Nat.add_zero]; exact w6⟩, ⟨fun b' c' hb' hc' => ?_, hv k b2 u3 hC.2⟩, pW_congr (fun i hi => by simp (disch := omega) only [xset_ne, xset_nj, xset_eq, Nat.add_zero]) (fun i h1 h2 => by simp (disch := omega) only [xset_ne, xset_nj, xset_eq, Nat.add_zero]) hW, pI_congr b2 (fun i hi => by simp (disch := omega) only [xset_ne, xset_nj, xset_eq, Nat.add_zero]) (fun i h1 h2 => by simp (disch := omega) only [xset_ne, xset_nj, xset_eq, Nat.add_zero]) hI, pH_congr b4 (fun i hi => by simp (disch := omega) only [xset_ne, xset_nj, xset_eq, Nat.add_zero]) (fun i h1 h2 => by simp (disch := omega) only [xset_ne, xset_nj, xset_eq, Nat.add_zero]) hH, pN_congr b5 (fun i hi => by simp (disch := omega) only [xset_ne, xset_nj, xset_eq, Nat.add_zero]) (fun i h1 h2 => by simp (disch := omega) only [xset_ne, xset_nj, xset_eq, Nat.add_zero]) hN, pM_congr b6 (fun i hi => by simp (disch := omega) only [xset_ne, xset_nj, xset_eq, Nat.add_zero]) (fun i h1 h2 => by simp (disch := omega) only [xset_ne, xset_nj, xset_eq, Nat.add_zero]) hM, pP_congr b1 b7 (fun i hi => by simp (disch := omega) only [xset_ne, xset_nj, xset_eq, Nat.add_zero]) (fun i h1 h2 => by simp (disch := omega) only [xset_ne, xset_nj, xset_eq, Nat.add_zero]) hP⟩
  by_cases e : b' = b ∧ c' = c
  · obtain ⟨rfl, rfl⟩ := e
    simp (disch := omega) only [xset_ne, xset_nj, xset_eq, Nat.add_zero]
  · rw [xset_nj (by omega), xset_nj (by omega)]
    exact hC.1 b' c' hb' hc'
theorem cntB_mono {n : Nat} {f g : Nat → Bool} (h : ∀ b, b < n → f b = true → g b = true) : cntB n f ≤ cntB n g := by
  induction n with
  | zero => exact Nat.le_refl _
  | succ n ih =>
    show cntB n f + (if f n = true then 1 else 0) ≤ cntB n g + (if g n = true then 1 else 0)
    have h1 := ih (fun b hb => h b (by omega))
    have h2 := h n (by omega)
    by_cases c : f n = true
    · rw [if_pos c, if_pos (h2 c)]
      omega
    · rw [if_neg c]
      omega
/-- a board leaves its instrument -/
theorem vB_free {n k B0 : Nat} {C C' : Nat → Nat → Int32} (hk : k < 2 ^ 31) (h : vB n k C) (e : ∀ b c, b < n → c < 6 → ¬ (b = B0 ∧ c = 5) → C' b c = C b c) (hv : C' B0 5 = -1) : vB n k C' := by
  refine ⟨fun b hb => ?_, fun i hi => ?_⟩
  · obtain ⟨h0, h1, h2, h3, h4, h5⟩ := h.1 b hb
    rw [e b 0 hb (by decide) (by omega), e b 1 hb (by decide) (by omega), e b 2 hb (by decide) (by omega), e b 3 hb (by decide) (by omega), e b 4 hb (by decide) (by omega)]
    refine ⟨h0, h1, h2, h3, h4, ?_⟩
    by_cases z : b = B0
    · subst z
      exact Or.inl hv
    · rw [e b 5 hb (by decide) (by omega)]
      exact h5
  · refine Nat.le_trans (cntB_mono (fun b hb => ?_)) (h.2 i hi)
    intro z
    by_cases zb : b = B0
    · subst zb
      exact absurd (hv.symm.trans (eq_of_beq z)) (nI_m1 (by omega))
    · rw [← e b 5 hb (by decide) (by omega)]
      exact z
theorem damp_less : ∀ {d x : Nat}, d ≤ 9 → x ≤ 9 → xmax (nI d - nI x) 0 = nI (d - x) := by
  intro d x hd hx
  have key : ∀ d, d < 10 → ∀ x, x < 10 → xmax (nI d - nI x) 0 = nI (d - x) := by decide
  exact key d (by omega) x (by omega)
theorem damp_lessM : ∀ {d x : Nat}, d ≤ 9 → x ≤ 9 → fM_less (nI d) (nI x) = some (nI (d - x)) := by
  intro d x hd hx
  have key : ∀ d, d < 10 → ∀ x, x < 10 → fM_less (nI d) (nI x) = some (nI (d - x)) := by decide
  exact key d (by omega) x (by omega)
theorem xmsk {ρ : Type} {m : xM} {b : Nat} {A B : Option ρ} (hb : b < 6) : ((fB_isFree 0 m (nI b)).bind fun r => if r = 0 then A else B) = if m.1 0 (b * 6 + 5) = -1 then B else A := by
  unfold fB_isFree
  rw [B_get (β := 0) (b := b) (c := 5) (v2 := 5) (by decide) rfl rfl (by decide) hb, bnd, xnb_1, xnb_0]
  show (if m.1 0 (b * 6 + 5) = -1 then some 1 else some 0).bind _ = _
  by_cases e : m.1 0 (b * 6 + 5) = -1
  · rw [if_pos e, if_pos e, bnd, xi1]
  · rw [if_neg e, if_neg e, bnd, xi0]
theorem st_takes {μ ν : xM} (h : xRel μ ν) (v1 : Int32) : ∃ (r : Int32) (μ2 ν2 : xM), (fH_takes v1 μ = some (r, μ2)) ∧ (fM_takes v1 ν = some (r, ν2)) ∧ xRel μ2 ν2 := by
  unfold fH_takes fM_takes
  obtain ⟨n, k, y, hh, a, q, u, B, U, W, hC, hW, hI, hH, hN, hM, hP⟩ := rel_op h
  obtain ⟨b1, b2, b3, b4, b5, b6, b7⟩ := id B
  obtain ⟨u0, u1, u2, u3, u4, u5, u6, uy⟩ := U
  obtain ⟨w0, w1, w2, w3, w4, w5, w6⟩ := W
  rcases xbd b1 u0 w0 v1 with ⟨b, hb, rfl, e1, e2⟩ | ⟨e1, e2⟩
  · have e : (38 : Int32) + nI b = nI (38 + b) := nI_add 38 b
    rw [e1, e2, bnd, bnd, xi1, xi1, xmsk (by omega), e, xck_nI (by omega) (by decide), nI_clamp (by omega), ← show μ.1 0 (b * 6 + 5) = ν.1 0 (38 + b) from hC.1 b 5 hb (by decide)]
    by_cases c2 : μ.1 0 (b * 6 + 5) = -1
    · rw [if_pos c2, if_pos c2]
      exact ⟨-3, _, _, rfl, rfl, rel_no h⟩
    · rw [if_neg c2, if_neg c2]
      obtain ⟨μ1, ν1, r1, r2, r3, r4, r5⟩ := rem h
      have k1 : ∀ c, c < 6 → μ1.1 0 (b * 6 + c) = μ.1 0 (b * 6 + c) := fun c hc => r4 0 _ (by decide) (Or.inl (by decide))
      refine ⟨μ.1 0 (b * 6 + 5), xset μ1 0 (b * 6 + 5) (-1), xset ν1 0 (38 + b) (-1), ?_, ?_, ?_⟩
      · rw [r1, bnd]
        unfold fB_cell fB_set
        rw [B_get (β := 0) (b := b) (c := 5) (v2 := 5) (by decide) rfl rfl (by decide) (by omega), B_put (β := 0) (b := b) (c := 5) (v2 := 5) (by decide) rfl rfl (by decide) (by omega)]
        rw [← k1 5 (by decide)]
        rfl
      · rw [r2, bnd, xck_nI (by omega) (by decide)]
      · refine rel_cell r3 b1 ((r4 36 0 (by decide) (Or.inr (by decide))).trans u0) hb (by decide) (fun k' hk' e' hv => ?_)
        exact vB_free (by omega) hv (fun b' c hb' hc e => by rw [xset_nj (by omega)]) xset_eq
  · rw [e1, e2, bnd, bnd, xi0, xi0]
    exact ⟨-2, _, _, rfl, rfl, rel_bad h⟩
theorem st_dries {μ ν : xM} (h : xRel μ ν) (v1 : Int32) (v2 : Int32) : ∃ (r : Int32) (μ2 ν2 : xM), (fH_dries v1 v2 μ = some (r, μ2)) ∧ (fM_dries v1 v2 ν = some (r, ν2)) ∧ xRel μ2 ν2 := by
  unfold fH_dries fM_dries
  obtain ⟨n, k, y, hh, a, q, u, B, U, W, hC, hW, hI, hH, hN, hM, hP⟩ := rel_op h
  obtain ⟨b1, b2, b3, b4, b5, b6, b7⟩ := id B
  obtain ⟨u0, u1, u2, u3, u4, u5, u6, uy⟩ := U
  obtain ⟨w0, w1, w2, w3, w4, w5, w6⟩ := W
  rcases xbd b1 u0 w0 v1 with ⟨b, hb, rfl, e1, e2⟩ | ⟨e1, e2⟩
  · have e : (20 : Int32) + nI b = nI (20 + b) := nI_add 20 b
    rw [e1, e2, bnd, bnd, xi1, xi1, xwb, xib2 (y := 1) (z := 9) (a := 1) (b := 9) rfl rfl]
    by_cases c1 : 1 ≤ v2 ∧ v2 ≤ 9
    · rw [if_pos c1, if_pos c1, e, xck_nI (by omega) (by decide), nI_clamp (by omega), ← show μ.1 0 (b * 6 + 2) = ν.1 0 (20 + b) from hC.1 b 2 hb (by decide)]
      have gc : ∀ m : xM, fB_cell 0 m (nI b) 2 = some (m.1 0 (b * 6 + 2)) := fun m => by
        unfold fB_cell
        rw [B_get (β := 0) (b := b) (c := 2) (v2 := 2) (by decide) rfl rfl (by decide) (by omega)]
        rfl
      rw [gc, bnd]
      by_cases c2 : μ.1 0 (b * 6 + 2) = 0
      · rw [if_pos c2, if_pos c2]
        exact ⟨-3, _, _, rfl, rfl, rel_no h⟩
      · rw [if_neg c2, if_neg c2]
        obtain ⟨μ1, ν1, r1, r2, r3, r4, r5⟩ := rem h
        obtain ⟨x, hx, ex⟩ := nI_of2 (M := 9) (n := 9) rfl (Int32.not_lt.mpr (Int32.le_trans (by decide) c1.1)) c1.2
        obtain ⟨-, -, ⟨d, hd, ed⟩, -, -, -⟩ := hC.2.1 b hb
        have k1 : μ1.1 0 (b * 6 + 2) = nI d := (r4 0 _ (by decide) (Or.inl (by decide))).trans ed
        have k2 : ν1.1 0 (20 + b) = nI d := (r5 _ (by omega)).trans ((hC.1 b 2 hb (by decide)).symm.trans ed)
        have l1 : xmax (nI d - v2) 0 = nI (d - x) := by
          rw [ex]
          exact damp_less hd hx
        have l2 : fM_less (nI d) v2 = some (nI (d - x)) := by
          rw [ex]
          exact damp_lessM hd hx
        refine ⟨nI (d - x), xset μ1 0 (b * 6 + 2) (nI (d - x)), xset ν1 0 (20 + b) (nI (d - x)), ?_, ?_, ?_⟩
        · rw [r1, bnd]
          unfold fB_lessDamp
          rw [B_get (β := 0) (b := b) (c := 2) (v2 := 2) (by decide) rfl rfl (by decide) (by omega), bnd, B_put (β := 0) (b := b) (c := 2) (v2 := 2) (by decide) rfl rfl (by decide) (by omega)]
          show (fB_cell 0 (xset μ1 0 (b * 6 + 2) (xmax (μ1.1 0 (b * 6 + 2) - v2) 0)) (nI b) 2).bind _ = _
          rw [gc, k1, l1, xset_eq]
          show some (nI (d - x), xset μ1 0 (b * 6 + 2) (xmax (μ1.1 0 (b * 6 + 2) - v2) 0)) = _
          rw [k1, l1]
        · rw [r2, bnd, xck_nI (by omega) (by decide), k2, l2, bnd, xck_nI (by omega) (by decide), xck_nI (by omega) (by decide), xset_eq]
        · refine rel_cell r3 b1 ((r4 36 0 (by decide) (Or.inr (by decide))).trans u0) hb (by decide) (fun k' hk' e' hv => ?_)
          exact vB_cell (B0 := b) (c0 := 2) hv (fun b' c hb' hc e => by rw [xset_nj (by omega)]) (by decide) (fun _ => ⟨fun z => absurd z (by decide), fun z => absurd z (by decide), fun _ => ⟨d - x, by omega, xset_eq⟩, fun z => absurd z (by decide), fun z => absurd z (by decide)⟩)
    · rw [if_neg c1, if_neg c1]
      exact ⟨-2, _, _, rfl, rfl, rel_bad h⟩
  · rw [e1, e2, bnd, bnd, xi0, xi0]
    exact ⟨-2, _, _, rfl, rfl, rel_bad h⟩
