/-! STEPS: count -/
def sI : Nat → (Nat → Int32) → Int32
  | 0, _ => 0
  | n + 1, g => sI n g + g n
theorem sI_congr {n : Nat} {g g' : Nat → Int32} (h : ∀ b, b < n → g b = g' b) : sI n g = sI n g' := by
  induction n with
  | zero => rfl
  | succ n ih =>
    unfold sI
    rw [ih (fun b hb => h b (by omega)), h n (by omega)]
theorem M_sum4 {R n : Nat} {m : xM} (hR : R ≤ 1000) (hn : n ≤ 6) (w0 : m.1 0 0 = nI n) : ∀ (f b : Nat), b ≤ n → n < b + f → fM_sumOf_l4 m f (nI R) (sI b (fun b => m.1 0 (R + b))) (nI b) = some (sI n (fun b => m.1 0 (R + b)))
  | 0, b, h1, h2 => absurd h2 (by omega)
  | f + 1, b, h1, h2 => by
    unfold fM_sumOf_l4
    rw [xk0, xl0, w0]
    by_cases hb : b = n
    · subst hb
      rw [if_pos (nI_le (Nat.le_refl _) (by omega))]
    · rw [if_neg (nI_ge (by omega) (by omega)), nI_add, xck_nI (by omega) (by decide), nI_clamp (by omega), nI_1]
      exact M_sum4 hR hn w0 f (b + 1) (by omega) (by omega)
theorem H_wo4 {β n : Nat} {m : xM} (hβ : β < 5) (hn : n ≤ 6) (u0 : m.1 36 (xtb β) = nI n) : ∀ (f b : Nat), b ≤ n → n < b + f → fB_wormy_l4 β m f (sI b (fun b => m.1 (xtb β) (b * 6 + 4))) (nI b) = some (sI n (fun b => m.1 (xtb β) (b * 6 + 4)))
  | 0, b, h1, h2 => absurd h2 (by omega)
  | f + 1, b, h1, h2 => by
    unfold fB_wormy_l4
    rw [B_many, bnd, u0]
    by_cases hb : b = n
    · subst hb
      rw [if_pos (nI_le (Nat.le_refl _) (by omega))]
    · rw [if_neg (nI_ge (by omega) (by omega)), B_get (b := b) (c := 4) (v2 := 4) hβ rfl rfl (by decide) (by omega), bnd, nI_1]
      exact H_wo4 hβ hn u0 f (b + 1) (by omega) (by omega)
theorem H_da4 {β n : Nat} {m : xM} (hβ : β < 5) (hn : n ≤ 6) (u0 : m.1 36 (xtb β) = nI n) : ∀ (f b : Nat), b ≤ n → n < b + f → fB_dampOfAll_l4 β m f (sI b (fun b => m.1 (xtb β) (b * 6 + 2))) (nI b) = some (sI n (fun b => m.1 (xtb β) (b * 6 + 2)))
  | 0, b, h1, h2 => absurd h2 (by omega)
  | f + 1, b, h1, h2 => by
    unfold fB_dampOfAll_l4
    rw [B_many, bnd, u0]
    by_cases hb : b = n
    · subst hb
      rw [if_pos (nI_le (Nat.le_refl _) (by omega))]
    · rw [if_neg (nI_ge (by omega) (by omega)), B_get (b := b) (c := 2) (v2 := 2) hβ rfl rfl (by decide) (by omega), bnd, nI_1]
      exact H_da4 hβ hn u0 f (b + 1) (by omega) (by omega)
/-- wormy boards, and all the damp, in both -/
theorem wormy_both {n k : Nat} {m ν : xM} (h : bE n k 0 0 m ν) : fB_wormy 0 m = some (sI n (fun b => m.1 0 (b * 6 + 4))) ∧ fM_sumOf ν 32 = some (sI n (fun b => m.1 0 (b * 6 + 4))) := by
  obtain ⟨hβ, hR, hn, hk, u0, w0, hE, hV⟩ := h
  refine ⟨H_wo4 (β := 0) (by decide) hn u0 xfu 0 (by omega) (by show n < 0 + 100000; omega), ?_⟩
  have e := M_sum4 (R := 32) (m := ν) (by decide) hn w0 xfu 0 (by omega) (by show n < 0 + 100000; omega)
  have e2 : sI n (fun b => ν.1 0 (32 + b)) = sI n (fun b => m.1 0 (b * 6 + 4)) := sI_congr (fun b hb => by
    have := hE b 4 hb (by decide)
    rw [show 0 + 8 + 6 * 4 + b = 32 + b by omega] at this
    exact this.symm)
  rw [e2] at e
  exact e
theorem damp_both {n k : Nat} {m ν : xM} (h : bE n k 0 0 m ν) : fB_dampOfAll 0 m = some (sI n (fun b => m.1 0 (b * 6 + 2))) ∧ fM_sumOf ν 20 = some (sI n (fun b => m.1 0 (b * 6 + 2))) := by
  obtain ⟨hβ, hR, hn, hk, u0, w0, hE, hV⟩ := h
  refine ⟨H_da4 (β := 0) (by decide) hn u0 xfu 0 (by omega) (by show n < 0 + 100000; omega), ?_⟩
  have e := M_sum4 (R := 20) (m := ν) (by decide) hn w0 xfu 0 (by omega) (by show n < 0 + 100000; omega)
  have e2 : sI n (fun b => ν.1 0 (20 + b)) = sI n (fun b => m.1 0 (b * 6 + 2)) := sI_congr (fun b hb => by
    have := hE b 2 hb (by decide)
    rw [show 0 + 8 + 6 * 2 + b = 20 + b by omega] at this
    exact this.symm)
  rw [e2] at e
  exact e
theorem M_free4 {n : Nat} {m : xM} (hn : n ≤ 6) (w0 : m.1 0 0 = nI n) : ∀ (f b : Nat), b ≤ n → n < b + f → fM_freeOnes_l4 m f (nI (maskN b (fun b => m.1 0 (38 + b) == -1))) (nI b) = some (nI (maskN n (fun b => m.1 0 (38 + b) == -1)))
  | 0, b, h1, h2 => absurd h2 (by omega)
  | f + 1, b, h1, h2 => by
    unfold fM_freeOnes_l4
    rw [xk0, xl0, w0]
    by_cases hb : b = n
    · subst hb
      rw [if_pos (nI_le (Nat.le_refl _) (by omega))]
    · rw [if_neg (nI_ge (by omega) (by omega)), show (38 : Int32) + nI b = nI (38 + b) from nI_add 38 b, xck_nI (by omega) (by decide), nI_clamp (by omega)]
      unfold fM_freeOnes_b35
      have ih := M_free4 hn w0 f (b + 1) (by omega) (by omega)
      have e : maskN (b + 1) (fun b => m.1 0 (38 + b) == -1) = maskN b (fun b => m.1 0 (38 + b) == -1) + (if (m.1 0 (38 + b) == -1) = true then 2 ^ b else 0) := rfl
      rw [nI_1]
      by_cases c : m.1 0 (38 + b) = -1
      · rw [if_pos (beq_iff_eq.mpr c)] at e
        rw [if_pos c, or_bit b (by omega) _ (maskN_lt _ _), ← e]
        exact ih
      · rw [if_neg (fun z => c (beq_iff_eq.mp z))] at e
        rw [if_neg c, Int32.or_zero, ← e.trans (Nat.add_zero _)]
        exact ih
/-- the mask of free boards, in both -/
theorem free_both {n k : Nat} {m ν : xM} (h : bE n k 0 0 m ν) : fM_freeOnes ν = some (nI (maskN n (fun b => m.1 0 (b * 6 + 5) == -1))) := by
  obtain ⟨hβ, hR, hn, hk, u0, w0, hE, hV⟩ := h
  have e := M_free4 hn w0 xfu 0 (by omega) (by show n < 0 + 100000; omega)
  have e2 : maskN n (fun b => ν.1 0 (38 + b) == -1) = maskN n (fun b => m.1 0 (b * 6 + 5) == -1) := maskN_congr (fun b hb => by
    show (ν.1 0 (38 + b) == -1) = (m.1 0 (b * 6 + 5) == -1)
    have := hE b 5 hb (by decide)
    rw [show 0 + 8 + 6 * 5 + b = 38 + b by omega] at this
    rw [← this]
    rfl)
  rw [e2] at e
  exact e
theorem count_both {μ ν : xM} (h : xRel μ ν) {x : Nat} (hx : x ≤ 10) : ∃ r, fH_count (nI x) μ = some (r, μ) ∧ fM_countOf ν (nI x) = some r := by
  obtain ⟨n, k, y, hh, a, q, u, B, U, W, hC, hW, hI, hH, hN, hM, hP⟩ := rel_op h
  obtain ⟨b1, b2, b3, b4, b5, b6, b7⟩ := id B
  obtain ⟨u0, u1, u2, u3, u4, u5, u6, uy⟩ := U
  obtain ⟨w0, w1, w2, w3, w4, w5, w6⟩ := W
  have E := bE_0 b1 b2 u0 w0 hC
  obtain ⟨L, t1, t2, t3, t4⟩ := h.2.2.2.1
  unfold fH_count fM_countOf
  rcases (show x = 0 ∨ x = 1 ∨ x = 2 ∨ x = 3 ∨ x = 4 ∨ x = 5 ∨ x = 6 ∨ x = 7 ∨ x = 8 ∨ x = 9 ∨ x = 10 by omega) with rfl | rfl | rfl | rfl | rfl | rfl | rfl | rfl | rfl | rfl | rfl
  · refine ⟨nI n, ?_, ?_⟩
    · rw [if_pos (show nI 0 = 0 from rfl)]
      rw [← u0]; rfl
    · rw [if_pos (show nI 0 = 0 from rfl)]
      rw [xk0, xl0, w0]
  · refine ⟨nI k, ?_, ?_⟩
    · rw [if_neg (show ¬ nI 1 = 0 by decide), if_pos (show nI 1 = 1 from rfl)]
      rw [← u3]; rfl
    · rw [if_neg (show ¬ nI 1 = 0 by decide), if_pos (show nI 1 = 1 from rfl)]
      rw [xk1, xl1, w1]
  · refine ⟨nI y, ?_, ?_⟩
    · rw [if_neg (show ¬ nI 2 = 0 by decide), if_neg (show ¬ nI 2 = 1 by decide), if_pos (show nI 2 = 2 from rfl)]
      rw [uy]
    · rw [if_neg (show ¬ nI 2 = 0 by decide), if_neg (show ¬ nI 2 = 1 by decide), if_pos (show nI 2 = 2 from rfl)]
      rw [xk2, xl2, w2]
  · refine ⟨nI (cntB n (fun b => μ.1 (xtb 0) (b * 6 + 5) == -1)), ?_, ?_⟩
    · rw [if_neg (show ¬ nI 3 = 0 by decide), if_neg (show ¬ nI 3 = 1 by decide), if_neg (show ¬ nI 3 = 2 by decide), if_pos (show nI 3 = 3 from rfl)]
      rw [(cnt_both E (v := -1)).1]; rfl
    · rw [if_neg (show ¬ nI 3 = 0 by decide), if_neg (show ¬ nI 3 = 1 by decide), if_neg (show ¬ nI 3 = 2 by decide), if_pos (show nI 3 = 3 from rfl)]
      rw [free_both E, bnd, ones_N _ (mask_64 b1), bnd, pcN_mask b1]; rfl
  · refine ⟨sI n (fun b => μ.1 0 (b * 6 + 4)), ?_, ?_⟩
    · rw [if_neg (show ¬ nI 4 = 0 by decide), if_neg (show ¬ nI 4 = 1 by decide), if_neg (show ¬ nI 4 = 2 by decide), if_neg (show ¬ nI 4 = 3 by decide), if_pos (show nI 4 = 4 from rfl)]
      rw [(wormy_both E).1]; rfl
    · rw [if_neg (show ¬ nI 4 = 0 by decide), if_neg (show ¬ nI 4 = 1 by decide), if_neg (show ¬ nI 4 = 2 by decide), if_neg (show ¬ nI 4 = 3 by decide), if_pos (show nI 4 = 4 from rfl)]
      rw [(wormy_both E).2]; rfl
  · refine ⟨sI n (fun b => μ.1 0 (b * 6 + 2)), ?_, ?_⟩
    · rw [if_neg (show ¬ nI 5 = 0 by decide), if_neg (show ¬ nI 5 = 1 by decide), if_neg (show ¬ nI 5 = 2 by decide), if_neg (show ¬ nI 5 = 3 by decide), if_neg (show ¬ nI 5 = 4 by decide), if_pos (show nI 5 = 5 from rfl)]
      rw [(damp_both E).1]; rfl
    · rw [if_neg (show ¬ nI 5 = 0 by decide), if_neg (show ¬ nI 5 = 1 by decide), if_neg (show ¬ nI 5 = 2 by decide), if_neg (show ¬ nI 5 = 3 by decide), if_neg (show ¬ nI 5 = 4 by decide), if_pos (show nI 5 = 5 from rfl)]
      rw [(damp_both E).2]; rfl
  · refine ⟨nI hh, ?_, ?_⟩
    · rw [if_neg (show ¬ nI 6 = 0 by decide), if_neg (show ¬ nI 6 = 1 by decide), if_neg (show ¬ nI 6 = 2 by decide), if_neg (show ¬ nI 6 = 3 by decide), if_neg (show ¬ nI 6 = 4 by decide), if_neg (show ¬ nI 6 = 5 by decide), if_pos (show nI 6 = 6 from rfl)]
      rw [← u4]; rfl
    · rw [if_neg (show ¬ nI 6 = 0 by decide), if_neg (show ¬ nI 6 = 1 by decide), if_neg (show ¬ nI 6 = 2 by decide), if_neg (show ¬ nI 6 = 3 by decide), if_neg (show ¬ nI 6 = 4 by decide), if_neg (show ¬ nI 6 = 5 by decide), if_pos (show nI 6 = 6 from rfl)]
      rw [xk48, xl48, w3]
  · refine ⟨nI a, ?_, ?_⟩
    · rw [if_neg (show ¬ nI 7 = 0 by decide), if_neg (show ¬ nI 7 = 1 by decide), if_neg (show ¬ nI 7 = 2 by decide), if_neg (show ¬ nI 7 = 3 by decide), if_neg (show ¬ nI 7 = 4 by decide), if_neg (show ¬ nI 7 = 5 by decide), if_neg (show ¬ nI 7 = 6 by decide), if_pos (show nI 7 = 7 from rfl)]
      rw [← u5]; rfl
    · rw [if_neg (show ¬ nI 7 = 0 by decide), if_neg (show ¬ nI 7 = 1 by decide), if_neg (show ¬ nI 7 = 2 by decide), if_neg (show ¬ nI 7 = 3 by decide), if_neg (show ¬ nI 7 = 4 by decide), if_neg (show ¬ nI 7 = 5 by decide), if_neg (show ¬ nI 7 = 6 by decide), if_pos (show nI 7 = 7 from rfl)]
      rw [xk61, xl61, w4]
  · refine ⟨nI q, ?_, ?_⟩
    · rw [if_neg (show ¬ nI 8 = 0 by decide), if_neg (show ¬ nI 8 = 1 by decide), if_neg (show ¬ nI 8 = 2 by decide), if_neg (show ¬ nI 8 = 3 by decide), if_neg (show ¬ nI 8 = 4 by decide), if_neg (show ¬ nI 8 = 5 by decide), if_neg (show ¬ nI 8 = 6 by decide), if_neg (show ¬ nI 8 = 7 by decide), if_pos (show nI 8 = 8 from rfl)]
      rw [← u6]; rfl
    · rw [if_neg (show ¬ nI 8 = 0 by decide), if_neg (show ¬ nI 8 = 1 by decide), if_neg (show ¬ nI 8 = 2 by decide), if_neg (show ¬ nI 8 = 3 by decide), if_neg (show ¬ nI 8 = 4 by decide), if_neg (show ¬ nI 8 = 5 by decide), if_neg (show ¬ nI 8 = 6 by decide), if_neg (show ¬ nI 8 = 7 by decide), if_pos (show nI 8 = 8 from rfl)]
      rw [xk92, xl92, w5]
  · refine ⟨nI u, ?_, ?_⟩
    · rw [if_neg (show ¬ nI 9 = 0 by decide), if_neg (show ¬ nI 9 = 1 by decide), if_neg (show ¬ nI 9 = 2 by decide), if_neg (show ¬ nI 9 = 3 by decide), if_neg (show ¬ nI 9 = 4 by decide), if_neg (show ¬ nI 9 = 5 by decide), if_neg (show ¬ nI 9 = 6 by decide), if_neg (show ¬ nI 9 = 7 by decide), if_neg (show ¬ nI 9 = 8 by decide), if_pos (show nI 9 = 9 from rfl)]
      rw [← u1]; rfl
    · rw [if_neg (show ¬ nI 9 = 0 by decide), if_neg (show ¬ nI 9 = 1 by decide), if_neg (show ¬ nI 9 = 2 by decide), if_neg (show ¬ nI 9 = 3 by decide), if_neg (show ¬ nI 9 = 4 by decide), if_neg (show ¬ nI 9 = 5 by decide), if_neg (show ¬ nI 9 = 6 by decide), if_neg (show ¬ nI 9 = 7 by decide), if_neg (show ¬ nI 9 = 8 by decide), if_pos (show nI 9 = 9 from rfl)]
      rw [xk129, xl129, w6]
  · refine ⟨nI L, ?_, ?_⟩
    · rw [if_neg (show ¬ nI 10 = 0 by decide), if_neg (show ¬ nI 10 = 1 by decide), if_neg (show ¬ nI 10 = 2 by decide), if_neg (show ¬ nI 10 = 3 by decide), if_neg (show ¬ nI 10 = 4 by decide), if_neg (show ¬ nI 10 = 5 by decide), if_neg (show ¬ nI 10 = 6 by decide), if_neg (show ¬ nI 10 = 7 by decide), if_neg (show ¬ nI 10 = 8 by decide), if_neg (show ¬ nI 10 = 9 by decide), if_pos (show nI 10 = 10 from rfl)]
      rw [← t2]; rfl
    · rw [if_neg (show ¬ nI 10 = 0 by decide), if_neg (show ¬ nI 10 = 1 by decide), if_neg (show ¬ nI 10 = 2 by decide), if_neg (show ¬ nI 10 = 3 by decide), if_neg (show ¬ nI 10 = 4 by decide), if_neg (show ¬ nI 10 = 5 by decide), if_neg (show ¬ nI 10 = 6 by decide), if_neg (show ¬ nI 10 = 7 by decide), if_neg (show ¬ nI 10 = 8 by decide), if_neg (show ¬ nI 10 = 9 by decide)]
      rw [t3]
theorem st_count {μ ν : xM} (h : xRel μ ν) (v1 : Int32) : ∃ (r : Int32) (μ2 ν2 : xM), (fH_count v1 μ = some (r, μ2)) ∧ (fM_count v1 ν = some (r, ν2)) ∧ xRel μ2 ν2 := by
  by_cases c1 : 0 ≤ v1 ∧ v1 ≤ 10
  · obtain ⟨x, hx, rfl⟩ := nI_of2 (M := 10) (n := 10) rfl (Int32.not_lt.mpr c1.1) c1.2
    obtain ⟨r, e1, e2⟩ := count_both h hx
    refine ⟨r, μ, ν, e1, ?_, h⟩
    unfold fM_count
    rw [xib2 (y := 0) (z := 10) (a := 0) (b := 10) rfl rfl, if_pos c1, e2]
    rfl
  · refine ⟨-2, _, _, ?_, ?_, rel_bad h⟩
    · have e : ∀ k : Int32, 0 ≤ k → k ≤ 10 → ¬ v1 = k := fun k h1 h2 e => c1 (e ▸ ⟨h1, h2⟩)
      unfold fH_count
      rw [if_neg (e 0 (by decide) (by decide)), if_neg (e 1 (by decide) (by decide)), if_neg (e 2 (by decide) (by decide)), if_neg (e 3 (by decide) (by decide)), if_neg (e 4 (by decide) (by decide)), if_neg (e 5 (by decide) (by decide)), if_neg (e 6 (by decide) (by decide)), if_neg (e 7 (by decide) (by decide)), if_neg (e 8 (by decide) (by decide)), if_neg (e 9 (by decide) (by decide)), if_neg (e 10 (by decide) (by decide))]
      rfl
    · unfold fM_count
      rw [xib2 (y := 0) (z := 10) (a := 0) (b := 10) rfl rfl, if_neg c1]
      rfl
