/-! STEPS: year -/
theorem rel_pass {μ ν : xM} (h : xRel μ ν) : ∃ y, y ≤ 999 ∧ μ.1 37 0 = nI y ∧ ν.1 0 2 = nI y ∧ (y < 999 → ∃ μ' ν', fB_passYear 0 2 μ = some μ' ∧ fM_passes 0 ν = some ν' ∧ xRel μ' ν') := by
  obtain ⟨n, k, y, hh, a, q, u, B, U, W, hC, hW, hI, hH, hN, hM, hP⟩ := rel_op h
  obtain ⟨b1, b2, b3, b4, b5, b6, b7⟩ := id B
  obtain ⟨u0, u1, u2, u3, u4, u5, u6, uy⟩ := U
  obtain ⟨w0, w1, w2, w3, w4, w5, w6⟩ := W
  refine ⟨y, b3, uy, w2, fun hy => ?_⟩
  obtain ⟨μ', ν', p1, p2, p3, p4, p5, p6, p7, p8, p9⟩ := pass_both (t1 := 2) (bE_0 b1 b2 u0 w0 hC) (y := y) (by omega) uy w2 (Or.inl rfl) (fun j hj => by rw [show 0 + 3 + j = 3 + j by omega]; exact hW j hj)
  obtain ⟨-, -, -, -, q1, q2, q3, q4⟩ := p3
  have xt : xtb 0 = 0 := rfl
  rw [xt] at q1 q3 q4 p6
  have f : ∀ j i, j ≠ 0 → (j ≠ 37 ∨ i ≠ 0) → μ.1 j i = μ'.1 j i := fun j i z1 z2 => (p6 j i z1 z2).symm
  have g : ∀ i, i ≠ 2 → (i < 14 ∨ 38 ≤ i) → ν.1 0 i = ν'.1 0 i := fun i z1 z2 => (p8 0 i (by omega)).symm
  refine ⟨μ', ν', p1, p2, rel_cl h ⟨fun j i z => ?_, p7⟩ ⟨fun j i z => ?_, by rw [p9], by rw [p9]⟩ (n := n) (k := k) (y := y + 1) (hh := hh) (a := a) (q := q) (u := u) ⟨⟨b1, b2, by omega, b4, b5, b6, b7⟩, ⟨?_, ?_, ?_, ?_, ?_, ?_, ?_, p4⟩, ⟨q2, ?_, p5, ?_, ?_, ?_, ?_⟩, ⟨fun b c hb hc => ?_, q4⟩, pW_congr (fun i hi => f 2 i (by omega) (by omega)) (fun i h1 h2 => g i (by omega) (by omega)) hW, pI_congr b2 (fun i hi => f 3 i (by omega) (by omega)) (fun i h1 h2 => g i (by omega) (by omega)) hI, pH_congr b4 (fun i hi => f 4 i (by omega) (by omega)) (fun i h1 h2 => g i (by omega) (by omega)) hH, pN_congr b5 (fun i hi => f 5 i (by omega) (by omega)) (fun i h1 h2 => g i (by omega) (by omega)) hN, pM_congr b6 (fun i hi => f 6 i (by omega) (by omega)) (fun i h1 h2 => g i (by omega) (by omega)) hM, pP_congr b1 b7 (fun i hi => f 1 i (by omega) (by omega)) (fun i h1 h2 => g i (by omega) (by omega)) hP⟩⟩
  · unfold kH at z
    exact p6 j i (by omega) (by omega)
  · unfold kM at z
    exact p8 j i (by omega)
  · rw [← f 36 0 (by decide) (by decide)]; exact u0
  · rw [← f 36 1 (by decide) (by decide)]; exact u1
  · rw [← f 36 2 (by decide) (by decide)]; exact u2
  · rw [← f 36 3 (by decide) (by decide)]; exact u3
  · rw [← f 36 4 (by decide) (by decide)]; exact u4
  · rw [← f 36 5 (by decide) (by decide)]; exact u5
  · rw [← f 36 6 (by decide) (by decide)]; exact u6
  · rw [← g 1 (by decide) (by decide)]; exact w1
  · rw [← g 48 (by decide) (by decide)]; exact w3
  · rw [← g 61 (by decide) (by decide)]; exact w4
  · rw [← g 92 (by decide) (by decide)]; exact w5
  · rw [← g 129 (by decide) (by decide)]; exact w6
  · rw [q3 b c hb hc, show 0 + 8 + 6 * c + b = 8 + 6 * c + b by omega]
theorem year_l {N : Nat} (hN : N < 1000) : ∀ (f c : Nat) (μ ν : xM), c ≤ N → N < c + f → xRel μ ν → ∃ μ' ν', fW_passYears_l2 0 f (nI N) (nI c) μ = some μ' ∧ fM_year_l25 f (nI N) (nI c) ν = ((fM_sumOf ν' 32).bind fun r => some (r, ν')) ∧ xRel μ' ν'
  | 0, c, μ, ν, h1, h2, h => absurd h2 (by omega)
  | f + 1, c, μ, ν, h1, h2, h => by
    unfold fW_passYears_l2 fM_year_l25
    by_cases hc : c = N
    · subst hc
      rw [if_pos (nI_le (Nat.le_refl _) (by omega)), if_pos (nI_le (Nat.le_refl _) (by omega))]
      exact ⟨μ, ν, rfl, rfl, h⟩
    · obtain ⟨y, hy, e1, e2, e3⟩ := rel_pass h
      have cc := nI_ge (a := c) (b := N) (by omega) (by omega)
      rw [if_neg cc, if_neg cc, e1, xk2, xl2, e2, nI_1]
      by_cases hy2 : y < 999
      · have c9 : ¬ (999 : Int32) ≤ nI y := nI_ge (b := 999) (by omega) (by decide)
        obtain ⟨μ', ν', p1, p2, p3⟩ := e3 hy2
        have p1' : fB_passYear 0 (7 * 0 + 2) μ = some μ' := p1
        rw [if_neg c9, if_neg c9, p1', p2, bnd, bnd]
        exact year_l hN f (c + 1) μ' ν' (by omega) (by omega) p3
      · have c9 : (999 : Int32) ≤ nI y := nI_le (a := 999) (by omega) (by omega)
        rw [if_pos c9, if_pos c9]
        exact ⟨μ, ν, rfl, rfl, h⟩
theorem st_year {μ ν : xM} (h : xRel μ ν) (v1 : Int32) : ∃ (r : Int32) (μ2 ν2 : xM), (fH_year v1 μ = some (r, μ2)) ∧ (fM_year v1 ν = some (r, ν2)) ∧ xRel μ2 ν2 := by
  unfold fH_year fM_year
  rw [xwb, xib2 (y := 1) (z := 60) (a := 1) (b := 60) rfl rfl]
  by_cases c1 : 1 ≤ v1 ∧ v1 ≤ 60
  · rw [if_pos c1, if_pos c1]
    obtain ⟨x, hx, rfl⟩ := nI_of2 (M := 60) (n := 60) rfl (Int32.not_lt.mpr (Int32.le_trans (by decide : (0 : Int32) ≤ 1) c1.1)) c1.2
    obtain ⟨μ1, ν1, r1, r2, r3, -⟩ := rem h
    obtain ⟨μ2, ν2, s1, s2, s3⟩ := year_l (N := x) (by omega) xfu 0 μ1 ν1 (by omega) (by show x < 0 + 100000; omega) r3
    obtain ⟨n, k, y, hh, a, q, u, B, U, W, hC, -⟩ := rel_op s3
    obtain ⟨S, t1, t2⟩ : ∃ S, fB_wormy 0 μ2 = some S ∧ fM_sumOf ν2 32 = some S := ⟨_, wormy_both (bE_0 B.1 B.2.1 U.1 W.1 hC)⟩
    refine ⟨S, μ2, ν2, ?_, ?_, s3⟩
    · rw [r1, bnd]
      show (fW_passYears_l2 0 xfu (nI x) (nI 0) μ1).bind _ = _
      rw [s1, bnd, t1]
      rfl
    · rw [r2, bnd]
      show fM_year_l25 xfu (nI x) (nI 0) ν1 = _
      rw [s2, t2]
      rfl
  · rw [if_neg c1, if_neg c1]
    exact ⟨-2, _, _, rfl, rfl, rel_bad h⟩
