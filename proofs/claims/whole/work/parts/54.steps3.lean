/-! STEPS: boards, instruments, what was heard, noted, marked -/
theorem xk0 {ρ : Type} {F : Option ρ} : xck 1752 (0 : Int32) F = F := xck_in (k := 0) rfl (by decide) (by decide)
theorem xk1 {ρ : Type} {F : Option ρ} : xck 1752 (1 : Int32) F = F := xck_in (k := 1) rfl (by decide) (by decide)
theorem xk2 {ρ : Type} {F : Option ρ} : xck 1752 (2 : Int32) F = F := xck_in (k := 2) rfl (by decide) (by decide)
theorem xk48 {ρ : Type} {F : Option ρ} : xck 1752 (48 : Int32) F = F := xck_in (k := 48) rfl (by decide) (by decide)
theorem xk61 {ρ : Type} {F : Option ρ} : xck 1752 (61 : Int32) F = F := xck_in (k := 61) rfl (by decide) (by decide)
theorem xk92 {ρ : Type} {F : Option ρ} : xck 1752 (92 : Int32) F = F := xck_in (k := 92) rfl (by decide) (by decide)
theorem xk129 {ρ : Type} {F : Option ρ} : xck 1752 (129 : Int32) F = F := xck_in (k := 129) rfl (by decide) (by decide)
theorem xl0 : (0 : Int32).toNatClampNeg = 0 := rfl
theorem xl1 : (1 : Int32).toNatClampNeg = 1 := rfl
theorem xl2 : (2 : Int32).toNatClampNeg = 2 := rfl
theorem xl48 : (48 : Int32).toNatClampNeg = 48 := rfl
theorem xl61 : (61 : Int32).toNatClampNeg = 61 := rfl
theorem xl92 : (92 : Int32).toNatClampNeg = 92 := rfl
theorem xl129 : (129 : Int32).toNatClampNeg = 129 := rfl
theorem nIne {a b : Nat} (h : a < b) (hb : b < 2 ^ 31) : ¬ nI a = nI b := fun e => by rw [nI_eq (by omega) hb] at e; omega
theorem cntB_zero {n : Nat} {f : Nat → Bool} (h : ∀ b, b < n → f b = false) : cntB n f = 0 := by
  induction n with
  | zero => rfl
  | succ n ih =>
    show cntB n f + (if f n then 1 else 0) = 0
    rw [ih (fun b hb => h b (by omega)), h n (by omega)]
    rfl
theorem nI_m1 {i : Nat} (h : i < 2 ^ 31) : ¬ (-1 : Int32) = nI i := fun e => nI_pos h (by rw [← e]; decide)
/-- one more instrument, without boards -/
theorem vB_more {n k : Nat} {C : Nat → Nat → Int32} (hk : k + 1 < 2 ^ 31) (h : vB n k C) : vB n (k + 1) C := by
  refine ⟨fun b hb => ?_, fun i hi => ?_⟩
  · obtain ⟨h0, h1, h2, h3, h4, h5⟩ := h.1 b hb
    refine ⟨h0, h1, h2, h3, h4, ?_⟩
    rcases h5 with h5 | ⟨i, hi, e⟩
    · exact Or.inl h5
    · exact Or.inr ⟨i, by omega, e⟩
  · by_cases e : i = k
    · subst e
      rw [cntB_zero]
      · exact Nat.zero_le _
      · intro b hb
        obtain ⟨-, -, -, -, -, h5⟩ := h.1 b hb
        rcases h5 with h5 | ⟨j, hj, e⟩
        · rw [h5]
          exact beq_false_of_ne (nI_m1 (by omega))
        · rw [e]
          exact beq_false_of_ne (nIne hj (by omega))
    · exact h.2 i (by omega)
/-- one more board, in no instrument -/
theorem vB_board {n k : Nat} {C C' : Nat → Nat → Int32} (hk : k < 2 ^ 31) (h : vB n k C) (e : ∀ b c, b < n → c < 6 → C b c = C' b c) (l0 : ∃ x, x < 6 ∧ C' n 0 = nI x) (l1 : ∃ x, x ≤ 99 ∧ C' n 1 = nI x) (l2 : ∃ x, x ≤ 9 ∧ C' n 2 = nI x) (l3 : ∃ x, x < 4 ∧ C' n 3 = nI x) (l4 : C' n 4 = 0) (l5 : C' n 5 = -1) : vB (n + 1) k C' := by
  have g := vB_congr e h
  refine ⟨fun b hb => ?_, fun i hi => ?_⟩
  · by_cases hbn : b = n
    · subst hbn
      exact ⟨l0, l1, l2, l3, Or.inl l4, Or.inl l5⟩
    · exact g.1 b (by omega)
  · show cntB n (fun b => C' b 5 == nI i) + (if (C' n 5 == nI i) = true then 1 else 0) ≤ 4
    rw [l5, beq_false_of_ne (nI_m1 (i := i) (by omega))]
    exact g.2 i hi
/-- one cell of a board changes, not its instrument -/
theorem vB_cell {n k B0 c0 : Nat} {C C' : Nat → Nat → Int32} (h : vB n k C) (e : ∀ b c, b < n → c < 6 → ¬ (b = B0 ∧ c = c0) → C b c = C' b c) (hc : c0 ≠ 5) (hv : B0 < n → (c0 = 0 → ∃ x, x < 6 ∧ C' B0 c0 = nI x) ∧ (c0 = 1 → ∃ x, x ≤ 99 ∧ C' B0 c0 = nI x) ∧ (c0 = 2 → ∃ x, x ≤ 9 ∧ C' B0 c0 = nI x) ∧ (c0 = 3 → ∃ x, x < 4 ∧ C' B0 c0 = nI x) ∧ (c0 = 4 → C' B0 c0 = 0 ∨ C' B0 c0 = 1)) : vB n k C' := by
  refine ⟨fun b hb => ?_, fun i hi => ?_⟩
  · obtain ⟨h0, h1, h2, h3, h4, h5⟩ := h.1 b hb
    by_cases hbn : b = B0
    · subst hbn
      obtain ⟨v0, v1, v2, v3, v4⟩ := hv hb
      refine ⟨?_, ?_, ?_, ?_, ?_, ?_⟩
      · by_cases z : c0 = 0
        · subst z; exact v0 rfl
        · rw [← e b 0 hb (by decide) (fun t => z t.2.symm)]; exact h0
      · by_cases z : c0 = 1
        · subst z; exact v1 rfl
        · rw [← e b 1 hb (by decide) (fun t => z t.2.symm)]; exact h1
      · by_cases z : c0 = 2
        · subst z; exact v2 rfl
        · rw [← e b 2 hb (by decide) (fun t => z t.2.symm)]; exact h2
      · by_cases z : c0 = 3
        · subst z; exact v3 rfl
        · rw [← e b 3 hb (by decide) (fun t => z t.2.symm)]; exact h3
      · by_cases z : c0 = 4
        · subst z; exact v4 rfl
        · rw [← e b 4 hb (by decide) (fun t => z t.2.symm)]; exact h4
      · rw [← e b 5 hb (by decide) (fun t => hc t.2.symm)]; exact h5
    · have g : ∀ c, c < 6 → C b c = C' b c := fun c hc => e b c hb hc (fun t => hbn t.1)
      rw [← g 0 (by decide), ← g 1 (by decide), ← g 2 (by decide), ← g 3 (by decide), ← g 4 (by decide), ← g 5 (by decide)]
      exact ⟨h0, h1, h2, h3, h4, h5⟩
  · rw [← cntB_congr (n := n) (f := fun b => C b 5 == nI i) (fun b hb => by rw [e b 5 hb (by decide) (fun t => hc t.2.symm)])]
    exact h.2 i hi
theorem st_make {μ ν : xM} (h : xRel μ ν) (v1 : Int32) : ∃ (r : Int32) (μ2 ν2 : xM), (fH_make v1 μ = some (r, μ2)) ∧ (fM_make v1 ν = some (r, ν2)) ∧ xRel μ2 ν2 := by
  unfold fH_make fM_make
  rw [xkdb, xib2 (y := 0) (z := 5) (a := 0) (b := 5) rfl rfl]
  by_cases c1 : 0 ≤ v1 ∧ v1 ≤ 5
  · rw [if_pos c1, if_pos c1]
    obtain ⟨n, k, y, hh, a, q, u, B, U, W, hC, hW, hI, hH, hN, hM, hP⟩ := rel_op h
    obtain ⟨b1, b2, b3, b4, b5, b6, b7⟩ := id B
    obtain ⟨u0, u1, u2, u3, u4, u5, u6, uy⟩ := U
    obtain ⟨w0, w1, w2, w3, w4, w5, w6⟩ := W
    show ∃ r μ2 ν2, (if μ.1 36 3 < 4 then _ else _) = _ ∧ _ ∧ _
    rw [u3]
    by_cases hk : k = 4
    · subst hk
      rw [if_neg (by decide)]
      refine ⟨-4, _, _, rfl, ?_, rel_full h⟩
      simp (disch := omega) only [Nat.add_zero, xk0, xk1, xk2, xk48, xk61, xk92, xk129, xl0, xl1, xl2, xl48, xl61, xl92, xl129, xck_nI, nI_clamp, nI_1, xset_ne, xset_nj, xset_eq, bnd, w1]
      rfl
    · have hk4 : k < 4 := by omega
      rw [if_pos (show nI k < 4 from nI_lt hk4 (by decide))]
      have s1 : fT_newRow 3 (xset μ 36 1 0) = some (nI k, xset (xset μ 36 1 0) 36 3 (nI (k + 1))) := T_newRow (by decide) (by simp (disch := omega) only [xset_ne, xset_nj, xset_eq, Nat.add_zero]; exact u3) hk4
      have s2 : fT_put 3 (nI k) 0 v1 (xset (xset μ 36 1 0) 36 3 (nI (k + 1))) = some (xset (xset (xset μ 36 1 0) 36 3 (nI (k + 1))) 3 (k * 1 + 0) v1) := T_put (t := 3) (r := k) (c := 0) (by decide) rfl rfl (by decide) hk4
      rw [show k * 1 + 0 = k by omega] at s2
      refine ⟨nI k, xset (xset (xset μ 36 1 0) 36 3 (nI (k + 1))) 3 k v1, xset (xset (xset ν 0 (44 + k) v1) 0 1 (nI (k + 1))) 0 129 0, ?_, ?_, ?_⟩
      · unfold fW_bringInstrument
        show ((fT_newRow 3 (xset μ 36 1 0)).bind _).bind _ = _
        rw [s1]
        show ((fT_put 3 (nI k) 0 v1 (xset (xset μ 36 1 0) 36 3 (nI (k + 1)))).bind _).bind _ = _
        rw [s2]
        rfl
      · have e44 : (44 : Int32) + nI k = nI (44 + k) := nI_add 44 k
        have ne : ¬ nI k = 4 := nIne (b := 4) hk4 (by decide)
        simp (disch := omega) only [Nat.add_zero, xk0, xk1, xk2, xk48, xk61, xk92, xk129, xl0, xl1, xl2, xl48, xl61, xl92, xl129, xck_nI, nI_clamp, nI_1, xset_ne, xset_nj, xset_eq, bnd, w1, e44]
        rw [if_neg ne, ← nI_1, Int32.add_sub_cancel]
      · exact rel_cl h (frH_set (by unfold kH; omega) (frH_set (by unfold kH; omega) (frH_set (by unfold kH; omega) frH_refl))) (frM_set (by unfold kM; omega) (frM_set (by unfold kM; omega) (frM_set (by unfold kM; omega) frM_refl))) (n := n) (k := k + 1) (y := y) (hh := hh) (a := a) (q := q) (u := 0) ⟨⟨b1, by omega, b3, b4, b5, b6, by decide⟩, ⟨by simp (disch := omega) only [xset_ne, xset_nj, xset_eq, Nat.add_zero]; exact u0, by simp (disch := omega) only [xset_ne, xset_nj, xset_eq, Nat.add_zero]; rfl, by simp (disch := omega) only [xset_ne, xset_nj, xset_eq, Nat.add_zero]; exact u2, by simp (disch := omega) only [xset_ne, xset_nj, xset_eq, Nat.add_zero], by simp (disch := omega) only [xset_ne, xset_nj, xset_eq, Nat.add_zero]; exact u4, by simp (disch := omega) only [xset_ne, xset_nj, xset_eq, Nat.add_zero]; exact u5, by simp (disch := omega) only [xset_ne, xset_nj, xset_eq, Nat.add_zero]; exact u6, by simp (disch := omega) only [xset_ne, xset_nj, xset_eq, Nat.add_zero]; exact uy⟩, ⟨by simp (disch := omega) only [xset_ne, xset_nj, xset_eq, Nat.add_zero]; exact w0, by simp (disch := omega) only [xset_ne, xset_nj, xset_eq, Nat.add_zero], by simp (disch := omega) only [xset_ne, xset_nj, xset_eq, Nat.add_zero]; exact w2, by simp (disch := omega) only [xset_ne, xset_nj, xset_eq, Nat.add_zero]; exact w3, by simp (disch := omega) only [xset_ne, xset_nj, xset_eq, Nat.add_zero]; exact w4, by simp (disch := omega) only [xset_ne, xset_nj, xset_eq, Nat.add_zero]; exact w5, by simp (disch := omega) only [xset_ne, xset_nj, xset_eq, Nat.add_zero]; rfl⟩, ⟨fun b c hb hc => by simp (disch := omega) only [xset_ne, xset_nj, xset_eq, Nat.add_zero]; exact hC.1 b c hb hc, vB_more (by omega) (vB_congr (fun b c hb hc => by simp (disch := omega) only [xset_ne, xset_nj, xset_eq, Nat.add_zero]) hC.2)⟩, pW_congr (fun i hi => by simp (disch := omega) only [xset_ne, xset_nj, xset_eq, Nat.add_zero]) (fun i h1 h2 => by simp (disch := omega) only [xset_ne, xset_nj, xset_eq, Nat.add_zero]) hW, fun i hi => by
          by_cases e : i = k
          · subst e; simp (disch := omega) only [xset_ne, xset_nj, xset_eq, Nat.add_zero]
          · simp (disch := omega) only [xset_ne, xset_nj, xset_eq, Nat.add_zero]; exact hI i (by omega), pH_congr b4 (fun i hi => by simp (disch := omega) only [xset_ne, xset_nj, xset_eq, Nat.add_zero]) (fun i h1 h2 => by simp (disch := omega) only [xset_ne, xset_nj, xset_eq, Nat.add_zero]) hH, pN_congr b5 (fun i hi => by simp (disch := omega) only [xset_ne, xset_nj, xset_eq, Nat.add_zero]) (fun i h1 h2 => by simp (disch := omega) only [xset_ne, xset_nj, xset_eq, Nat.add_zero]) hN, pM_congr b6 (fun i hi => by simp (disch := omega) only [xset_ne, xset_nj, xset_eq, Nat.add_zero]) (fun i h1 h2 => by simp (disch := omega) only [xset_ne, xset_nj, xset_eq, Nat.add_zero]) hM, fun r hr => absurd hr (Nat.not_lt_zero r)⟩
  · rw [if_neg c1, if_neg c1]
    exact ⟨-2, _, _, rfl, rfl, rel_bad h⟩
theorem st_heard {μ ν : xM} (h : xRel μ ν) (v1 : Int32) (v2 : Int32) : ∃ (r : Int32) (μ2 ν2 : xM), (fH_heard v1 v2 μ = some (r, μ2)) ∧ (fM_heard v1 v2 ν = some (r, ν2)) ∧ xRel μ2 ν2 := by
  unfold fH_heard fM_heard
  rw [xsgb, xsmb]
  by_cases c1 : 0 ≤ v1 ∧ v1 ≤ 3
  · rw [if_pos c1, if_pos c1, xwb, xib2 (y := 0) (z := 60) (a := 0) (b := 60) rfl rfl]
    by_cases c2 : 0 ≤ v2 ∧ v2 ≤ 60
    · rw [if_pos c2, if_pos c2]
      obtain ⟨n, k, y, hh, a, q, u, B, U, W, hC, hW, hI, hH, hN, hM, hP⟩ := rel_op h
      obtain ⟨b1, b2, b3, b4, b5, b6, b7⟩ := id B
      obtain ⟨u0, u1, u2, u3, u4, u5, u6, uy⟩ := U
      obtain ⟨w0, w1, w2, w3, w4, w5, w6⟩ := W
      obtain ⟨x, hx, ex⟩ := nI_of2 (M := 3) (n := 3) rfl (Int32.not_lt.mpr c1.1) c1.2
      by_cases hk : hh = 6
      · subst hk
        rw [T_newRowF (t := 4) (by decide) (by rw [u4]; rfl)]
        refine ⟨-4, _, _, rfl, ?_, rel_full h⟩
        simp (disch := omega) only [Nat.add_zero, xk0, xk1, xk2, xk48, xk61, xk92, xk129, xl0, xl1, xl2, xl48, xl61, xl92, xl129, xck_nI, nI_clamp, nI_1, xset_ne, xset_nj, xset_eq, bnd, w3]
        rfl
      · have hk4 : hh < 6 := by omega
        have s1 : fT_newRow 4 μ = some (nI hh, xset μ 36 4 (nI (hh + 1))) := T_newRow (by decide) u4 hk4
        have s2 : ∀ m, fT_put 4 (nI hh) 0 v1 m = some (xset m 4 (hh * 2 + 0) v1) := fun m => T_put (t := 4) (r := hh) (c := 0) (by decide) rfl rfl (by decide) hk4
        have s3 : ∀ m, fT_put 4 (nI hh) 1 v2 m = some (xset m 4 (hh * 2 + 1) v2) := fun m => T_put (t := 4) (r := hh) (c := 1) (by decide) rfl rfl (by decide) hk4
        refine ⟨nI (hh + 1), xset (xset (xset μ 36 4 (nI (hh + 1))) 4 (hh * 2 + 0) v1) 4 (hh * 2 + 1) v2, xset (xset (xset ν 0 (49 + 2 * hh) v1) 0 (49 + 2 * hh + 1) v2) 0 48 (nI (hh + 1)), ?_, ?_, ?_⟩
        · rw [s1]
          show (if nI hh = -1 then _ else _) = _
          rw [if_neg (fun e => nI_m1 (i := hh) (by omega) e.symm), s2, bnd, s3]
          show some ((xset (xset (xset μ 36 4 (nI (hh + 1))) 4 (hh * 2 + 0) v1) 4 (hh * 2 + 1) v2).1 36 4, _) = _
          simp (disch := omega) only [xset_ne, xset_nj, xset_eq, Nat.add_zero]
        · have e44 : (49 : Int32) + 2 * nI hh = nI (49 + 2 * hh) := by rw [show (2 : Int32) = nI 2 from rfl, nI_mul, show (49 : Int32) = nI 49 from rfl, nI_add]
          have ne : ¬ nI hh = 6 := nIne (b := 6) hk4 (by decide)
          simp (disch := omega) only [Nat.add_zero, xk0, xk1, xk2, xk48, xk61, xk92, xk129, xl0, xl1, xl2, xl48, xl61, xl92, xl129, xck_nI, nI_clamp, nI_1, xset_ne, xset_nj, xset_eq, bnd, w3, e44]
          rw [if_neg ne]
        · exact rel_cl h (frH_set (by unfold kH; omega) (frH_set (by unfold kH; omega) (frH_set (by unfold kH; omega) frH_refl))) (frM_set (by unfold kM; omega) (frM_set (by unfold kM; omega) (frM_set (by unfold kM; omega) frM_refl))) (n := n) (k := k) (y := y) (hh := hh + 1) (a := a) (q := q) (u := u) ⟨⟨b1, b2, b3, by omega, b5, b6, b7⟩, ⟨by simp (disch := omega) only [xset_ne, xset_nj, xset_eq, Nat.add_zero]; exact u0, by simp (disch := omega) only [xset_ne, xset_nj, xset_eq, Nat.add_zero]; exact u1, by simp (disch := omega) only [xset_ne, xset_nj, xset_eq, Nat.add_zero]; exact u2, by simp (disch := omega) only [xset_ne, xset_nj, xset_eq, Nat.add_zero]; exact u3, by simp (disch := omega) only [xset_ne, xset_nj, xset_eq, Nat.add_zero], by simp (disch := omega) only [xset_ne, xset_nj, xset_eq, Nat.add_zero]; exact u5, by simp (disch := omega) only [xset_ne, xset_nj, xset_eq, Nat.add_zero]; exact u6, by simp (disch := omega) only [xset_ne, xset_nj, xset_eq, Nat.add_zero]; exact uy⟩, ⟨by simp (disch := omega) only [xset_ne, xset_nj, xset_eq, Nat.add_zero]; exact w0, by simp (disch := omega) only [xset_ne, xset_nj, xset_eq, Nat.add_zero]; exact w1, by simp (disch := omega) only [xset_ne, xset_nj, xset_eq, Nat.add_zero]; exact w2, by simp (disch := omega) only [xset_ne, xset_nj, xset_eq, Nat.add_zero], by simp (disch := omega) only [xset_ne, xset_nj, xset_eq, Nat.add_zero]; exact w4, by simp (disch := omega) only [xset_ne, xset_nj, xset_eq, Nat.add_zero]; exact w5, by simp (disch := omega) only [xset_ne, xset_nj, xset_eq, Nat.add_zero]; exact w6⟩, pC_congr b1 (fun i hi => by simp (disch := omega) only [xset_ne, xset_nj, xset_eq, Nat.add_zero]) (fun i h1 h2 => by simp (disch := omega) only [xset_ne, xset_nj, xset_eq, Nat.add_zero]) hC, pW_congr (fun i hi => by simp (disch := omega) only [xset_ne, xset_nj, xset_eq, Nat.add_zero]) (fun i h1 h2 => by simp (disch := omega) only [xset_ne, xset_nj, xset_eq, Nat.add_zero]) hW, pI_congr b2 (fun i hi => by simp (disch := omega) only [xset_ne, xset_nj, xset_eq, Nat.add_zero]) (fun i h1 h2 => by simp (disch := omega) only [xset_ne, xset_nj, xset_eq, Nat.add_zero]) hI, fun r hr => by
            by_cases e : r = hh
            · subst e; simp (disch := omega) only [xset_ne, xset_nj, xset_eq, Nat.add_zero]; exact ⟨trivial, trivial, x, by omega, ex⟩
            · simp (disch := omega) only [xset_ne, xset_nj, xset_eq, Nat.add_zero]; exact hH r (by omega), pN_congr b5 (fun i hi => by simp (disch := omega) only [xset_ne, xset_nj, xset_eq, Nat.add_zero]) (fun i h1 h2 => by simp (disch := omega) only [xset_ne, xset_nj, xset_eq, Nat.add_zero]) hN, pM_congr b6 (fun i hi => by simp (disch := omega) only [xset_ne, xset_nj, xset_eq, Nat.add_zero]) (fun i h1 h2 => by simp (disch := omega) only [xset_ne, xset_nj, xset_eq, Nat.add_zero]) hM, pP_congr b1 b7 (fun i hi => by simp (disch := omega) only [xset_ne, xset_nj, xset_eq, Nat.add_zero]) (fun i h1 h2 => by simp (disch := omega) only [xset_ne, xset_nj, xset_eq, Nat.add_zero]) hP⟩
    · rw [if_neg c2, if_neg c2]
      exact ⟨-2, _, _, rfl, rfl, rel_bad h⟩
  · rw [if_neg c1, if_neg c1]
    exact ⟨-2, _, _, rfl, rfl, rel_bad h⟩
theorem st_note {μ ν : xM} (h : xRel μ ν) (v1 : Int32) (v2 : Int32) (v3 : Int32) (v4 : Int32) (v5 : Int32) : ∃ (r : Int32) (μ2 ν2 : xM), (fH_note v1 v2 v3 v4 v5 μ = some (r, μ2)) ∧ (fM_note v1 v2 v3 v4 v5 ν = some (r, ν2)) ∧ xRel μ2 ν2 := by
  unfold fH_note fM_note
  obtain ⟨n, k, y, hh, a, q, u, B, U, W, hC, hW, hI, hH, hN, hM, hP⟩ := rel_op h
  obtain ⟨b1, b2, b3, b4, b5, b6, b7⟩ := id B
  obtain ⟨u0, u1, u2, u3, u4, u5, u6, uy⟩ := U
  obtain ⟨w0, w1, w2, w3, w4, w5, w6⟩ := W
  rcases xbd b1 u0 w0 v1 with ⟨b, hb, ev, e1, e2⟩ | ⟨e1, e2⟩
  · rw [e1, e2, bnd, bnd, xi1, xi1]
    rw [xwb, xib2 (y := 0) (z := 99) (a := 0) (b := 99) rfl rfl]
    by_cases c2 : 0 ≤ v2 ∧ v2 ≤ 99
    · rw [if_pos c2, if_pos c2]
      rw [xwb, xib2 (y := 0) (z := 9) (a := 0) (b := 9) rfl rfl]
      by_cases c3 : 0 ≤ v3 ∧ v3 ≤ 9
      · rw [if_pos c3, if_pos c3]
        rw [xsgb, xsmb]
        by_cases c4 : 0 ≤ v4 ∧ v4 ≤ 3
        · rw [if_pos c4, if_pos c4]
          rw [xwb, xib2 (y := 0) (z := 60) (a := 0) (b := 60) rfl rfl]
          by_cases c5 : 0 ≤ v5 ∧ v5 ≤ 60
          · rw [if_pos c5, if_pos c5]
            obtain ⟨x2, hx2, ex2⟩ := nI_of2 (M := 99) (n := 99) rfl (Int32.not_lt.mpr (Int32.le_trans (by decide) c2.1)) c2.2
            obtain ⟨x3, hx3, ex3⟩ := nI_of2 (M := 9) (n := 9) rfl (Int32.not_lt.mpr (Int32.le_trans (by decide) c3.1)) c3.2
            obtain ⟨x4, hx4, ex4⟩ := nI_of2 (M := 3) (n := 3) rfl (Int32.not_lt.mpr c4.1) c4.2
            obtain ⟨x5, hx5, ex5⟩ := nI_of2 (M := 60) (n := 60) rfl (Int32.not_lt.mpr (Int32.le_trans (by decide) c5.1)) c5.2
            by_cases hk : a = 6
            · subst hk
              rw [T_newRowF (t := 5) (by decide) (by rw [u5]; rfl)]
              refine ⟨-4, _, _, rfl, ?_, rel_full h⟩
              simp (disch := omega) only [Nat.add_zero, xk0, xk1, xk2, xk48, xk61, xk92, xk129, xl0, xl1, xl2, xl48, xl61, xl92, xl129, xck_nI, nI_clamp, nI_1, xset_ne, xset_nj, xset_eq, bnd, w4]
              rfl
            · have hk4 : a < 6 := by omega
              have s0 : fT_newRow 5 μ = some (nI a, xset μ 36 5 (nI (a + 1))) := T_newRow (by decide) u5 hk4
              have s1 : ∀ m, fT_put 5 (nI a) 0 v1 m = some (xset m 5 (a * 5 + 0) v1) := fun m => T_put (t := 5) (r := a) (c := 0) (by decide) rfl rfl (by decide) hk4
              have s2 : ∀ m, fT_put 5 (nI a) 1 v2 m = some (xset m 5 (a * 5 + 1) v2) := fun m => T_put (t := 5) (r := a) (c := 1) (by decide) rfl rfl (by decide) hk4
              have s3 : ∀ m, fT_put 5 (nI a) 2 v3 m = some (xset m 5 (a * 5 + 2) v3) := fun m => T_put (t := 5) (r := a) (c := 2) (by decide) rfl rfl (by decide) hk4
              have s4 : ∀ m, fT_put 5 (nI a) 3 v4 m = some (xset m 5 (a * 5 + 3) v4) := fun m => T_put (t := 5) (r := a) (c := 3) (by decide) rfl rfl (by decide) hk4
              have s5 : ∀ m, fT_put 5 (nI a) 4 v5 m = some (xset m 5 (a * 5 + 4) v5) := fun m => T_put (t := 5) (r := a) (c := 4) (by decide) rfl rfl (by decide) hk4
              refine ⟨nI (a + 1), xset (xset (xset (xset (xset (xset μ 36 5 (nI (a + 1))) 5 (a * 5 + 0) v1) 5 (a * 5 + 1) v2) 5 (a * 5 + 2) v3) 5 (a * 5 + 3) v4) 5 (a * 5 + 4) v5, xset (xset (xset (xset (xset (xset (ν) 0 (62 + 5 * a) v1) 0 (62 + 5 * a + 1) v2) 0 (62 + 5 * a + 2) v3) 0 (62 + 5 * a + 3) v4) 0 (62 + 5 * a + 4) v5) 0 61 (nI (a + 1)), ?_, ?_, ?_⟩
              · rw [s0]
                show (if nI a = -1 then _ else _) = _
                rw [if_neg (fun e => nI_m1 (i := a) (by omega) e.symm), s1, bnd, s2, bnd, s3, bnd, s4, bnd, s5]
                show some ((xset (xset (xset (xset (xset (xset μ 36 5 (nI (a + 1))) 5 (a * 5 + 0) v1) 5 (a * 5 + 1) v2) 5 (a * 5 + 2) v3) 5 (a * 5 + 3) v4) 5 (a * 5 + 4) v5).1 36 5, _) = _
                simp (disch := omega) only [xset_ne, xset_nj, xset_eq, Nat.add_zero]
              · have eb : (62 : Int32) + 5 * nI a = nI (62 + 5 * a) := by rw [show (5 : Int32) = nI 5 from rfl, nI_mul, show (62 : Int32) = nI 62 from rfl, nI_add]
                have eb2 : nI (62 + 5 * a) + 2 = nI (62 + 5 * a + 2) := nI_add _ 2
                have eb3 : nI (62 + 5 * a) + 3 = nI (62 + 5 * a + 3) := nI_add _ 3
                have eb4 : nI (62 + 5 * a) + 4 = nI (62 + 5 * a + 4) := nI_add _ 4
                have ne : ¬ nI a = 6 := nIne (b := 6) hk4 (by decide)
                simp (disch := omega) only [Nat.add_zero, xk0, xk1, xk2, xk48, xk61, xk92, xk129, xl0, xl1, xl2, xl48, xl61, xl92, xl129, xck_nI, nI_clamp, nI_1, xset_ne, xset_nj, xset_eq, bnd, w4, eb, eb2, eb3, eb4]
                rw [if_neg ne]
              · exact rel_cl h (frH_set (by unfold kH; omega) (frH_set (by unfold kH; omega) (frH_set (by unfold kH; omega) (frH_set (by unfold kH; omega) (frH_set (by unfold kH; omega) (frH_set (by unfold kH; omega) frH_refl)))))) (frM_set (by unfold kM; omega) (frM_set (by unfold kM; omega) (frM_set (by unfold kM; omega) (frM_set (by unfold kM; omega) (frM_set (by unfold kM; omega) (frM_set (by unfold kM; omega) frM_refl)))))) (n := n) (k := k) (y := y) (hh := hh) (a := a + 1) (q := q) (u := u) ⟨⟨b1, b2, b3, b4, by omega, b6, b7⟩, ⟨by simp (disch := omega) only [xset_ne, xset_nj, xset_eq, Nat.add_zero]; exact u0, by simp (disch := omega) only [xset_ne, xset_nj, xset_eq, Nat.add_zero]; exact u1, by simp (disch := omega) only [xset_ne, xset_nj, xset_eq, Nat.add_zero]; exact u2, by simp (disch := omega) only [xset_ne, xset_nj, xset_eq, Nat.add_zero]; exact u3, by simp (disch := omega) only [xset_ne, xset_nj, xset_eq, Nat.add_zero]; exact u4, by simp (disch := omega) only [xset_ne, xset_nj, xset_eq, Nat.add_zero], by simp (disch := omega) only [xset_ne, xset_nj, xset_eq, Nat.add_zero]; exact u6, by simp (disch := omega) only [xset_ne, xset_nj, xset_eq, Nat.add_zero]; exact uy⟩, ⟨by simp (disch := omega) only [xset_ne, xset_nj, xset_eq, Nat.add_zero]; exact w0, by simp (disch := omega) only [xset_ne, xset_nj, xset_eq, Nat.add_zero]; exact w1, by simp (disch := omega) only [xset_ne, xset_nj, xset_eq, Nat.add_zero]; exact w2, by simp (disch := omega) only [xset_ne, xset_nj, xset_eq, Nat.add_zero]; exact w3, by simp (disch := omega) only [xset_ne, xset_nj, xset_eq, Nat.add_zero], by simp (disch := omega) only [xset_ne, xset_nj, xset_eq, Nat.add_zero]; exact w5, by simp (disch := omega) only [xset_ne, xset_nj, xset_eq, Nat.add_zero]; exact w6⟩, pC_congr b1 (fun i hi => by simp (disch := omega) only [xset_ne, xset_nj, xset_eq, Nat.add_zero]) (fun i h1 h2 => by simp (disch := omega) only [xset_ne, xset_nj, xset_eq, Nat.add_zero]) hC, pW_congr (fun i hi => by simp (disch := omega) only [xset_ne, xset_nj, xset_eq, Nat.add_zero]) (fun i h1 h2 => by simp (disch := omega) only [xset_ne, xset_nj, xset_eq, Nat.add_zero]) hW, pI_congr b2 (fun i hi => by simp (disch := omega) only [xset_ne, xset_nj, xset_eq, Nat.add_zero]) (fun i h1 h2 => by simp (disch := omega) only [xset_ne, xset_nj, xset_eq, Nat.add_zero]) hI, pH_congr b4 (fun i hi => by simp (disch := omega) only [xset_ne, xset_nj, xset_eq, Nat.add_zero]) (fun i h1 h2 => by simp (disch := omega) only [xset_ne, xset_nj, xset_eq, Nat.add_zero]) hH, fun r c hr hc => by
                      by_cases e : r = a
                      · subst e
                        rcases (show c = 0 ∨ c = 1 ∨ c = 2 ∨ c = 3 ∨ c = 4 by omega) with rfl | rfl | rfl | rfl | rfl
                        all_goals simp (disch := omega) only [xset_ne, xset_nj, xset_eq, Nat.add_zero]
                      · simp (disch := omega) only [xset_ne, xset_nj, xset_eq, Nat.add_zero]; exact hN r c (by omega) hc, pM_congr b6 (fun i hi => by simp (disch := omega) only [xset_ne, xset_nj, xset_eq, Nat.add_zero]) (fun i h1 h2 => by simp (disch := omega) only [xset_ne, xset_nj, xset_eq, Nat.add_zero]) hM, pP_congr b1 b7 (fun i hi => by simp (disch := omega) only [xset_ne, xset_nj, xset_eq, Nat.add_zero]) (fun i h1 h2 => by simp (disch := omega) only [xset_ne, xset_nj, xset_eq, Nat.add_zero]) hP⟩
          · rw [if_neg c5, if_neg c5]
            exact ⟨-2, _, _, rfl, rfl, rel_bad h⟩
        · rw [if_neg c4, if_neg c4]
          exact ⟨-2, _, _, rfl, rfl, rel_bad h⟩
      · rw [if_neg c3, if_neg c3]
        exact ⟨-2, _, _, rfl, rfl, rel_bad h⟩
    · rw [if_neg c2, if_neg c2]
      exact ⟨-2, _, _, rfl, rfl, rel_bad h⟩
  · rw [e1, e2, bnd, bnd, xi0, xi0]
    exact ⟨-2, _, _, rfl, rfl, rel_bad h⟩
theorem st_mark {μ ν : xM} (h : xRel μ ν) (v1 : Int32) (v2 : Int32) (v3 : Int32) (v4 : Int32) (v5 : Int32) (v6 : Int32) : ∃ (r : Int32) (μ2 ν2 : xM), (fH_mark v1 v2 v3 v4 v5 v6 μ = some (r, μ2)) ∧ (fM_mark v1 v2 v3 v4 v5 v6 ν = some (r, ν2)) ∧ xRel μ2 ν2 := by
  unfold fH_mark fM_mark
  obtain ⟨n, k, y, hh, a, q, u, B, U, W, hC, hW, hI, hH, hN, hM, hP⟩ := rel_op h
  obtain ⟨b1, b2, b3, b4, b5, b6, b7⟩ := id B
  obtain ⟨u0, u1, u2, u3, u4, u5, u6, uy⟩ := U
  obtain ⟨w0, w1, w2, w3, w4, w5, w6⟩ := W
  rcases xin (Nat.le_trans b2 (by decide)) u3 w1 v1 with ⟨b, hb, ev, e1, e2⟩ | ⟨e1, e2⟩
  · rw [e1, e2, bnd, bnd, xi1, xi1]
    rw [xwb, xib2 (y := 0) (z := 200) (a := 0) (b := 200) rfl rfl]
    by_cases c2 : 0 ≤ v2 ∧ v2 ≤ 200
    · rw [if_pos c2, if_pos c2]
      rw [xwb, xib2 (y := 0) (z := 4) (a := 0) (b := 4) rfl rfl]
      by_cases c3 : 0 ≤ v3 ∧ v3 ≤ 4
      · rw [if_pos c3, if_pos c3]
        rw [xwb, xib2 (y := 0) (z := 4) (a := 0) (b := 4) rfl rfl]
        by_cases c4 : 0 ≤ v4 ∧ v4 ≤ 4
        · rw [if_pos c4, if_pos c4]
          rw [xsgb, xsmb]
          by_cases c5 : 0 ≤ v5 ∧ v5 ≤ 3
          · rw [if_pos c5, if_pos c5]
            rw [xwb, xib2 (y := 0) (z := 400) (a := 0) (b := 400) rfl rfl]
            by_cases c6 : 0 ≤ v6 ∧ v6 ≤ 400
            · rw [if_pos c6, if_pos c6]
              obtain ⟨x2, hx2, ex2⟩ := nI_of2 (M := 200) (n := 200) rfl (Int32.not_lt.mpr (Int32.le_trans (by decide) c2.1)) c2.2
              obtain ⟨x3, hx3, ex3⟩ := nI_of2 (M := 4) (n := 4) rfl (Int32.not_lt.mpr (Int32.le_trans (by decide) c3.1)) c3.2
              obtain ⟨x4, hx4, ex4⟩ := nI_of2 (M := 4) (n := 4) rfl (Int32.not_lt.mpr (Int32.le_trans (by decide) c4.1)) c4.2
              obtain ⟨x5, hx5, ex5⟩ := nI_of2 (M := 3) (n := 3) rfl (Int32.not_lt.mpr c5.1) c5.2
              obtain ⟨x6, hx6, ex6⟩ := nI_of2 (M := 400) (n := 400) rfl (Int32.not_lt.mpr (Int32.le_trans (by decide) c6.1)) c6.2
              by_cases hk : q = 6
              · subst hk
                rw [T_newRowF (t := 6) (by decide) (by rw [u6]; rfl)]
                refine ⟨-4, _, _, rfl, ?_, rel_full h⟩
                simp (disch := omega) only [Nat.add_zero, xk0, xk1, xk2, xk48, xk61, xk92, xk129, xl0, xl1, xl2, xl48, xl61, xl92, xl129, xck_nI, nI_clamp, nI_1, xset_ne, xset_nj, xset_eq, bnd, w5]
                rfl
              · have hk4 : q < 6 := by omega
                have s0 : fT_newRow 6 μ = some (nI q, xset μ 36 6 (nI (q + 1))) := T_newRow (by decide) u6 hk4
                have s1 : ∀ m, fT_put 6 (nI q) 0 v1 m = some (xset m 6 (q * 6 + 0) v1) := fun m => T_put (t := 6) (r := q) (c := 0) (by decide) rfl rfl (by decide) hk4
                have s2 : ∀ m, fT_put 6 (nI q) 1 v2 m = some (xset m 6 (q * 6 + 1) v2) := fun m => T_put (t := 6) (r := q) (c := 1) (by decide) rfl rfl (by decide) hk4
                have s3 : ∀ m, fT_put 6 (nI q) 2 v3 m = some (xset m 6 (q * 6 + 2) v3) := fun m => T_put (t := 6) (r := q) (c := 2) (by decide) rfl rfl (by decide) hk4
                have s4 : ∀ m, fT_put 6 (nI q) 3 v4 m = some (xset m 6 (q * 6 + 3) v4) := fun m => T_put (t := 6) (r := q) (c := 3) (by decide) rfl rfl (by decide) hk4
                have s5 : ∀ m, fT_put 6 (nI q) 4 v5 m = some (xset m 6 (q * 6 + 4) v5) := fun m => T_put (t := 6) (r := q) (c := 4) (by decide) rfl rfl (by decide) hk4
                have s6 : ∀ m, fT_put 6 (nI q) 5 v6 m = some (xset m 6 (q * 6 + 5) v6) := fun m => T_put (t := 6) (r := q) (c := 5) (by decide) rfl rfl (by decide) hk4
                refine ⟨nI (q + 1), xset (xset (xset (xset (xset (xset (xset μ 36 6 (nI (q + 1))) 6 (q * 6 + 0) v1) 6 (q * 6 + 1) v2) 6 (q * 6 + 2) v3) 6 (q * 6 + 3) v4) 6 (q * 6 + 4) v5) 6 (q * 6 + 5) v6, xset (xset (xset (xset (xset (xset (xset (ν) 0 (93 + 6 * q) v1) 0 (93 + 6 * q + 1) v2) 0 (93 + 6 * q + 2) v3) 0 (93 + 6 * q + 3) v4) 0 (93 + 6 * q + 4) v5) 0 (93 + 6 * q + 5) v6) 0 92 (nI (q + 1)), ?_, ?_, ?_⟩
                · rw [s0]
                  show (if nI q = -1 then _ else _) = _
                  rw [if_neg (fun e => nI_m1 (i := q) (by omega) e.symm), s1, bnd, s2, bnd, s3, bnd, s4, bnd, s5, bnd, s6]
                  show some ((xset (xset (xset (xset (xset (xset (xset μ 36 6 (nI (q + 1))) 6 (q * 6 + 0) v1) 6 (q * 6 + 1) v2) 6 (q * 6 + 2) v3) 6 (q * 6 + 3) v4) 6 (q * 6 + 4) v5) 6 (q * 6 + 5) v6).1 36 6, _) = _
                  simp (disch := omega) only [xset_ne, xset_nj, xset_eq, Nat.add_zero]
                · have eb : (93 : Int32) + 6 * nI q = nI (93 + 6 * q) := by rw [show (6 : Int32) = nI 6 from rfl, nI_mul, show (93 : Int32) = nI 93 from rfl, nI_add]
                  have eb2 : nI (93 + 6 * q) + 2 = nI (93 + 6 * q + 2) := nI_add _ 2
                  have eb3 : nI (93 + 6 * q) + 3 = nI (93 + 6 * q + 3) := nI_add _ 3
                  have eb4 : nI (93 + 6 * q) + 4 = nI (93 + 6 * q + 4) := nI_add _ 4
                  have eb5 : nI (93 + 6 * q) + 5 = nI (93 + 6 * q + 5) := nI_add _ 5
                  have ne : ¬ nI q = 6 := nIne (b := 6) hk4 (by decide)
                  simp (disch := omega) only [Nat.add_zero, xk0, xk1, xk2, xk48, xk61, xk92, xk129, xl0, xl1, xl2, xl48, xl61, xl92, xl129, xck_nI, nI_clamp, nI_1, xset_ne, xset_nj, xset_eq, bnd, w5, eb, eb2, eb3, eb4, eb5]
                  rw [if_neg ne]
                · exact rel_cl h (frH_set (by unfold kH; omega) (frH_set (by unfold kH; omega) (frH_set (by unfold kH; omega) (frH_set (by unfold kH; omega) (frH_set (by unfold kH; omega) (frH_set (by unfold kH; omega) (frH_set (by unfold kH; omega) frH_refl))))))) (frM_set (by unfold kM; omega) (frM_set (by unfold kM; omega) (frM_set (by unfold kM; omega) (frM_set (by unfold kM; omega) (frM_set (by unfold kM; omega) (frM_set (by unfold kM; omega) (frM_set (by unfold kM; omega) frM_refl))))))) (n := n) (k := k) (y := y) (hh := hh) (a := a) (q := q + 1) (u := u) ⟨⟨b1, b2, b3, b4, b5, by omega, b7⟩, ⟨by simp (disch := omega) only [xset_ne, xset_nj, xset_eq, Nat.add_zero]; exact u0, by simp (disch := omega) only [xset_ne, xset_nj, xset_eq, Nat.add_zero]; exact u1, by simp (disch := omega) only [xset_ne, xset_nj, xset_eq, Nat.add_zero]; exact u2, by simp (disch := omega) only [xset_ne, xset_nj, xset_eq, Nat.add_zero]; exact u3, by simp (disch := omega) only [xset_ne, xset_nj, xset_eq, Nat.add_zero]; exact u4, by simp (disch := omega) only [xset_ne, xset_nj, xset_eq, Nat.add_zero]; exact u5, by simp (disch := omega) only [xset_ne, xset_nj, xset_eq, Nat.add_zero], by simp (disch := omega) only [xset_ne, xset_nj, xset_eq, Nat.add_zero]; exact uy⟩, ⟨by simp (disch := omega) only [xset_ne, xset_nj, xset_eq, Nat.add_zero]; exact w0, by simp (disch := omega) only [xset_ne, xset_nj, xset_eq, Nat.add_zero]; exact w1, by simp (disch := omega) only [xset_ne, xset_nj, xset_eq, Nat.add_zero]; exact w2, by simp (disch := omega) only [xset_ne, xset_nj, xset_eq, Nat.add_zero]; exact w3, by simp (disch := omega) only [xset_ne, xset_nj, xset_eq, Nat.add_zero]; exact w4, by simp (disch := omega) only [xset_ne, xset_nj, xset_eq, Nat.add_zero], by simp (disch := omega) only [xset_ne, xset_nj, xset_eq, Nat.add_zero]; exact w6⟩, pC_congr b1 (fun i hi => by simp (disch := omega) only [xset_ne, xset_nj, xset_eq, Nat.add_zero]) (fun i h1 h2 => by simp (disch := omega) only [xset_ne, xset_nj, xset_eq, Nat.add_zero]) hC, pW_congr (fun i hi => by simp (disch := omega) only [xset_ne, xset_nj, xset_eq, Nat.add_zero]) (fun i h1 h2 => by simp (disch := omega) only [xset_ne, xset_nj, xset_eq, Nat.add_zero]) hW, pI_congr b2 (fun i hi => by simp (disch := omega) only [xset_ne, xset_nj, xset_eq, Nat.add_zero]) (fun i h1 h2 => by simp (disch := omega) only [xset_ne, xset_nj, xset_eq, Nat.add_zero]) hI, pH_congr b4 (fun i hi => by simp (disch := omega) only [xset_ne, xset_nj, xset_eq, Nat.add_zero]) (fun i h1 h2 => by simp (disch := omega) only [xset_ne, xset_nj, xset_eq, Nat.add_zero]) hH, pN_congr b5 (fun i hi => by simp (disch := omega) only [xset_ne, xset_nj, xset_eq, Nat.add_zero]) (fun i h1 h2 => by simp (disch := omega) only [xset_ne, xset_nj, xset_eq, Nat.add_zero]) hN, fun r hr => by
                        by_cases e : r = q
                        · subst e
                          refine ⟨fun c hc => ?_, ?_, ?_, ?_, ?_⟩
                          · rcases (show c = 0 ∨ c = 1 ∨ c = 2 ∨ c = 3 ∨ c = 4 ∨ c = 5 by omega) with rfl | rfl | rfl | rfl | rfl | rfl
                            all_goals simp (disch := omega) only [xset_ne, xset_nj, xset_eq, Nat.add_zero]
                          · exact ⟨x2, hx2, by simp (disch := omega) only [xset_ne, xset_nj, xset_eq, Nat.add_zero]; exact ex2⟩
                          · exact ⟨x3, hx3, by simp (disch := omega) only [xset_ne, xset_nj, xset_eq, Nat.add_zero]; exact ex3⟩
                          · exact ⟨x4, hx4, by simp (disch := omega) only [xset_ne, xset_nj, xset_eq, Nat.add_zero]; exact ex4⟩
                          · exact ⟨x5, by omega, by simp (disch := omega) only [xset_ne, xset_nj, xset_eq, Nat.add_zero]; exact ex5⟩
                        · refine ⟨fun c hc => ?_, ?_⟩
                          · simp (disch := omega) only [xset_ne, xset_nj, xset_eq, Nat.add_zero]; exact (hM r (by omega)).1 c hc
                          · simp (disch := omega) only [xset_ne, xset_nj, xset_eq, Nat.add_zero]; exact (hM r (by omega)).2, pP_congr b1 b7 (fun i hi => by simp (disch := omega) only [xset_ne, xset_nj, xset_eq, Nat.add_zero]) (fun i h1 h2 => by simp (disch := omega) only [xset_ne, xset_nj, xset_eq, Nat.add_zero]) hP⟩
            · rw [if_neg c6, if_neg c6]
              exact ⟨-2, _, _, rfl, rfl, rel_bad h⟩
          · rw [if_neg c5, if_neg c5]
            exact ⟨-2, _, _, rfl, rfl, rel_bad h⟩
        · rw [if_neg c4, if_neg c4]
          exact ⟨-2, _, _, rfl, rfl, rel_bad h⟩
      · rw [if_neg c3, if_neg c3]
        exact ⟨-2, _, _, rfl, rfl, rel_bad h⟩
    · rw [if_neg c2, if_neg c2]
      exact ⟨-2, _, _, rfl, rfl, rel_bad h⟩
  · rw [e1, e2, bnd, bnd, xi0, xi0]
    exact ⟨-2, _, _, rfl, rfl, rel_bad h⟩
theorem st_worm {μ ν : xM} (h : xRel μ ν) (v1 : Int32) (v2 : Int32) : ∃ (r : Int32) (μ2 ν2 : xM), (fH_worm v1 v2 μ = some (r, μ2)) ∧ (fM_worm v1 v2 ν = some (r, ν2)) ∧ xRel μ2 ν2 := by
  unfold fH_worm fM_worm
  obtain ⟨n, k, y, hh, a, q, u, B, U, W, hC, hW, hI, hH, hN, hM, hP⟩ := rel_op h
  obtain ⟨b1, b2, b3, b4, b5, b6, b7⟩ := id B
  obtain ⟨u0, u1, u2, u3, u4, u5, u6, uy⟩ := U
  obtain ⟨w0, w1, w2, w3, w4, w5, w6⟩ := W
  rcases xbd b1 u0 w0 v1 with ⟨b, hb, rfl, e1, e2⟩ | ⟨e1, e2⟩
  · rw [e1, e2, bnd, bnd, xi1, xi1, xwb, xib2 (y := 0) (z := 1) (a := 0) (b := 1) rfl rfl]
    by_cases c2 : 0 ≤ v2 ∧ v2 ≤ 1
    · rw [if_pos c2, if_pos c2]
      obtain ⟨x, hx, ex⟩ := nI_of2 (M := 1) (n := 1) rfl (Int32.not_lt.mpr c2.1) c2.2
      refine ⟨μ.1 0 (b * 6 + 4), xset (xset μ 0 (b * 6 + 4) v2) 36 1 0, xset (xset ν 0 (32 + b) v2) 0 129 0, ?_, ?_, ?_⟩
      · unfold fB_cell fB_set
        rw [B_get (β := 0) (b := b) (c := 4) (v2 := 4) (by decide) rfl rfl (by decide) (by omega), B_put (β := 0) (b := b) (c := 4) (v2 := 4) (by decide) rfl rfl (by decide) (by omega)]
        rfl
      · have e : (32 : Int32) + nI b = nI (32 + b) := nI_add 32 b
        simp (disch := omega) only [Nat.add_zero, xk0, xk1, xk2, xk48, xk61, xk92, xk129, xl0, xl1, xl2, xl48, xl61, xl92, xl129, xck_nI, nI_clamp, nI_1, xset_ne, xset_nj, xset_eq, bnd, e]
        rw [hC.1 b 4 hb (by decide)]
      · exact rel_cl h (frH_set (by unfold kH; omega) (frH_set (by unfold kH; omega) frH_refl)) (frM_set (by unfold kM; omega) (frM_set (by unfold kM; omega) frM_refl)) (n := n) (k := k) (y := y) (hh := hh) (a := a) (q := q) (u := 0) ⟨⟨b1, b2, b3, b4, b5, b6, by decide⟩, ⟨by simp (disch := omega) only [xset_ne, xset_nj, xset_eq, Nat.add_zero]; exact u0, by simp (disch := omega) only [xset_ne, xset_nj, xset_eq, Nat.add_zero]; rfl, by simp (disch := omega) only [xset_ne, xset_nj, xset_eq, Nat.add_zero]; exact u2, by simp (disch := omega) only [xset_ne, xset_nj, xset_eq, Nat.add_zero]; exact u3, by simp (disch := omega) only [xset_ne, xset_nj, xset_eq, Nat.add_zero]; exact u4, by simp (disch := omega) only [xset_ne, xset_nj, xset_eq, Nat.add_zero]; exact u5, by simp (disch := omega) only [xset_ne, xset_nj, xset_eq, Nat.add_zero]; exact u6, by simp (disch := omega) only [xset_ne, xset_nj, xset_eq, Nat.add_zero]; exact uy⟩, ⟨by simp (disch := omega) only [xset_ne, xset_nj, xset_eq, Nat.add_zero]; exact w0, by simp (disch := omega) only [xset_ne, xset_nj, xset_eq, Nat.add_zero]; exact w1, by simp (disch := omega) only [xset_ne, xset_nj, xset_eq, Nat.add_zero]; exact w2, by simp (disch := omega) only [xset_ne, xset_nj, xset_eq, Nat.add_zero]; exact w3, by simp (disch := omega) only [xset_ne, xset_nj, xset_eq, Nat.add_zero]; exact w4, by simp (disch := omega) only [xset_ne, xset_nj, xset_eq, Nat.add_zero]; exact w5, by simp (disch := omega) only [xset_ne, xset_nj, xset_eq, Nat.add_zero]; rfl⟩, ⟨fun b' c hb' hc => by
          by_cases e : b' = b ∧ c = 4
          · obtain ⟨rfl, rfl⟩ := e; simp (disch := omega) only [xset_ne, xset_nj, xset_eq, Nat.add_zero]
          · simp (disch := omega) only [xset_ne, xset_nj, xset_eq, Nat.add_zero]; exact hC.1 b' c hb' hc, vB_cell (B0 := b) (c0 := 4) hC.2 (fun b' c hb' hc e => by simp (disch := omega) only [xset_ne, xset_nj, xset_eq, Nat.add_zero]) (by decide) (fun _ => ⟨fun z => absurd z (by decide), fun z => absurd z (by decide), fun z => absurd z (by decide), fun z => absurd z (by decide), fun _ => by
            simp (disch := omega) only [xset_ne, xset_nj, xset_eq, Nat.add_zero]
            rw [ex]
            rcases (show x = 0 ∨ x = 1 by omega) with rfl | rfl
            · exact Or.inl rfl
            · exact Or.inr rfl⟩)⟩, pW_congr (fun i hi => by simp (disch := omega) only [xset_ne, xset_nj, xset_eq, Nat.add_zero]) (fun i h1 h2 => by simp (disch := omega) only [xset_ne, xset_nj, xset_eq, Nat.add_zero]) hW, pI_congr b2 (fun i hi => by simp (disch := omega) only [xset_ne, xset_nj, xset_eq, Nat.add_zero]) (fun i h1 h2 => by simp (disch := omega) only [xset_ne, xset_nj, xset_eq, Nat.add_zero]) hI, pH_congr b4 (fun i hi => by simp (disch := omega) only [xset_ne, xset_nj, xset_eq, Nat.add_zero]) (fun i h1 h2 => by simp (disch := omega) only [xset_ne, xset_nj, xset_eq, Nat.add_zero]) hH, pN_congr b5 (fun i hi => by simp (disch := omega) only [xset_ne, xset_nj, xset_eq, Nat.add_zero]) (fun i h1 h2 => by simp (disch := omega) only [xset_ne, xset_nj, xset_eq, Nat.add_zero]) hN, pM_congr b6 (fun i hi => by simp (disch := omega) only [xset_ne, xset_nj, xset_eq, Nat.add_zero]) (fun i h1 h2 => by simp (disch := omega) only [xset_ne, xset_nj, xset_eq, Nat.add_zero]) hM, fun r hr => absurd hr (Nat.not_lt_zero r)⟩
    · rw [if_neg c2, if_neg c2]
      exact ⟨-2, _, _, rfl, rfl, rel_bad h⟩
  · rw [e1, e2, bnd, bnd, xi0, xi0]
    exact ⟨-2, _, _, rfl, rfl, rel_bad h⟩
