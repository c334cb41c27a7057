/-! BASE: masks and their numbers -/
def maskN : Nat → (Nat → Bool) → Nat
  | 0, _ => 0
  | n + 1, f => maskN n f + (if f n then 2 ^ n else 0)
def pcN (M : Nat) : Nat := M % 2 + M / 2 % 2 + M / 4 % 2 + M / 8 % 2 + M / 16 % 2 + M / 32 % 2
theorem maskN_lt (n : Nat) (f : Nat → Bool) : maskN n f < 2 ^ n := by
  induction n with
  | zero => exact Nat.one_pos
  | succ n ih =>
    show maskN n f + (if f n = true then 2 ^ n else 0) < 2 ^ (n + 1)
    have e : 2 ^ (n + 1) = 2 ^ n + 2 ^ n := by rw [Nat.pow_succ]; omega
    by_cases c : f n = true
    · rw [if_pos c]; omega
    · rw [if_neg c]; omega
theorem maskN_congr {n : Nat} {f g : Nat → Bool} (h : ∀ b, b < n → f b = g b) : maskN n f = maskN n g := by
  induction n with
  | zero => rfl
  | succ n ih =>
    show maskN n f + (if f n then 2 ^ n else 0) = maskN n g + (if g n then 2 ^ n else 0)
    rw [ih (fun b hb => h b (by omega)), h n (by omega)]
theorem pcN_bit : ∀ b, b < 6 → ∀ M, M < 2 ^ b → pcN (M + 2 ^ b) = pcN M + 1 := by decide +kernel
theorem pcN_mask {n : Nat} {f : Nat → Bool} (hn : n ≤ 6) : pcN (maskN n f) = cntB n f := by
  induction n with
  | zero => exact (by decide : pcN 0 = 0)
  | succ n ih =>
    show pcN (maskN n f + (if f n = true then 2 ^ n else 0)) = cntB n f + (if f n = true then 1 else 0)
    by_cases c : f n = true
    · rw [if_pos c, if_pos c, pcN_bit n (by omega) _ (maskN_lt n f), ih (by omega)]
    · rw [if_neg c, if_neg c, Nat.add_zero, Nat.add_zero, ih (by omega)]
theorem or_bit : ∀ b, b < 6 → ∀ M, M < 2 ^ b → (nI M ||| ((1 : Int32) <<< (nI b &&& 31))) = nI (M + 2 ^ b) := by decide +kernel
theorem bitCount_N : ∀ M, M < 64 → fJ_bitCount (nI M) = some (nI (pcN M)) := by decide +kernel
theorem ones_N : ∀ M, M < 64 → fM_ones (nI M) = some (nI (pcN M)) := by decide +kernel
theorem mask_64 {n : Nat} {f : Nat → Bool} (hn : n ≤ 6) : maskN n f < 64 := by
  have h := maskN_lt n f
  have h2 : 2 ^ n ≤ 2 ^ 6 := Nat.pow_le_pow_right (by decide) hn
  omega
theorem B_many {β : Nat} {m : xM} : fT_many (xtb β) m = some (m.1 36 (xtb β)) := rfl
/-- the class: which boards are in an instrument -/
theorem H_mask4 {β n : Nat} {m : xM} {v : Int32} (hβ : β < 5) (hn : n ≤ 6) (u0 : m.1 36 (xtb β) = nI n) : ∀ (f b : Nat), b ≤ n → n < b + f → fB_maskIn_l4 β m f v (nI (maskN b (fun b => m.1 (xtb β) (b * 6 + 5) == v))) (nI b) = some (nI (maskN n (fun b => m.1 (xtb β) (b * 6 + 5) == v)))
  | 0, b, h1, h2 => absurd h2 (by omega)
  | f + 1, b, h1, h2 => by
    unfold fB_maskIn_l4
    rw [B_many, bnd, u0]
    by_cases hb : b = n
    · subst hb
      rw [if_pos (nI_le (Nat.le_refl _) (by omega))]
    · rw [if_neg (nI_ge (by omega) (by omega)), B_get (b := b) (c := 5) (v2 := 5) hβ rfl rfl (by decide) (by omega), bnd]
      unfold fB_maskIn_b34
      have ih := H_mask4 (v := v) hβ hn u0 f (b + 1) (by omega) (by omega)
      have e : maskN (b + 1) (fun b => m.1 (xtb β) (b * 6 + 5) == v) = maskN b (fun b => m.1 (xtb β) (b * 6 + 5) == v) + (if (m.1 (xtb β) (b * 6 + 5) == v) = true then 2 ^ b else 0) := rfl
      rw [nI_1]
      by_cases c : m.1 (xtb β) (b * 6 + 5) = v
      · rw [if_pos (beq_iff_eq.mpr c)] at e
        rw [if_pos c, or_bit b (by omega) _ (maskN_lt _ _), ← e]
        exact ih
      · rw [if_neg (fun z => c (beq_iff_eq.mp z))] at e
        rw [if_neg c, ← e.trans (Nat.add_zero _)]
        exact ih
theorem H_mask {β n : Nat} {m : xM} {v : Int32} (hβ : β < 5) (hn : n ≤ 6) (u0 : m.1 36 (xtb β) = nI n) : fB_maskIn β m v = some (nI (maskN n (fun b => m.1 (xtb β) (b * 6 + 5) == v))) := H_mask4 hβ hn u0 xfu 0 (by omega) (by show n < 0 + 100000; omega)
theorem H_manyIn {β n : Nat} {m : xM} {v : Int32} (hβ : β < 5) (hn : n ≤ 6) (u0 : m.1 36 (xtb β) = nI n) : fB_manyIn β m v = some (nI (cntB n (fun b => m.1 (xtb β) (b * 6 + 5) == v))) := by
  unfold fB_manyIn
  rw [H_mask hβ hn u0, bnd, bitCount_N _ (mask_64 hn), bnd, pcN_mask hn]
/-- the reference: how many -/
theorem M_bo5 {R n : Nat} {m : xM} {v : Int32} (hR : R ≤ 1704) (hn : n ≤ 6) (w0 : m.1 0 R = nI n) : ∀ (f b : Nat), b ≤ n → n < b + f → fM_boardsOf_l5 m f (nI R) v (nI (cntB b (fun b => m.1 0 (R + 38 + b) == v))) (nI b) = some (nI (cntB n (fun b => m.1 0 (R + 38 + b) == v)))
  | 0, b, h1, h2 => absurd h2 (by omega)
  | f + 1, b, h1, h2 => by
    unfold fM_boardsOf_l5
    rw [show nI R + 0 = nI (R + 0) from nI_add R 0, Nat.add_zero, xck_nI (by omega) (by decide), nI_clamp (by omega), w0]
    by_cases hb : b = n
    · subst hb
      rw [if_pos (nI_le (Nat.le_refl _) (by omega))]
    · rw [if_neg (nI_ge (by omega) (by omega)), show nI R + 38 + nI b = nI (R + 38 + b) by rw [show nI R + 38 = nI (R + 38) from nI_add R 38, nI_add], xck_nI (by omega) (by decide), nI_clamp (by omega)]
      unfold fM_boardsOf_b40
      have ih := M_bo5 (v := v) hR hn w0 f (b + 1) (by omega) (by omega)
      have e : cntB (b + 1) (fun b => m.1 0 (R + 38 + b) == v) = cntB b (fun b => m.1 0 (R + 38 + b) == v) + (if (m.1 0 (R + 38 + b) == v) = true then 1 else 0) := rfl
      rw [nI_1, nI_1]
      by_cases c : m.1 0 (R + 38 + b) = v
      · rw [if_pos (beq_iff_eq.mpr c)] at e
        rw [if_pos c, ← e]
        exact ih
      · rw [if_neg (fun z => c (beq_iff_eq.mp z))] at e
        rw [if_neg c, show nI (cntB b (fun b => m.1 0 (R + 38 + b) == v)) + 0 = nI (cntB b (fun b => m.1 0 (R + 38 + b) == v) + 0) from nI_add _ 0, ← e]
        exact ih
theorem M_boardsOf {R n : Nat} {m : xM} {v : Int32} (hR : R ≤ 1704) (hn : n ≤ 6) (w0 : m.1 0 R = nI n) : fM_boardsOf m (nI R) v = some (nI (cntB n (fun b => m.1 0 (R + 38 + b) == v))) := M_bo5 hR hn w0 xfu 0 (by omega) (by show n < 0 + 100000; omega)
/-- a free board comes into an instrument that has room -/
theorem vB_cut {n k B0 i0 : Nat} {C C' : Nat → Nat → Int32} (hk : k < 2 ^ 31) (h : vB n k C) (hb : B0 < n) (hi : i0 < k) (e : ∀ b c, b < n → c < 6 → ¬ (b = B0 ∧ c = 5) → C' b c = C b c) (hv : C' B0 5 = nI i0) (hf : C B0 5 = -1) (room : cntB n (fun b => C b 5 == nI i0) < 4) : vB n k C' := by
  have inj : ∀ i, i < k → nI i0 = nI i → i0 = i := fun i hi' z => (nI_eq (by omega) (by omega)).mp z
  have cnt : ∀ i, i < k → ∀ n', n' ≤ n → cntB n' (fun b => C' b 5 == nI i) = cntB n' (fun b => C b 5 == nI i) + (if i = i0 ∧ B0 < n' then 1 else 0) := by
    intro i hi' n'
    induction n' with
    | zero => intro _; rw [if_neg (by omega)]; rfl
    | succ n' ih =>
      intro hn'
      show cntB n' (fun b => C' b 5 == nI i) + (if (C' n' 5 == nI i) = true then 1 else 0) = cntB n' (fun b => C b 5 == nI i) + (if (C n' 5 == nI i) = true then 1 else 0) + _
      rw [ih (by omega)]
      by_cases z : n' = B0
      · subst z
        rw [hv, hf, beq_false_of_ne (nI_m1 (i := i) (by omega)), if_neg (show ¬ (i = i0 ∧ n' < n') by omega)]
        by_cases z2 : i = i0
        · subst z2
          rw [if_pos (beq_self_eq_true _), if_neg (by decide), if_pos ⟨rfl, by omega⟩]
        · rw [if_neg (fun w => z2 (inj i hi' (eq_of_beq w)).symm), if_neg (by decide), if_neg (fun w => z2 w.1)]
      · rw [e n' 5 (by omega) (by decide) (by omega)]
        by_cases z2 : i = i0 ∧ B0 < n'
        · rw [if_pos z2, if_pos (show i = i0 ∧ B0 < n' + 1 from ⟨z2.1, by omega⟩)]
          omega
        · rw [if_neg z2, if_neg (show ¬ (i = i0 ∧ B0 < n' + 1) by omega), Nat.add_zero, Nat.add_zero]
  refine ⟨fun b hb => ?_, fun i hi' => ?_⟩
  · obtain ⟨h0, h1, h2, h3, h4, h5⟩ := h.1 b hb
    rw [e b 0 hb (by decide) (by omega), e b 1 hb (by decide) (by omega), e b 2 hb (by decide) (by omega), e b 3 hb (by decide) (by omega), e b 4 hb (by decide) (by omega)]
    refine ⟨h0, h1, h2, h3, h4, ?_⟩
    by_cases z : b = B0
    · subst z
      exact Or.inr ⟨i0, hi, hv⟩
    · rw [e b 5 hb (by decide) (by omega)]
      exact h5
  · rw [cnt i hi' n (Nat.le_refl _)]
    by_cases z : i = i0 ∧ B0 < n
    · rw [if_pos z, z.1]
      omega
    · rw [if_neg z]
      exact h.2 i hi'
theorem st_cuts {μ ν : xM} (h : xRel μ ν) (v1 : Int32) (v2 : Int32) : ∃ (r : Int32) (μ2 ν2 : xM), (fH_cuts v1 v2 μ = some (r, μ2)) ∧ (fM_cuts v1 v2 ν = some (r, ν2)) ∧ xRel μ2 ν2 := by
  unfold fH_cuts fM_cuts
  obtain ⟨n, k, y, hh, a, q, u, B, U, W, hC, hW, hI, hH, hN, hM, hP⟩ := rel_op h
  obtain ⟨b1, b2, b3, b4, b5, b6, b7⟩ := id B
  obtain ⟨u0, u1, u2, u3, u4, u5, u6, uy⟩ := U
  obtain ⟨w0, w1, w2, w3, w4, w5, w6⟩ := W
  rcases xbd b1 u0 w0 v1 with ⟨b, hb, rfl, e1, e2⟩ | ⟨e1, e2⟩
  · rw [e1, e2, bnd, bnd, xi1, xi1]
    rcases xin (Nat.le_trans b2 (by decide)) u3 w1 v2 with ⟨i, hi, rfl, e3, e4⟩ | ⟨e3, e4⟩
    · have e : (38 : Int32) + nI b = nI (38 + b) := nI_add 38 b
      rw [e3, e4, bnd, bnd, xi1, xi1, xmsk (by omega), e, xck_nI (by omega) (by decide), nI_clamp (by omega), ← show μ.1 0 (b * 6 + 5) = ν.1 0 (38 + b) from hC.1 b 5 hb (by decide)]
      by_cases c2 : μ.1 0 (b * 6 + 5) = -1
      · have same : ∀ (μ1 ν1 : xM), pC n k μ1.1 (ν1.1 0) → cntB n (fun b => ν1.1 0 (0 + 38 + b) == nI i) = cntB n (fun b => μ1.1 0 (b * 6 + 5) == nI i) := by
          intro μ1 ν1 h
          refine cntB_congr (fun b' hb' => ?_)
          show (ν1.1 0 (0 + 38 + b') == nI i) = (μ1.1 0 (b' * 6 + 5) == nI i)
          rw [h.1 b' 5 hb' (by decide), show 8 + 6 * 5 + b' = 0 + 38 + b' by omega]
        have mh := H_manyIn (β := 0) (m := μ) (v := nI i) (by decide) b1 u0
        have mm := M_boardsOf (R := 0) (m := ν) (v := nI i) (by decide) b1 w0
        rw [same μ ν hC] at mm
        have le4 := hC.2.2 i hi
        rw [if_pos c2, if_pos c2, mh, show (0 : Int32) = nI 0 from rfl, mm, bnd, bnd]
        show ∃ r μ2 ν2, (if nI (cntB n (fun b => μ.1 0 (b * 6 + 5) == nI i)) < 4 then _ else _) = _ ∧ _ ∧ _
        by_cases room : cntB n (fun b => μ.1 0 (b * 6 + 5) == nI i) < 4
        · rw [if_pos (show nI _ < 4 from nI_lt room (by decide)), if_neg (show ¬ nI _ = 4 from nIne (b := 4) room (by decide))]
          obtain ⟨μ1, ν1, r1, r2, r3, r4, r5⟩ := rem h
          have k1 : ∀ x, μ1.1 0 x = μ.1 0 x := fun x => r4 0 _ (by decide) (Or.inl (by decide))
          have k3 : μ1.1 36 0 = nI n := (r4 36 0 (by decide) (Or.inr (by decide))).trans u0
          have R : xRel (xset μ1 0 (b * 6 + 5) (nI i)) (xset ν1 0 (8 + 6 * 5 + b) (nI i)) := by
            refine rel_cell r3 b1 k3 hb (by decide) (fun k' hk' e' hv => ?_)
            have ek : k' = k := (nI_eq (by omega) (by omega)).mp (e'.symm.trans ((r4 36 3 (by decide) (Or.inr (by decide))).trans u3))
            subst ek
            refine vB_cut (by omega) hv hb hi (fun b' c hb' hc e => by rw [xset_nj (by omega)]) xset_eq ((k1 _).trans c2) ?_
            rw [cntB_congr (n := n) (g := fun b => μ.1 0 (b * 6 + 5) == nI i) (fun b' hb' => by
              show (μ1.1 0 (b' * 6 + 5) == nI i) = _
              rw [k1])]
            exact room
          have z0 : (xset μ1 0 (b * 6 + 5) (nI i)).1 36 0 = nI n := by simp (disch := omega) only [xset_ne, xset_nj, xset_eq, Nat.add_zero]; exact k3
          have z1 : (xset ν1 0 (8 + 6 * 5 + b) (nI i)).1 0 0 = nI n := by simp (disch := omega) only [xset_ne, xset_nj, xset_eq, Nat.add_zero]; rw [r5 0 (by decide)]; exact w0
          obtain ⟨n', k', y', hh', a', q', u', B', U', W', hC', -⟩ := rel_op R
          have en : n' = n := (nI_eq (by omega) (by omega)).mp (U'.1.symm.trans z0)
          subst en
          have mh2 := H_manyIn (β := 0) (m := xset μ1 0 (b * 6 + 5) (nI i)) (v := nI i) (by decide) b1 z0
          have mm2 := M_boardsOf (R := 0) (m := xset ν1 0 (8 + 6 * 5 + b) (nI i)) (v := nI i) (by decide) b1 z1
          refine ⟨nI (cntB n' (fun b' => (xset μ1 0 (b * 6 + 5) (nI i)).1 0 (b' * 6 + 5) == nI i)), xset μ1 0 (b * 6 + 5) (nI i), xset ν1 0 (8 + 6 * 5 + b) (nI i), ?_, ?_, R⟩
          · rw [r1, bnd]
            unfold fB_set
            rw [B_put (β := 0) (b := b) (c := 5) (v2 := 5) (by decide) rfl rfl (by decide) (by omega)]
            show (fB_manyIn 0 (xset μ1 0 (b * 6 + 5) (nI i)) (nI i)).bind _ = _
            rw [mh2]
            rfl
          · rw [r2, bnd, xck_nI (by omega) (by decide), show 38 + b = 8 + 6 * 5 + b by omega, mm2, bnd, cntB_congr (n := n') (g := fun b' => (xset μ1 0 (b * 6 + 5) (nI i)).1 0 (b' * 6 + 5) == nI i) (f := fun b' => (xset ν1 0 (8 + 6 * 5 + b) (nI i)).1 0 (0 + 38 + b') == nI i) (fun b' hb' => by
              show ((xset ν1 0 (8 + 6 * 5 + b) (nI i)).1 0 (0 + 38 + b') == nI i) = ((xset μ1 0 (b * 6 + 5) (nI i)).1 0 (b' * 6 + 5) == nI i)
              rw [hC'.1 b' 5 hb' (by decide), show 8 + 6 * 5 + b' = 0 + 38 + b' by omega])]
        · have e4 : cntB n (fun b => μ.1 0 (b * 6 + 5) == nI i) = 4 := by
            have le4' : cntB n (fun b => μ.1 0 (b * 6 + 5) == nI i) ≤ 4 := le4
            omega
          rw [e4, if_neg (show ¬ nI 4 < 4 by decide), if_pos (show nI 4 = 4 from rfl)]
          exact ⟨-4, _, _, rfl, rfl, rel_full h⟩
      · rw [if_neg c2, if_neg c2]
        exact ⟨-3, _, _, rfl, rfl, rel_no h⟩
    · rw [e3, e4, bnd, bnd, xi0, xi0]
      exact ⟨-2, _, _, rfl, rfl, rel_bad h⟩
  · rw [e1, e2, bnd, bnd, xi0, xi0]
    exact ⟨-2, _, _, rfl, rfl, rel_bad h⟩
