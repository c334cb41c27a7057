/-! STEPS: town -/
/-- n places of the reference are empty from d -/
def xzr (m : xM) (d n : Nat) : xM := (fun j x => if j = 0 ∧ d ≤ x ∧ x < d + n then 0 else m.1 j x, m.2)
section XZR
variable {m : xM} {d n j x : Nat}
theorem xzr_nb (h : j ≠ 0) : (xzr m d n).1 j x = m.1 j x := if_neg (fun z => h z.1)
theorem xzr_lo (h : x < d) : (xzr m d n).1 j x = m.1 j x := if_neg (fun z => by omega)
theorem xzr_hi (h : d + n ≤ x) : (xzr m d n).1 j x = m.1 j x := if_neg (fun z => by omega)
theorem xzr_in (h1 : d ≤ x) (h2 : x < d + n) : (xzr m d n).1 0 x = 0 := if_pos ⟨rfl, h1, h2⟩
theorem xzr_0 : xzr m d 0 = m := by
  unfold xzr
  have e : (fun j x => if j = 0 ∧ d ≤ x ∧ x < d + 0 then (0 : Int32) else m.1 j x) = m.1 := by
    funext j x
    exact if_neg (fun z => by omega)
  rw [e]
theorem xzr_step : xzr (xset m 0 d 0) (d + 1) n = xzr m d (n + 1) := by
  unfold xzr
  refine Prod.ext ?_ rfl
  funext j x
  show (if j = 0 ∧ d + 1 ≤ x ∧ x < d + 1 + n then 0 else (xset m 0 d 0).1 j x) = if j = 0 ∧ d ≤ x ∧ x < d + (n + 1) then 0 else m.1 j x
  by_cases c1 : j = 0 ∧ d + 1 ≤ x ∧ x < d + 1 + n
  · rw [if_pos c1, if_pos (by omega)]
  · rw [if_neg c1]
    by_cases c2 : j = 0 ∧ x = d
    · obtain ⟨rfl, rfl⟩ := c2
      rw [if_pos (by omega), xset_eq]
    · rw [if_neg (by omega), xset_at, if_neg c2]
end XZR
theorem M_emp2 {R : Nat} (hR : R ≤ 1326) : ∀ (f i : Nat) (m : xM), i ≤ 426 → 426 < i + f → fM_empties_l2 f (nI R) (nI i) m = some (xzr m (R + i) (426 - i))
  | 0, i, m, h1, h2 => absurd h2 (by omega)
  | f + 1, i, m, h1, h2 => by
    unfold fM_empties_l2
    by_cases hi : i = 426
    · subst hi
      rw [if_pos (by decide), show 426 - 426 = 0 from rfl, xzr_0]
    · rw [if_neg (show ¬ (426 : Int32) ≤ nI i from nI_ge (b := 426) (by omega) (by decide)), nI_add, nI_1, xck_nI (by omega) (by decide), nI_clamp (by omega), M_emp2 hR f (i + 1) _ (by omega) (by omega)]
      have e1 : 426 - i = 426 - (i + 1) + 1 := by omega
      rw [e1, ← xzr_step (m := m)]
      rfl
theorem M_emp {R : Nat} {m : xM} (hR : R ≤ 1326) : fM_empties (nI R) m = some (xzr m R 426) := M_emp2 hR xfu 0 m (by decide) (by decide)
theorem rN2 : ∀ t, t < 4 → rN (7 * t + 2) = 5 ∧ wN (7 * t + 2) = 1 ∧ xtb t = 7 * t := by decide +kernel
theorem W_dry9 {t : Nat} (ht : t < 4) : ∀ (f c : Nat) (m : xM), c ≤ 5 → 5 < c + f → m.1 36 (7 * t + 2) = nI c → ∃ m', fW_dryWets_l9 t f (nI c) m = some m' ∧ (∀ i, c ≤ i → i < 5 → m'.1 (7 * t + 2) i = 0) ∧ (∀ i, i < c → m'.1 (7 * t + 2) i = m.1 (7 * t + 2) i) ∧ m'.1 36 (7 * t + 2) = nI 5 ∧ (∀ j x, j ≠ 7 * t + 2 → (j ≠ 36 ∨ x ≠ 7 * t + 2) → m'.1 j x = m.1 j x) ∧ m'.2 = m.2
  | 0, c, m, h1, h2, _ => absurd h2 (by omega)
  | f + 1, c, m, h1, h2, hc => by
    obtain ⟨e5, e1, -⟩ := rN2 t ht
    unfold fW_dryWets_l9
    by_cases h5 : c = 5
    · subst h5
      rw [if_pos (by decide)]
      exact ⟨m, rfl, fun i h3 h4 => absurd h4 (by omega), fun i _ => rfl, hc, fun j x _ _ => rfl, rfl⟩
    · have s1 : fT_put (7 * t + 2) (nI c) 0 0 (xset m 36 (7 * t + 2) (nI (c + 1))) = some (xset (xset m 36 (7 * t + 2) (nI (c + 1))) (7 * t + 2) (c * wN (7 * t + 2) + 0) 0) := T_put (t := 7 * t + 2) (r := c) (c := 0) (by omega) rfl rfl (by rw [e1]; decide) (by rw [e5]; omega)
      rw [e1, show c * 1 + 0 = c by omega] at s1
      rw [if_neg (show ¬ (5 : Int32) ≤ nI c from nI_ge (b := 5) (by omega) (by decide)), T_newRow (t := 7 * t + 2) (by omega) hc (by rw [e5]; omega), bnd, s1, bnd, nI_1]
      obtain ⟨m', g1, g2, g3, g4, g5, g6⟩ := W_dry9 ht f (c + 1) (xset (xset m 36 (7 * t + 2) (nI (c + 1))) (7 * t + 2) c 0) (by omega) (by omega) (by rw [xset_ne (by omega), xset_eq])
      refine ⟨m', g1, fun i h3 h4 => ?_, fun i h3 => ?_, g4, fun j x h3 h4 => ?_, g6⟩
      · by_cases z : i = c
        · subst z
          rw [g3 i (by omega), xset_eq]
        · exact g2 i (by omega) h4
      · rw [g3 i (by omega), xset_nj (by omega), xset_ne (by omega)]
      · rw [g5 j x h3 h4, xset_ne h3]
        rcases h4 with h4 | h4
        · exact xset_ne h4
        · exact xset_nj h4
/-- a town is empty, all of it -/
theorem W_emp {t : Nat} {m : xM} (ht : t < 4) : ∃ m', fW_empty t m = some m' ∧ (∀ j, j < 7 → m'.1 36 (7 * t + j) = if j = 2 then 5 else 0) ∧ (∀ i, i < 5 → m'.1 (7 * t + 2) i = 0) ∧ m'.1 37 t = 0 ∧ (∀ j x, j ≠ 7 * t + 2 → (j ≠ 36 ∨ x < 7 * t ∨ 7 * t + 7 ≤ x) → (j ≠ 37 ∨ x ≠ t) → m'.1 j x = m.1 j x) ∧ m'.2 = m.2 := by
  obtain ⟨e5, e1, e0⟩ := rN2 t ht
  obtain ⟨m1, g1, g2, g3, g4, g5, g6⟩ := W_dry9 ht xfu 0 (xset (xset (xset (xset m 36 (7 * t) 0) 37 t 0) 36 (7 * t + 1) 0) 36 (7 * t + 2) 0) (by decide) (by decide) xset_eq
  refine ⟨xset (xset (xset (xset m1 36 (7 * t + 3) 0) 36 (7 * t + 4) 0) 36 (7 * t + 5) 0) 36 (7 * t + 6) 0, ?_, ?_, ?_, ?_, ?_, g6⟩
  · unfold fW_empty fB_empty fW_dryWets
    rw [e0]
    have g1' : fW_dryWets_l9 t xfu 0 (xset (xset (xset (xset m 36 (7 * t) 0) 37 t 0) 36 (7 * t + 1) 0) 36 (7 * t + 2) 0) = some m1 := g1
    simp only [T_empty, bnd, g1']
  · intro j hj
    have z : (∀ x, x < 7 * t + 2 → m1.1 36 x = (xset (xset (xset (xset m 36 (7 * t) 0) 37 t 0) 36 (7 * t + 1) 0) 36 (7 * t + 2) 0).1 36 x) := fun x hx => g5 36 x (by omega) (by omega)
    rcases (show j = 0 ∨ j = 1 ∨ j = 2 ∨ j = 3 ∨ j = 4 ∨ j = 5 ∨ j = 6 by omega) with rfl | rfl | rfl | rfl | rfl | rfl | rfl
    · rw [if_neg (by decide)]; simp (disch := omega) only [xset_ne, xset_nj, xset_eq, Nat.add_zero]; rw [z _ (by omega)]; simp (disch := omega) only [xset_ne, xset_nj, xset_eq, Nat.add_zero]
    · rw [if_neg (by decide)]; simp (disch := omega) only [xset_ne, xset_nj, xset_eq, Nat.add_zero]; rw [z _ (by omega)]; simp (disch := omega) only [xset_ne, xset_nj, xset_eq, Nat.add_zero]
    · rw [if_pos rfl]; simp (disch := omega) only [xset_ne, xset_nj, xset_eq, Nat.add_zero]; exact g4
    · rw [if_neg (by decide)]; simp (disch := omega) only [xset_ne, xset_nj, xset_eq, Nat.add_zero]
    · rw [if_neg (by decide)]; simp (disch := omega) only [xset_ne, xset_nj, xset_eq, Nat.add_zero]
    · rw [if_neg (by decide)]; simp (disch := omega) only [xset_ne, xset_nj, xset_eq, Nat.add_zero]
    · rw [if_neg (by decide)]; simp (disch := omega) only [xset_ne, xset_nj, xset_eq, Nat.add_zero]
  · intro i hi
    simp (disch := omega) only [xset_ne, xset_nj, xset_eq, Nat.add_zero]
    exact g2 i (by omega) hi
  · simp (disch := omega) only [xset_ne, xset_nj, xset_eq, Nat.add_zero]
    rw [g5 37 t (by omega) (by omega)]
    simp (disch := omega) only [xset_ne, xset_nj, xset_eq, Nat.add_zero]
  · intro j x h1 h2 h3
    rcases h2 with h2 | h2
    · simp (disch := omega) only [xset_ne, xset_nj, xset_eq, Nat.add_zero]
      rw [g5 j x h1 (by omega)]
      rcases h3 with h3 | h3
      · simp (disch := omega) only [xset_ne, xset_nj, xset_eq, Nat.add_zero]
      · by_cases j37 : j = 37
        · subst j37; simp (disch := omega) only [xset_ne, xset_nj, xset_eq, Nat.add_zero]
        · simp (disch := omega) only [xset_ne, xset_nj, xset_eq, Nat.add_zero]
    · by_cases j36 : j = 36
      · subst j36
        simp (disch := omega) only [xset_ne, xset_nj, xset_eq, Nat.add_zero]
        rw [g5 36 x h1 (by omega)]
        simp (disch := omega) only [xset_ne, xset_nj, xset_eq, Nat.add_zero]
      · simp (disch := omega) only [xset_ne, xset_nj, xset_eq, Nat.add_zero]
        rw [g5 j x h1 (by omega)]
        rcases h3 with h3 | h3
        · simp (disch := omega) only [xset_ne, xset_nj, xset_eq, Nat.add_zero]
        · by_cases j37 : j = 37
          · subst j37; simp (disch := omega) only [xset_ne, xset_nj, xset_eq, Nat.add_zero]
          · simp (disch := omega) only [xset_ne, xset_nj, xset_eq, Nat.add_zero]
theorem rT_emp {v : Nat → Nat → Int32} {us w : Nat → Int32} {yr : Int32} (hu : ∀ j, j < 7 → us j = if j = 2 then 5 else 0) (hv : ∀ i, i < 5 → v 2 i = 0) (hy : yr = 0) (hw : ∀ i, i < 426 → w i = 0) : rT 0 0 0 0 0 0 0 v us yr w :=
  ⟨⟨by decide, by decide, by decide, by decide, by decide, by decide, by decide⟩, ⟨hu 0 (by decide), hu 1 (by decide), hu 2 (by decide), hu 3 (by decide), hu 4 (by decide), hu 5 (by decide), hu 6 (by decide), hy⟩, ⟨hw 0 (by decide), hw 1 (by decide), hw 2 (by decide), hw 48 (by decide), hw 61 (by decide), hw 92 (by decide), hw 129 (by decide)⟩, ⟨fun b c hb => absurd hb (Nat.not_lt_zero b), fun b hb => absurd hb (Nat.not_lt_zero b), fun i hi => absurd hi (Nat.not_lt_zero i)⟩, fun j hj => ⟨by rw [hv j hj, hw _ (by omega)], 0, by decide, hv j hj⟩, fun i hi => absurd hi (Nat.not_lt_zero i), fun r hr => absurd hr (Nat.not_lt_zero r), fun r c hr => absurd hr (Nat.not_lt_zero r), fun r hr => absurd hr (Nat.not_lt_zero r), fun r hr => absurd hr (Nat.not_lt_zero r)⟩
theorem st_town {μ ν : xM} (h : xRel μ ν) : ∃ (r : Int32) (μ2 ν2 : xM), (fH_town  μ = some (r, μ2)) ∧ (fM_town  ν = some (r, ν2)) ∧ xRel μ2 ν2 := by
  unfold fH_town fM_town
  obtain ⟨n, k, y, hh, a, q, u, B, U, W, hC, hW, hI, hH, hN, hM, hP⟩ := rel_op h
  obtain ⟨b1, b2, b3, b4, b5, b6, b7⟩ := id B
  obtain ⟨u0, u1, u2, u3, u4, u5, u6, uy⟩ := U
  obtain ⟨w0, w1, w2, w3, w4, w5, w6⟩ := W
  obtain ⟨m1, g1, g2, g3, g4, g5, g6⟩ := W_emp (t := 0) (m := μ) (by decide)
  refine ⟨nI n, m1, xzr ν 0 426, ?_, ?_, ?_⟩
  · unfold fB_many
    rw [B_many, bnd, bnd, g1, bnd, ← u0]
    rfl
  · show xck 1752 0 ((fM_empties (nI 0) ν).bind _) = _
    rw [xk0, M_emp (by decide), bnd, xl0, w0]
  · refine rel_cl h ⟨fun j i k => ?_, g6⟩ ⟨fun j i k => ?_, rfl, rfl⟩ (rT_emp (fun j hj => ?_) g3 g4 (fun i hi => xzr_in (by omega) (by omega)))
    · unfold kH at k
      exact g5 j i (by omega) (by omega) (by omega)
    · unfold kM at k
      by_cases j0 : j = 0
      · subst j0
        exact xzr_hi (by omega)
      · exact xzr_nb j0
    · have e := g2 j hj
      rw [show 7 * 0 + j = j by omega] at e
      exact e
