/-! STEPS: best, in both -/
theorem mnQ_cg {Q Q' : Nat → Nat → Nat} {sh : Nat → Nat} : ∀ j, (∀ i, i < j → Q i (sh i) = Q' i (sh i)) → mnQ Q sh j = mnQ Q' sh j
  | 0, _ => rfl
  | j + 1, h => by
    have ih := mnQ_cg (Q := Q) (Q' := Q') (sh := sh) j (fun i hi => h i (by omega))
    show min (mnQ Q sh j) (Q j (sh j)) = min (mnQ Q' sh j) (Q' j (sh j))
    rw [ih, h j (by omega)]
theorem best_N {μ ν : xM} {n k y hh a q u s : Nat} {v2 : Int32} (hs : s < 4) (hk0 : 0 < k) (H : rT n k y hh a q u μ.1 (μ.1 36) (μ.1 37 0) (ν.1 0)) (hv : v2 = -1 ∨ ∃ wb, wb < n ∧ v2 = nI wb) : ∃ r μ2 ν2, fH_best_b33 (nI s) v2 μ = some (r, μ2) ∧ fM_best_b27 (nI s) v2 ν = some (r, ν2) ∧ scH μ μ2 ∧ scM ν ν2 := by
  obtain ⟨B, U, W, hC, hW, hI, hH, hN, hM, hP⟩ := id H
  obtain ⟨b1, b2, b3, b4, b5, b6, b7⟩ := id B
  obtain ⟨u0, u1, u2, u3, u4, u5, u6, uy⟩ := U
  obtain ⟨w0, w1, w2, w3, w4, w5, w6⟩ := W
  have h64 := pow64 b1
  have hE := bE_0 b1 b2 u0 w0 hC
  obtain ⟨F, hF⟩ : ∃ F, F = maskN n (fun b => μ.1 0 (b * 6 + 5) == -1) := ⟨_, rfl⟩
  have hFn : F < 2 ^ n := by rw [hF]; exact maskN_lt _ _
  have p6 := pcN_6 F (by omega)
  have c0 : cf F n 0 = pcN F := cf_0 b1 hFn
  have sh64 : ∀ c i, shC (k + 1) F n c i < 64 := fun c i => shC_64
  have shF : ∀ c i, sb (shC (k + 1) F n c i) F := fun c i => (sb_ho (sh64 c i) (by omega)).mpr (fun j hj z => by
    rw [shC_h hj, Bool.and_eq_true] at z
    exact z.1)
  have Qe : ∀ i x, i < k → x < 64 → sb x F → QN μ s i x ≤ 1001 ∧ (pcN x + cntB n (fun b => μ.1 0 (b * 6 + 5) == nI i) ≤ 4 ↔ 0 < QN μ s i x) := fun i x hi hx sx => by
    have l := sb_le hx (by omega) sx
    obtain ⟨z1, z2, z3⟩ := QN_eq (g := x) hi hs (by omega) (by rw [← hF]; exact sx) H
    exact ⟨z1, z3⟩
  have hV0 : 0 < vqC μ s k F n 0 := (mnQ_i (Q := fun i x => QN μ s i x) (sh := shC (k + 1) F n 0) (v := 1) k).mpr ⟨by decide, fun i hi => by
    have e : shC (k + 1) F n 0 i = 0 := mask_ext shC_64 (by decide) (fun j hj => by
      rw [shC_h hj]
      have : dig (k + 1) F n 0 j = 0 := by
        unfold dig
        rw [Nat.zero_div, Nat.zero_mod]
      rw [this, beq_false_of_ne (show 0 ≠ i + 1 by omega), Bool.and_false]
      exact (hoB_0 j hj).symm)
    have le4 := hC.2.2 i hi
    have := (Qe i _ hi (sh64 0 i) (shF 0 i)).2.mp (by rw [e]; show 0 + _ ≤ 4; rw [Nat.zero_add]; exact le4)
    exact this⟩
  have cod : (k + 1) ^ pcN F ≤ 5 ^ 6 := Nat.le_trans (Nat.pow_le_pow_left (by omega) _) (Nat.pow_le_pow_right (by decide) p6)
  have cod' : (5 : Nat) ^ 6 = 15625 := by decide
  have cod0 : 0 < (k + 1) ^ pcN F := Nat.pow_pos (by omega)
  obtain ⟨mst, ν', g1, g2, g3, g4⟩ := M_b83 (v2 := v2) (cod := (k + 1) ^ pcN F) hs hk0 (by omega) hF hV0 xfu 0 0 ν (by omega) (by show (k + 1) ^ pcN F < 0 + 100000; omega) (Or.inl ⟨rfl, rfl⟩) (by decide) H
  rcases g2 with ⟨z1, -⟩ | ⟨cs, s1, s2, s3, s4, s5⟩
  · omega
  have hm1 : 1 ≤ mst := by
    have := s3 0 cod0
    omega
  have vq : ∀ c, mnQ (fun i x => min (QN μ s i x) 1001) (shC (k + 1) F n c) k = vqC μ s k F n c := fun c => mnQ_cg k (fun i hi => Nat.min_eq_left (Qe i _ hi (sh64 c i) (shF c i)).1)
  have hf : fstC (fun i x => min (QN μ s i x) 1001) k F n cs mst := ⟨by rw [c0]; exact s1, by rw [vq]; exact s2, fun c hc => by rw [vq]; exact s3 c (by rw [← c0]; exact hc), fun c hc => by rw [vq]; exact s4 c hc⟩
  have hQ : ∀ i x, min (QN μ s i x) 1001 ≤ 1001 := fun i x => Nat.min_le_right _ _
  obtain ⟨m, l1, l2, l3, l4, l5⟩ := K_listen hs H hF
  have O : mkO (fun i x => min (QN μ s i x) 1001) (gvC (k + 1) F n 0 cs) k F m := ⟨l3, l4, fun i hi => by rw [gvC_0]; exact (l5 i hi).1, fun i hi x hx z => by
    show m.1 31 (i * 64 + x) = zI (min (QN μ s i x) 1001)
    rw [Nat.min_eq_left (Qe i x hi hx z).1]
    exact (l5 i hi).2 x (sb_le hx (by omega) z) z⟩
  obtain ⟨m1, r1, r2, r3, r4⟩ := most_0 b2 b1 hFn hQ hf hm1 g4 O
  have F1 : scH μ m1 := scH_trans l2 ⟨fun j x z => by unfold sH at z; exact r3 j x (by omega), by rw [r4], by rw [r4]⟩
  have Mb : fM_best_b27 (nI s) v2 ν = (if v2 = -1 then some (zI mst, ν') else xck 6 v2 (some (ν'.1 4 v2.toNatClampNeg, ν'))) := by
    unfold fM_best_b27
    have f49 := M_b49 (v1 := nI s) (v2 := v2) b2 (by omega : F < 64) rfl w1 xfu 0 (by omega) (by show pcN F < 0 + 100000; omega)
    have fr : fM_freeOnes ν = some (nI F) := by rw [hF]; exact free_both hE
    rw [xk1, xl1, w1, if_neg (nI_ne0 hk0 (by omega)), fr, bnd]
    exact f49.trans g1
  have Hb : fT_many 3 μ = some (nI k) := by rw [T_many, u3]
  unfold fH_best_b33 fH_best_b80
  rw [Hb, bnd, if_neg (nI_ne0 hk0 (by omega)), Mb, l1, bnd, l4]
  rcases hv with rfl | ⟨wb, hwb, rfl⟩
  · rw [if_pos rfl, if_pos rfl, if_pos rfl, r1, bnd]
    exact ⟨_, _, _, rfl, rfl, F1, g3⟩
  · have ne : ¬ nI wb = -1 := fun z => nI_m1 (by omega) z.symm
    have fr : fB_isFree 0 μ (nI wb) = some (if μ.1 0 (wb * 6 + 5) = -1 then 1 else 0) := by
      unfold fB_isFree
      rw [B_get (β := 0) (b := wb) (c := 5) (v2 := 5) (by decide) rfl rfl (by decide) (by omega), bnd, xnb_1, xnb_0]
      by_cases c : μ.1 0 (wb * 6 + 5) = -1
      · rw [if_pos c]; exact if_pos c
      · rw [if_neg c]; exact if_neg c
    have hoF : hoB (nI F) wb = true ↔ μ.1 0 (wb * 6 + 5) = -1 := by
      rw [hF, hoB_mask b1 wb hwb]
      exact beq_iff_eq
    have mres : ν'.1 4 wb = inC (k + 1) F n cs μ wb := s5 wb hwb
    rw [if_neg ne, if_neg ne, if_neg ne, fr, bnd, xck_nI (by omega) (by decide), nI_clamp (by omega), mres]
    unfold inC
    by_cases c : μ.1 0 (wb * 6 + 5) = -1
    · have hw := hoF.mpr c
      rw [if_pos c, xi1, if_pos hw]
      have pl : ∃ m2, fK_placeOf (nI wb) m = some (zI (dig (k + 1) F n cs wb), m2) ∧ scH μ m2 := by
        obtain ⟨m2, t1, t2, t3⟩ := K_l20 (wb := wb) b2 b1 hFn hQ hf hm1 g4 hwb hw xfu 0 (-1) m1 (by omega) (by show wb + 1 < 0 + 100000; omega) (fun z => absurd z (by omega)) r2
        refine ⟨m2, ?_, scH_trans F1 ⟨fun j x z => by unfold sH at z; exact t2 j x (by omega) (by omega), by rw [t3], by rw [t3]⟩⟩
        unfold fK_placeOf
        rw [l4, r1, bnd]
        rw [opC_0 (by omega)] at t1
        show fK_placeOf_l20 xfu (nI wb) (zI mst) (m1.1 39 1) (-1) 0 m1 = _
        rw [r2.2.1]
        exact t1
      obtain ⟨m2, t1, t2⟩ := pl
      rw [t1]
      exact ⟨_, _, _, rfl, rfl, t2, g3⟩
    · rw [if_neg c, xi0, if_neg (fun z => c (hoF.mp z))]
      unfold fB_cell
      rw [B_get (β := 0) (b := wb) (c := 5) (v2 := 5) (by decide) rfl rfl (by decide) (by omega)]
      exact ⟨_, _, _, rfl, rfl, scH_refl, g3⟩
theorem st_best {μ ν : xM} (h : xRel μ ν) (v1 : Int32) (v2 : Int32) : ∃ (r : Int32) (μ2 ν2 : xM), (fH_best v1 v2 μ = some (r, μ2)) ∧ (fM_best v1 v2 ν = some (r, ν2)) ∧ xRel μ2 ν2 := by
  unfold fH_best fM_best
  obtain ⟨n, k, y, hh, a, q, u, H⟩ := rel_op h
  obtain ⟨B, U, W, hC, -⟩ := id H
  rw [xsgb, xsmb]
  by_cases c1 : 0 ≤ v1 ∧ v1 ≤ 3
  · rw [if_pos c1, if_pos c1]
    obtain ⟨s, hs, rfl⟩ := nI_of2 (M := 3) (n := 3) rfl (Int32.not_lt.mpr c1.1) c1.2
    have main : (v2 = -1 ∨ ∃ wb, wb < n ∧ v2 = nI wb) → ∃ r μ2 ν2, fH_best_b33 (nI s) v2 μ = some (r, μ2) ∧ fM_best_b27 (nI s) v2 ν = some (r, ν2) ∧ xRel μ2 ν2 := fun hv => by
      by_cases hk : k = 0
      · subst hk
        refine ⟨-1, μ, ν, ?_, ?_, h⟩
        · unfold fH_best_b33
          rw [T_many, bnd, U.2.2.2.1, if_pos (show nI 0 = 0 from rfl)]
        · unfold fM_best_b27
          rw [xk1, xl1, W.2.1, if_pos (show nI 0 = 0 from rfl)]
      · obtain ⟨r, μ2, ν2, q1, q2, q3, q4⟩ := best_N (s := s) (by omega) (by omega) H hv
        exact ⟨r, μ2, ν2, q1, q2, rel_sc h q3 q4⟩
    by_cases c2 : v2 = -1
    · rw [if_pos c2, if_pos c2]
      exact main (Or.inl c2)
    · rw [if_neg c2, if_neg c2]
      rcases xbd B.1 U.1 W.1 v2 with ⟨b, hb, eb, e1, e2⟩ | ⟨e1, e2⟩
      · rw [e1, e2, bnd, bnd, xi1, xi1]
        exact main (Or.inr ⟨b, hb, eb⟩)
      · rw [e1, e2, bnd, bnd, xi0, xi0]
        exact ⟨-10, _, _, rfl, rfl, rel_bad h⟩
  · rw [if_neg c1, if_neg c1]
    exact ⟨-10, _, _, rfl, rfl, rel_bad h⟩
