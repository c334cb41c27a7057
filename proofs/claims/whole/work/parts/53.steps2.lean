/-! STEPS: calls that change the town -/
/-- the places that no call on the town that stands may touch -/
def kH (j i : Nat) : Prop := (7 ≤ j ∧ j < 21) ∨ j = 29 ∨ (j = 36 ∧ 7 ≤ i ∧ i < 21) ∨ (j = 36 ∧ i = 29) ∨ (j = 37 ∧ 1 ≤ i ∧ i < 3) ∨ j = 38
def kM (j i : Nat) : Prop := (j = 0 ∧ 426 ≤ i ∧ i < 1278) ∨ j = 1 ∨ j = 2 ∨ j = 3 ∨ (j = 6 ∧ i = 0)
def frH (m m' : xM) : Prop := (∀ j i, kH j i → m'.1 j i = m.1 j i) ∧ m'.2 = m.2
def frM (m m' : xM) : Prop := (∀ j i, kM j i → m'.1 j i = m.1 j i) ∧ m'.2 0 = m.2 0 ∧ m'.2 1 = m.2 1
theorem frH_refl {m : xM} : frH m m := ⟨fun _ _ _ => rfl, rfl⟩
theorem frM_refl {m : xM} : frM m m := ⟨fun _ _ _ => rfl, rfl, rfl⟩
theorem frH_trans {a b c : xM} (h : frH a b) (g : frH b c) : frH a c := ⟨fun j i k => (g.1 j i k).trans (h.1 j i k), g.2.trans h.2⟩
theorem frM_trans {a b c : xM} (h : frM a b) (g : frM b c) : frM a c := ⟨fun j i k => (g.1 j i k).trans (h.1 j i k), g.2.1.trans h.2.1, g.2.2.trans h.2.2⟩
theorem frH_set {m m' : xM} {a i : Nat} {v : Int32} (hk : ¬ kH a i) (h : frH m m') : frH m (xset m' a i v) := by
  refine ⟨fun j x k => ?_, h.2⟩
  rw [xset_at, if_neg (fun z => hk (by rw [← z.1, ← z.2]; exact k))]
  exact h.1 j x k
theorem frM_set {m m' : xM} {a i : Nat} {v : Int32} (hk : ¬ kM a i) (h : frM m m') : frM m (xset m' a i v) := by
  refine ⟨fun j x k => ?_, h.2⟩
  rw [xset_at, if_neg (fun z => hk (by rw [← z.1, ← z.2]; exact k))]
  exact h.1 j x k
theorem rRest_fr {μ μ' ν ν' : xM} (h : rRest μ ν) (F : frH μ μ') (G : frM ν ν') : rRest μ' ν' :=
  rRest_congr (μ := μ) (μ' := μ') (ν := ν) (ν' := ν') (fun j i h1 h2 => (F.1 j i (by unfold kH; omega)).symm) (fun j h1 h2 => (F.1 36 j (by unfold kH; omega)).symm) (fun t h1 h2 => (F.1 37 t (by unfold kH; omega)).symm) (fun i h1 h2 => (G.1 0 i (by unfold kM; omega)).symm) ⟨by funext i; exact (F.1 29 i (by unfold kH; omega)).symm, (F.1 36 29 (by unfold kH; omega)).symm⟩ (by funext i; exact (F.1 38 i (by unfold kH; omega)).symm) ⟨by rw [F.2], by rw [F.2]⟩ (by funext i; exact (G.1 1 i (by unfold kM; omega)).symm) (by funext i; exact (G.1 2 i (by unfold kM; omega)).symm) (by funext i; exact (G.1 3 i (by unfold kM; omega)).symm) (G.1 6 0 (by unfold kM; omega)).symm ⟨G.2.1.symm, G.2.2.symm⟩ h
theorem vw_0 {m : xM} : vw m 0 = m.1 := by funext j i; show m.1 (7 * 0 + j) i = _; rw [Nat.mul_zero, Nat.zero_add]
theorem uw_0 {m : xM} : uw m 0 = m.1 36 := by funext j; show m.1 36 (7 * 0 + j) = _; rw [Nat.mul_zero, Nat.zero_add]
theorem rw_0 {m : xM} : rw' m 0 = m.1 0 := by funext i; show m.1 0 (0 + i) = _; rw [Nat.zero_add]
theorem rel_op {μ ν : xM} (h : xRel μ ν) : ∃ n k y h a q u, rT n k y h a q u μ.1 (μ.1 36) (μ.1 37 0) (ν.1 0) := by
  obtain ⟨n, k, y, h, a, q, u, H⟩ := h.1
  rw [vw_0, uw_0, rw_0] at H
  exact ⟨n, k, y, h, a, q, u, H⟩
theorem rel_cl {μ ν μ' ν' : xM} (h : xRel μ ν) {n k y hh a q u : Nat} (F : frH μ μ') (G : frM ν ν') (H : rT n k y hh a q u μ'.1 (μ'.1 36) (μ'.1 37 0) (ν'.1 0)) : xRel μ' ν' := by
  refine ⟨⟨n, k, y, hh, a, q, u, ?_⟩, rRest_fr h.2 F G⟩
  rw [vw_0, uw_0, rw_0]
  exact H
theorem xck_nI {n k : Nat} {ρ : Type} {F : Option ρ} (h : k < n) (hn : n < 2 ^ 31) : xck n (nI k) F = F := xck_in rfl h hn
theorem st_wet {μ ν : xM} (h : xRel μ ν) (v1 : Int32) (v2 : Int32) : ∃ (r : Int32) (μ2 ν2 : xM), (fH_wet v1 v2 μ = some (r, μ2)) ∧ (fM_wet v1 v2 ν = some (r, ν2)) ∧ xRel μ2 ν2 := by
  unfold fH_wet fM_wet
  rw [xwb, xib2 (y := 0) (z := 4) (a := 0) (b := 4) rfl rfl]
  by_cases c1 : 0 ≤ v1 ∧ v1 ≤ 4
  · rw [if_pos c1, if_pos c1, xwb, xib2 (y := 0) (z := 4) (a := 0) (b := 4) rfl rfl]
    by_cases c2 : 0 ≤ v2 ∧ v2 ≤ 4
    · rw [if_pos c2, if_pos c2]
      obtain ⟨j, hj, rfl⟩ := nI_of2 (M := 4) (n := 4) rfl (Int32.not_lt.mpr c1.1) c1.2
      obtain ⟨x, hx, rfl⟩ := nI_of2 (M := 4) (n := 4) rfl (Int32.not_lt.mpr c2.1) c2.2
      obtain ⟨n, k, y, hh, a, q, u, B, U, W, hC, hW, hI, hH, hN, hM, hP⟩ := rel_op h
      obtain ⟨b1, b2, b3, b4, b5, b6, b7⟩ := id B
      obtain ⟨u0, u1, u2, u3, u4, u5, u6, uy⟩ := U
      obtain ⟨w0, w1, w2, w3, w4, w5, w6⟩ := W
      have e3 : (3 : Int32) + nI j = nI (3 + j) := nI_add 3 j
      have ej : j * wN 2 + 0 = j := by show j * 1 + 0 = j; omega
      rw [T_get (t := 2) (r := j) (c := 0) (v1 := nI j) (v2 := 0) (by decide) rfl rfl (by decide) (by show j < 5; omega), e3, xck_in rfl (by omega) (by decide), xck_in rfl (by omega) (by decide), nI_clamp (by omega)]
      refine ⟨μ.1 2 j, xset (xset μ 2 j (nI x)) 36 1 0, xset (xset ν 0 (3 + j) (nI x)) 0 129 0, ?_, ?_, ?_⟩
      · show (fT_put 2 (nI j) 0 (nI x) μ).bind _ = _
        rw [T_put (t := 2) (r := j) (c := 0) (v1 := nI j) (v2 := 0) (by decide) rfl rfl (by decide) (by show j < 5; omega), ej]
        rfl
      · rw [(hW j (by omega)).1]
        rfl
      · refine rel_cl h (frH_set (by unfold kH; omega) (frH_set (by unfold kH; omega) frH_refl)) (frM_set (by unfold kM; omega) (frM_set (by unfold kM; omega) frM_refl)) (n := n) (k := k) (y := y) (hh := hh) (a := a) (q := q) (u := 0) ⟨⟨b1, b2, b3, b4, b5, b6, by decide⟩, ⟨by simp (disch := omega) only [xset_ne, xset_nj, xset_eq, Nat.add_zero]; exact u0, by simp (disch := omega) only [xset_ne, xset_nj, xset_eq, Nat.add_zero]; rfl, by simp (disch := omega) only [xset_ne, xset_nj, xset_eq, Nat.add_zero]; exact u2, by simp (disch := omega) only [xset_ne, xset_nj, xset_eq, Nat.add_zero]; exact u3, by simp (disch := omega) only [xset_ne, xset_nj, xset_eq, Nat.add_zero]; exact u4, by simp (disch := omega) only [xset_ne, xset_nj, xset_eq, Nat.add_zero]; exact u5, by simp (disch := omega) only [xset_ne, xset_nj, xset_eq, Nat.add_zero]; exact u6, by simp (disch := omega) only [xset_ne, xset_nj, xset_eq, Nat.add_zero]; exact uy⟩, ⟨by simp (disch := omega) only [xset_ne, xset_nj, xset_eq, Nat.add_zero]; exact w0, by simp (disch := omega) only [xset_ne, xset_nj, xset_eq, Nat.add_zero]; exact w1, by simp (disch := omega) only [xset_ne, xset_nj, xset_eq, Nat.add_zero]; exact w2, by simp (disch := omega) only [xset_ne, xset_nj, xset_eq, Nat.add_zero]; exact w3, by simp (disch := omega) only [xset_ne, xset_nj, xset_eq, Nat.add_zero]; exact w4, by simp (disch := omega) only [xset_ne, xset_nj, xset_eq, Nat.add_zero]; exact w5, by simp (disch := omega) only [xset_ne, xset_nj, xset_eq, Nat.add_zero]; rfl⟩, pC_congr b1 (fun i hi => by simp (disch := omega) only [xset_ne, xset_nj, xset_eq, Nat.add_zero]) (fun i h1 h2 => by simp (disch := omega) only [xset_ne, xset_nj, xset_eq, Nat.add_zero]) hC, ?_, pI_congr b2 (fun i hi => by simp (disch := omega) only [xset_ne, xset_nj, xset_eq, Nat.add_zero]) (fun i h1 h2 => by simp (disch := omega) only [xset_ne, xset_nj, xset_eq, Nat.add_zero]) hI, pH_congr b4 (fun i hi => by simp (disch := omega) only [xset_ne, xset_nj, xset_eq, Nat.add_zero]) (fun i h1 h2 => by simp (disch := omega) only [xset_ne, xset_nj, xset_eq, Nat.add_zero]) hH, pN_congr b5 (fun i hi => by simp (disch := omega) only [xset_ne, xset_nj, xset_eq, Nat.add_zero]) (fun i h1 h2 => by simp (disch := omega) only [xset_ne, xset_nj, xset_eq, Nat.add_zero]) hN, pM_congr b6 (fun i hi => by simp (disch := omega) only [xset_ne, xset_nj, xset_eq, Nat.add_zero]) (fun i h1 h2 => by simp (disch := omega) only [xset_ne, xset_nj, xset_eq, Nat.add_zero]) hM, fun r hr => absurd hr (Nat.not_lt_zero r)⟩
        intro i hi
        by_cases hij : i = j
        · subst hij
          simp (disch := omega) only [xset_ne, xset_nj, xset_eq, Nat.add_zero]
          exact ⟨trivial, x, hx, rfl⟩
        · simp (disch := omega) only [xset_ne, xset_nj, xset_eq, Nat.add_zero]
          exact hW i hi
    · rw [if_neg c2, if_neg c2]
      exact ⟨-2, _, _, rfl, rfl, rel_bad h⟩
  · rw [if_neg c1, if_neg c1]
    exact ⟨-2, _, _, rfl, rfl, rel_bad h⟩
/-- a number of a board, in both -/
theorem xbd {μ ν : xM} {n : Nat} (hn : n ≤ 6) (u0 : μ.1 36 0 = nI n) (w0 : ν.1 0 0 = nI n) (v : Int32) : (∃ b, b < n ∧ v = nI b ∧ fB_has 0 μ v = some 1 ∧ fM_isBoard ν v = some 1) ∨ (fB_has 0 μ v = some 0 ∧ fM_isBoard ν v = some 0) := by
  unfold fB_has fM_isBoard
  rw [xck_in (v := 0) (k := 0) rfl (by decide) (by decide), show (0 : Int32).toNatClampNeg = 0 from rfl, w0, fM_in_i (v := v) (y := 0) (z := (nI n - 1).toInt64) (a := 0) (b := nI n - 1) rfl rfl]
  show (∃ b, b < n ∧ v = nI b ∧ (if v < 0 then some (xnb 0) else if μ.1 36 0 ≤ v then some (xnb 0) else some (xnb 1)) = some 1 ∧ some (xnb (if 0 ≤ v ∧ v ≤ nI n - 1 then (1 : Int32) else 0)) = some 1) ∨ ((if v < 0 then some (xnb 0) else if μ.1 36 0 ≤ v then some (xnb 0) else some (xnb 1)) = some 0 ∧ some (xnb (if 0 ≤ v ∧ v ≤ nI n - 1 then (1 : Int32) else 0)) = some 0)
  rw [u0, xnb_0, xnb_1, xnb_ite]
  by_cases h1 : v < 0
  · refine Or.inr ⟨if_pos h1, ?_⟩
    rw [if_neg (fun z => absurd h1 (Int32.not_lt.mpr z.1))]
  · rw [if_neg h1]
    obtain ⟨b, hb⟩ := nI_of h1
    obtain ⟨hb, rfl⟩ := hb
    by_cases h2 : b < n
    · refine Or.inl ⟨b, h2, rfl, ?_, ?_⟩
      · rw [if_neg (nI_ge h2 (by omega))]
      · have hle : nI b ≤ nI n - 1 := by
          obtain ⟨c, rfl⟩ : ∃ c, n = c + 1 := ⟨n - 1, by omega⟩
          rw [← nI_1, Int32.add_sub_cancel]
          exact nI_le (by omega) (by omega)
        rw [if_pos ⟨Int32.not_lt.mp h1, hle⟩]
    · refine Or.inr ⟨if_pos (nI_le (by omega) (by omega)), ?_⟩
      rw [if_neg]
      intro z
      rcases (show n = 0 ∨ 0 < n by omega) with rfl | hp
      · exact absurd (Int32.le_trans z.1 z.2) (by decide)
      · obtain ⟨c, rfl⟩ : ∃ c, n = c + 1 := ⟨n - 1, by omega⟩
        have := z.2
        rw [← nI_1, Int32.add_sub_cancel] at this
        exact absurd this (nI_ge (by omega) (by omega))
/-- a number of an instrument, in both -/
theorem xin {μ ν : xM} {n : Nat} (hn : n ≤ 6) (u0 : μ.1 36 3 = nI n) (w0 : ν.1 0 1 = nI n) (v : Int32) : (∃ b, b < n ∧ v = nI b ∧ fW_hasInstrument 0 μ v = some 1 ∧ fM_isInstrument ν v = some 1) ∨ (fW_hasInstrument 0 μ v = some 0 ∧ fM_isInstrument ν v = some 0) := by
  unfold fW_hasInstrument fM_isInstrument
  rw [xck_in (v := 1) (k := 1) rfl (by decide) (by decide), show (1 : Int32).toNatClampNeg = 1 from rfl, w0, fM_in_i (v := v) (y := 0) (z := (nI n - 1).toInt64) (a := 0) (b := nI n - 1) rfl rfl]
  show (∃ b, b < n ∧ v = nI b ∧ (if v < 0 then some (xnb 0) else if μ.1 36 3 ≤ v then some (xnb 0) else some (xnb 1)) = some 1 ∧ some (xnb (if 0 ≤ v ∧ v ≤ nI n - 1 then (1 : Int32) else 0)) = some 1) ∨ ((if v < 0 then some (xnb 0) else if μ.1 36 3 ≤ v then some (xnb 0) else some (xnb 1)) = some 0 ∧ some (xnb (if 0 ≤ v ∧ v ≤ nI n - 1 then (1 : Int32) else 0)) = some 0)
  rw [u0, xnb_0, xnb_1, xnb_ite]
  by_cases h1 : v < 0
  · refine Or.inr ⟨if_pos h1, ?_⟩
    rw [if_neg (fun z => absurd h1 (Int32.not_lt.mpr z.1))]
  · rw [if_neg h1]
    obtain ⟨b, hb⟩ := nI_of h1
    obtain ⟨hb, rfl⟩ := hb
    by_cases h2 : b < n
    · refine Or.inl ⟨b, h2, rfl, ?_, ?_⟩
      · rw [if_neg (nI_ge h2 (by omega))]
      · have hle : nI b ≤ nI n - 1 := by
          obtain ⟨c, rfl⟩ : ∃ c, n = c + 1 := ⟨n - 1, by omega⟩
          rw [← nI_1, Int32.add_sub_cancel]
          exact nI_le (by omega) (by omega)
        rw [if_pos ⟨Int32.not_lt.mp h1, hle⟩]
    · refine Or.inr ⟨if_pos (nI_le (by omega) (by omega)), ?_⟩
      rw [if_neg]
      intro z
      rcases (show n = 0 ∨ 0 < n by omega) with rfl | hp
      · exact absurd (Int32.le_trans z.1 z.2) (by decide)
      · obtain ⟨c, rfl⟩ : ∃ c, n = c + 1 := ⟨n - 1, by omega⟩
        have := z.2
        rw [← nI_1, Int32.add_sub_cancel] at this
        exact absurd this (nI_ge (by omega) (by omega))
section XIG
variable {ρ : Type}
theorem xkdb {v : Int32} {A B : Option ρ} : ((fH_isKind v).bind fun r => if r = 0 then A else B) = if 0 ≤ v ∧ v ≤ 5 then B else A := by
  rw [xkd]
  exact xib
theorem xsgb {v : Int32} {A B : Option ρ} : ((fH_isString v).bind fun r => if r = 0 then A else B) = if 0 ≤ v ∧ v ≤ 3 then B else A := by
  rw [xsg]
  exact xib
theorem xsmb {v : Int32} {A B : Option ρ} : ((fM_isString v).bind fun r => if r = 0 then A else B) = if 0 ≤ v ∧ v ≤ 3 then B else A := by
  rw [xsm]
  exact xib
theorem bnd {α β : Type} {a : α} {f : α → Option β} : (some a).bind f = f a := rfl
end XIG
theorem st_forget {μ ν : xM} (h : xRel μ ν) (v1 : Int32) : ∃ (r : Int32) (μ2 ν2 : xM), (fH_forget v1 μ = some (r, μ2)) ∧ (fM_forget v1 ν = some (r, ν2)) ∧ xRel μ2 ν2 := by
  unfold fH_forget fM_forget
  rw [xwb, xib2 (y := 0) (z := 2) (a := 0) (b := 2) rfl rfl]
  by_cases c1 : 0 ≤ v1 ∧ v1 ≤ 2
  · rw [if_pos c1, if_pos c1]
    obtain ⟨n, k, y, hh, a, q, u, B, U, W, hC, hW, hI, hH, hN, hM, hP⟩ := rel_op h
    obtain ⟨b1, b2, b3, b4, b5, b6, b7⟩ := id B
    obtain ⟨u0, u1, u2, u3, u4, u5, u6, uy⟩ := U
    obtain ⟨w0, w1, w2, w3, w4, w5, w6⟩ := W
    by_cases e0 : v1 = 0
    · rw [if_pos e0, if_pos e0]
      refine ⟨nI hh, xset μ 36 4 0, xset ν 0 48 0, ?_, ?_, ?_⟩
      · rw [← u4]; rfl
      · rw [← w3]; rfl
      · exact rel_cl h (frH_set (by unfold kH; omega) frH_refl) (frM_set (by unfold kM; omega) frM_refl) (n := n) (k := k) (y := y) (hh := 0) (a := a) (q := q) (u := u) ⟨⟨b1, b2, b3, by decide, b5, b6, b7⟩, ⟨by simp (disch := omega) only [xset_ne, xset_nj, xset_eq, Nat.add_zero]; exact u0, by simp (disch := omega) only [xset_ne, xset_nj, xset_eq, Nat.add_zero]; exact u1, by simp (disch := omega) only [xset_ne, xset_nj, xset_eq, Nat.add_zero]; exact u2, by simp (disch := omega) only [xset_ne, xset_nj, xset_eq, Nat.add_zero]; exact u3, by simp (disch := omega) only [xset_ne, xset_nj, xset_eq, Nat.add_zero]; rfl, by simp (disch := omega) only [xset_ne, xset_nj, xset_eq, Nat.add_zero]; exact u5, by simp (disch := omega) only [xset_ne, xset_nj, xset_eq, Nat.add_zero]; exact u6, by simp (disch := omega) only [xset_ne, xset_nj, xset_eq, Nat.add_zero]; exact uy⟩, ⟨by simp (disch := omega) only [xset_ne, xset_nj, xset_eq, Nat.add_zero]; exact w0, by simp (disch := omega) only [xset_ne, xset_nj, xset_eq, Nat.add_zero]; exact w1, by simp (disch := omega) only [xset_ne, xset_nj, xset_eq, Nat.add_zero]; exact w2, by simp (disch := omega) only [xset_ne, xset_nj, xset_eq, Nat.add_zero]; rfl, by simp (disch := omega) only [xset_ne, xset_nj, xset_eq, Nat.add_zero]; exact w4, by simp (disch := omega) only [xset_ne, xset_nj, xset_eq, Nat.add_zero]; exact w5, by simp (disch := omega) only [xset_ne, xset_nj, xset_eq, Nat.add_zero]; exact w6⟩, pC_congr b1 (fun i hi => by simp (disch := omega) only [xset_ne, xset_nj, xset_eq, Nat.add_zero]) (fun i h1 h2 => by simp (disch := omega) only [xset_ne, xset_nj, xset_eq, Nat.add_zero]) hC, pW_congr (fun i hi => by simp (disch := omega) only [xset_ne, xset_nj, xset_eq, Nat.add_zero]) (fun i h1 h2 => by simp (disch := omega) only [xset_ne, xset_nj, xset_eq, Nat.add_zero]) hW, pI_congr b2 (fun i hi => by simp (disch := omega) only [xset_ne, xset_nj, xset_eq, Nat.add_zero]) (fun i h1 h2 => by simp (disch := omega) only [xset_ne, xset_nj, xset_eq, Nat.add_zero]) hI, fun r hr => absurd hr (Nat.not_lt_zero r), pN_congr b5 (fun i hi => by simp (disch := omega) only [xset_ne, xset_nj, xset_eq, Nat.add_zero]) (fun i h1 h2 => by simp (disch := omega) only [xset_ne, xset_nj, xset_eq, Nat.add_zero]) hN, pM_congr b6 (fun i hi => by simp (disch := omega) only [xset_ne, xset_nj, xset_eq, Nat.add_zero]) (fun i h1 h2 => by simp (disch := omega) only [xset_ne, xset_nj, xset_eq, Nat.add_zero]) hM, pP_congr b1 b7 (fun i hi => by simp (disch := omega) only [xset_ne, xset_nj, xset_eq, Nat.add_zero]) (fun i h1 h2 => by simp (disch := omega) only [xset_ne, xset_nj, xset_eq, Nat.add_zero]) hP⟩
    · rw [if_neg e0, if_neg e0]
      by_cases e1 : v1 = 1
      · rw [if_pos e1, if_pos e1]
        refine ⟨nI a, xset μ 36 5 0, xset ν 0 61 0, ?_, ?_, ?_⟩
        · rw [← u5]; rfl
        · rw [← w4]; rfl
        · exact rel_cl h (frH_set (by unfold kH; omega) frH_refl) (frM_set (by unfold kM; omega) frM_refl) (n := n) (k := k) (y := y) (hh := hh) (a := 0) (q := q) (u := u) ⟨⟨b1, b2, b3, b4, by decide, b6, b7⟩, ⟨by simp (disch := omega) only [xset_ne, xset_nj, xset_eq, Nat.add_zero]; exact u0, by simp (disch := omega) only [xset_ne, xset_nj, xset_eq, Nat.add_zero]; exact u1, by simp (disch := omega) only [xset_ne, xset_nj, xset_eq, Nat.add_zero]; exact u2, by simp (disch := omega) only [xset_ne, xset_nj, xset_eq, Nat.add_zero]; exact u3, by simp (disch := omega) only [xset_ne, xset_nj, xset_eq, Nat.add_zero]; exact u4, by simp (disch := omega) only [xset_ne, xset_nj, xset_eq, Nat.add_zero]; rfl, by simp (disch := omega) only [xset_ne, xset_nj, xset_eq, Nat.add_zero]; exact u6, by simp (disch := omega) only [xset_ne, xset_nj, xset_eq, Nat.add_zero]; exact uy⟩, ⟨by simp (disch := omega) only [xset_ne, xset_nj, xset_eq, Nat.add_zero]; exact w0, by simp (disch := omega) only [xset_ne, xset_nj, xset_eq, Nat.add_zero]; exact w1, by simp (disch := omega) only [xset_ne, xset_nj, xset_eq, Nat.add_zero]; exact w2, by simp (disch := omega) only [xset_ne, xset_nj, xset_eq, Nat.add_zero]; exact w3, by simp (disch := omega) only [xset_ne, xset_nj, xset_eq, Nat.add_zero]; rfl, by simp (disch := omega) only [xset_ne, xset_nj, xset_eq, Nat.add_zero]; exact w5, by simp (disch := omega) only [xset_ne, xset_nj, xset_eq, Nat.add_zero]; exact w6⟩, pC_congr b1 (fun i hi => by simp (disch := omega) only [xset_ne, xset_nj, xset_eq, Nat.add_zero]) (fun i h1 h2 => by simp (disch := omega) only [xset_ne, xset_nj, xset_eq, Nat.add_zero]) hC, pW_congr (fun i hi => by simp (disch := omega) only [xset_ne, xset_nj, xset_eq, Nat.add_zero]) (fun i h1 h2 => by simp (disch := omega) only [xset_ne, xset_nj, xset_eq, Nat.add_zero]) hW, pI_congr b2 (fun i hi => by simp (disch := omega) only [xset_ne, xset_nj, xset_eq, Nat.add_zero]) (fun i h1 h2 => by simp (disch := omega) only [xset_ne, xset_nj, xset_eq, Nat.add_zero]) hI, pH_congr b4 (fun i hi => by simp (disch := omega) only [xset_ne, xset_nj, xset_eq, Nat.add_zero]) (fun i h1 h2 => by simp (disch := omega) only [xset_ne, xset_nj, xset_eq, Nat.add_zero]) hH, fun r c hr => absurd hr (Nat.not_lt_zero r), pM_congr b6 (fun i hi => by simp (disch := omega) only [xset_ne, xset_nj, xset_eq, Nat.add_zero]) (fun i h1 h2 => by simp (disch := omega) only [xset_ne, xset_nj, xset_eq, Nat.add_zero]) hM, pP_congr b1 b7 (fun i hi => by simp (disch := omega) only [xset_ne, xset_nj, xset_eq, Nat.add_zero]) (fun i h1 h2 => by simp (disch := omega) only [xset_ne, xset_nj, xset_eq, Nat.add_zero]) hP⟩
      · rw [if_neg e1, if_neg e1]
        refine ⟨nI q, xset μ 36 6 0, xset ν 0 92 0, ?_, ?_, ?_⟩
        · rw [← u6]; rfl
        · rw [← w5]; rfl
        · exact rel_cl h (frH_set (by unfold kH; omega) frH_refl) (frM_set (by unfold kM; omega) frM_refl) (n := n) (k := k) (y := y) (hh := hh) (a := a) (q := 0) (u := u) ⟨⟨b1, b2, b3, b4, b5, by decide, b7⟩, ⟨by simp (disch := omega) only [xset_ne, xset_nj, xset_eq, Nat.add_zero]; exact u0, by simp (disch := omega) only [xset_ne, xset_nj, xset_eq, Nat.add_zero]; exact u1, by simp (disch := omega) only [xset_ne, xset_nj, xset_eq, Nat.add_zero]; exact u2, by simp (disch := omega) only [xset_ne, xset_nj, xset_eq, Nat.add_zero]; exact u3, by simp (disch := omega) only [xset_ne, xset_nj, xset_eq, Nat.add_zero]; exact u4, by simp (disch := omega) only [xset_ne, xset_nj, xset_eq, Nat.add_zero]; exact u5, by simp (disch := omega) only [xset_ne, xset_nj, xset_eq, Nat.add_zero]; rfl, by simp (disch := omega) only [xset_ne, xset_nj, xset_eq, Nat.add_zero]; exact uy⟩, ⟨by simp (disch := omega) only [xset_ne, xset_nj, xset_eq, Nat.add_zero]; exact w0, by simp (disch := omega) only [xset_ne, xset_nj, xset_eq, Nat.add_zero]; exact w1, by simp (disch := omega) only [xset_ne, xset_nj, xset_eq, Nat.add_zero]; exact w2, by simp (disch := omega) only [xset_ne, xset_nj, xset_eq, Nat.add_zero]; exact w3, by simp (disch := omega) only [xset_ne, xset_nj, xset_eq, Nat.add_zero]; exact w4, by simp (disch := omega) only [xset_ne, xset_nj, xset_eq, Nat.add_zero]; rfl, by simp (disch := omega) only [xset_ne, xset_nj, xset_eq, Nat.add_zero]; exact w6⟩, pC_congr b1 (fun i hi => by simp (disch := omega) only [xset_ne, xset_nj, xset_eq, Nat.add_zero]) (fun i h1 h2 => by simp (disch := omega) only [xset_ne, xset_nj, xset_eq, Nat.add_zero]) hC, pW_congr (fun i hi => by simp (disch := omega) only [xset_ne, xset_nj, xset_eq, Nat.add_zero]) (fun i h1 h2 => by simp (disch := omega) only [xset_ne, xset_nj, xset_eq, Nat.add_zero]) hW, pI_congr b2 (fun i hi => by simp (disch := omega) only [xset_ne, xset_nj, xset_eq, Nat.add_zero]) (fun i h1 h2 => by simp (disch := omega) only [xset_ne, xset_nj, xset_eq, Nat.add_zero]) hI, pH_congr b4 (fun i hi => by simp (disch := omega) only [xset_ne, xset_nj, xset_eq, Nat.add_zero]) (fun i h1 h2 => by simp (disch := omega) only [xset_ne, xset_nj, xset_eq, Nat.add_zero]) hH, pN_congr b5 (fun i hi => by simp (disch := omega) only [xset_ne, xset_nj, xset_eq, Nat.add_zero]) (fun i h1 h2 => by simp (disch := omega) only [xset_ne, xset_nj, xset_eq, Nat.add_zero]) hN, fun r hr => absurd hr (Nat.not_lt_zero r), pP_congr b1 b7 (fun i hi => by simp (disch := omega) only [xset_ne, xset_nj, xset_eq, Nat.add_zero]) (fun i h1 h2 => by simp (disch := omega) only [xset_ne, xset_nj, xset_eq, Nat.add_zero]) hP⟩
  · rw [if_neg c1, if_neg c1]
    exact ⟨-2, _, _, rfl, rfl, rel_bad h⟩
theorem st_of {μ ν : xM} (h : xRel μ ν) (v1 : Int32) (v2 : Int32) : ∃ (r : Int32) (μ2 ν2 : xM), (fH_of v1 v2 μ = some (r, μ2)) ∧ (fM_of v1 v2 ν = some (r, ν2)) ∧ xRel μ2 ν2 := by
  obtain ⟨n, k, y, hh, a, q, u, B, U, W, hC, hW, hI, hH, hN, hM, hP⟩ := rel_op h
  unfold fH_of fM_of
  rcases xbd B.1 U.1 W.1 v1 with ⟨b, hb, rfl, e1, e2⟩ | ⟨e1, e2⟩
  · rw [e1, e2, bnd, bnd, xi1, xi1, xwb, xib2 (y := 0) (z := 5) (a := 0) (b := 5) rfl rfl]
    by_cases c2 : 0 ≤ v2 ∧ v2 ≤ 5
    · rw [if_pos c2, if_pos c2]
      obtain ⟨c, hc, rfl⟩ := nI_of2 (M := 5) (n := 5) rfl (Int32.not_lt.mpr c2.1) c2.2
      have b1 := B.1
      refine ⟨μ.1 0 (b * 6 + c), μ, ν, ?_, ?_, h⟩
      · unfold fB_cell
        rw [B_get (β := 0) (b := b) (c := c) (by decide) rfl rfl (by omega) (by omega)]
        rfl
      · unfold fM_ofBoard
        have e : (8 : Int32) + 6 * nI c + nI b = nI (8 + 6 * c + b) := by rw [show (6 : Int32) = nI 6 from rfl, nI_mul, show (8 : Int32) = nI 8 from rfl, nI_add, nI_add]
        rw [e, xck_nI (by omega) (by decide), nI_clamp (by omega), hC.1 b c hb (by omega)]
        rfl
    · rw [if_neg c2, if_neg c2]
      exact ⟨-2, _, _, rfl, rfl, rel_bad h⟩
  · rw [e1, e2, bnd, bnd, xi0, xi0]
    exact ⟨-2, _, _, rfl, rfl, rel_bad h⟩
