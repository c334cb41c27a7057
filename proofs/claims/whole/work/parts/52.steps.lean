/-! STEPS: the plain calls -/
section XIF
variable {ρ : Type}
theorem xi1 {A B : ρ} : (if (1 : Int32) = 0 then A else B) = B := if_neg (by decide)
theorem xi0 {A B : ρ} : (if (0 : Int32) = 0 then A else B) = A := if_pos rfl
theorem xib {p : Prop} [Decidable p] {A B : ρ} : (if (if p then (1 : Int32) else 0) = 0 then A else B) = if p then B else A := by
  by_cases h : p
  · rw [if_pos h, if_pos h, xi1]
  · rw [if_neg h, if_neg h, xi0]
theorem xwb {v a b : Int32} {A B : Option ρ} : ((fH_within v a b).bind fun r => if r = 0 then A else B) = if a ≤ v ∧ v ≤ b then B else A := by
  rw [fH_within_eq]
  exact xib
theorem xib2 {v a b : Int32} {y z : Int64} (hy : y = a.toInt64) (hz : z = b.toInt64) {A B : Option ρ} : ((fM_in v.toInt64 y z).bind fun r => if r = 0 then A else B) = if a ≤ v ∧ v ≤ b then B else A := by
  rw [fM_in_i hy hz]
  exact xib
theorem xkd {v : Int32} : fH_isKind v = some (if 0 ≤ v ∧ v ≤ 5 then 1 else 0) := by
  unfold fH_isKind
  rw [fH_within_eq]
  exact congrArg some xnb_ite
theorem xsg {v : Int32} : fH_isString v = some (if 0 ≤ v ∧ v ≤ 3 then 1 else 0) := by
  unfold fH_isString
  rw [fH_within_eq]
  exact congrArg some xnb_ite
theorem xsm {v : Int32} : fM_isString v = some (if 0 ≤ v ∧ v ≤ 3 then 1 else 0) := by
  unfold fM_isString
  rw [fM_in_i (y := 0) (z := 3) (a := 0) (b := 3) rfl rfl]
  exact congrArg some xnb_ite
end XIF
theorem st_clear {μ ν : xM} (h : xRel μ ν) : ∃ (r : Int32) (μ2 ν2 : xM), (fH_clear μ = some (r, μ2)) ∧ (fM_clear ν = some (r, ν2)) ∧ xRel μ2 ν2 := by
  obtain ⟨h1, ⟨a1, a2, ⟨L, t1, t2, t3, t4⟩, f, s⟩⟩ := id h
  refine ⟨nI L, xset μ 36 29 0, xset ν 6 0 0, ?_, ?_, ?_⟩
  · show some (μ.1 36 29, _) = _
    rw [t2]
  · show some (ν.1 6 0, _) = _
    rw [t3]
  · have im : ∀ x, x < 2 → rIm μ ν x → rIm (xset μ 36 29 0) (xset ν 6 0 0) x := by
      intro x hx h
      unfold rIm
      rw [xset_ne (by decide), xset_ne (by decide)]
      rcases h with h | ⟨g1, g3, g4⟩
      · exact Or.inl h
      · exact Or.inr ⟨g1, g3, rTw_congr (fun j x hj => (xset_ne (by omega)).symm) (fun j hj => (xset_nj (by omega)).symm) (xset_ne (by decide)).symm (fun x hx => (xset_ne (by decide)).symm) g4⟩
    refine ⟨rTw_congr (fun j x hj => (xset_ne (by omega)).symm) (fun j hj => (xset_nj (by omega)).symm) (xset_ne (by decide)).symm (fun x hx => (xset_ne (by decide)).symm) h1, im 0 (by decide) a1, im 1 (by decide) a2, ⟨0, by decide, xset_eq, xset_eq, fun j hj => absurd hj (Nat.not_lt_zero j)⟩, f, s⟩
theorem st_type {μ ν : xM} (h : xRel μ ν) (v1 : Int32) : ∃ (r : Int32) (μ2 ν2 : xM), (fH_type v1 μ = some (r, μ2)) ∧ (fM_type v1 ν = some (r, ν2)) ∧ xRel μ2 ν2 := by
  obtain ⟨h1, ⟨a1, a2, ⟨L, t1, t2, t3, t4⟩, f, s⟩⟩ := id h
  unfold fH_type fM_type
  rw [xwb, xib2 (y := 0) (z := 127) (a := 0) (b := 127) rfl rfl]
  by_cases hc : 0 ≤ v1 ∧ v1 ≤ 127
  · rw [if_pos hc, if_pos hc, t3]
    by_cases hL : L = 150
    · subst hL
      rw [T_newRowF (by decide) (by rw [t2]; rfl)]
      exact ⟨-4, _, _, rfl, rfl, rel_full h⟩
    · have hne : ¬ nI L = 150 := fun e => hL ((nI_eq (a := L) (b := 150) (by omega) (by decide)).mp e)
      have hne1 : ¬ nI L = -1 := fun e => absurd (show nI L < 0 by rw [e]; decide) (nI_pos (by omega))
      obtain ⟨x, hx, rfl⟩ := nI_of2 (M := 127) (n := 127) rfl (Int32.not_lt.mpr hc.1) hc.2
      rw [T_newRow (t := 29) (u := L) (by decide) t2 (by show L < 150; omega), if_neg hne, xck_in rfl (by omega) (by decide), nI_clamp (by omega)]
      refine ⟨nI (L + 1), xset (xset μ 36 29 (nI (L + 1))) 29 L (nI x), xset (xset ν 2 L (nI x)) 6 0 (nI (L + 1)), ?_, ?_, ?_⟩
      · show (if nI L = -1 then _ else _) = _
        rw [if_neg hne1]
        show (fT_put 29 (nI L) 0 (nI x) (xset μ 36 29 (nI (L + 1)))).bind _ = _
        rw [T_put (t := 29) (r := L) (c := 0) (v1 := nI L) (v2 := 0) (by decide) rfl rfl (by decide) (by show L < 150; omega)]
        show some ((xset (xset μ 36 29 (nI (L + 1))) 29 (L * wN 29 + 0) (nI x)).1 36 29, _) = _
        rw [xset_ne (by decide), xset_eq, show L * wN 29 + 0 = L by show L * 1 + 0 = L; omega]
      · rw [xset_ne (a := 2) (b := 6) (by decide), t3, nI_1]
        show some ((xset (xset ν 2 L (nI x)) 6 0 (nI (L + 1))).1 6 0, _) = _
        rw [xset_eq]
      · have im : ∀ x', x' < 2 → rIm μ ν x' → rIm (xset (xset μ 36 29 (nI (L + 1))) 29 L (nI x)) (xset (xset ν 2 L (nI x)) 6 0 (nI (L + 1))) x' := by
          intro x' hx' h
          unfold rIm
          rw [xset_ne (by decide), xset_ne (by decide), xset_ne (by decide), xset_ne (by decide)]
          rcases h with h | ⟨g1, g3, g4⟩
          · exact Or.inl h
          · exact Or.inr ⟨g1, g3, rTw_congr (fun j x hj => by rw [xset_ne (by omega), xset_ne (by omega)]) (fun j hj => by rw [xset_ne (by omega), xset_nj (by omega)]) (by rw [xset_ne (by decide), xset_ne (by decide)]) (fun x hx => by rw [xset_ne (by decide), xset_ne (by decide)]) g4⟩
        refine ⟨rTw_congr (fun j x hj => by rw [xset_ne (by omega), xset_ne (by omega)]) (fun j hj => by rw [xset_ne (by omega), xset_nj (by omega)]) (by rw [xset_ne (by decide), xset_ne (by decide)]) (fun x hx => by rw [xset_ne (by decide), xset_ne (by decide)]) h1, im 0 (by decide) a1, im 1 (by decide) a2, ⟨L + 1, by omega, by rw [xset_ne (by decide), xset_eq], xset_eq, fun j hj => ?_⟩, f, s⟩
        rw [xset_ne (b := 2) (by decide)]
        by_cases e : j = L
        · subst e
          rw [xset_eq, xset_eq]
          exact ⟨rfl, x, hx, rfl⟩
        · rw [xset_nj e, xset_nj e, xset_ne (by decide)]
          exact t4 j (by omega)
  · rw [if_neg hc, if_neg hc]
    exact ⟨-2, _, _, rfl, rfl, rel_bad h⟩
theorem st_part {μ ν : xM} (h : xRel μ ν) (v1 : Int32) : ∃ (r : Int64) (μ2 ν2 : xM), (fH_part v1 μ = some (r, μ2)) ∧ (fM_part v1 ν = some (r, ν2)) ∧ xRel μ2 ν2 := by
  obtain ⟨h1, ⟨a1, a2, t, ⟨f1, f2⟩, s⟩⟩ := id h
  unfold fH_part fM_part
  rw [xwb]
  by_cases e0 : v1 = 0
  · subst e0
    rw [if_pos (by decide), if_pos rfl, if_pos rfl, f1]
    exact ⟨_, _, _, rfl, rfl, h⟩
  · by_cases e1 : v1 = 1
    · subst e1
      rw [if_pos (by decide), if_neg (by decide), if_neg (by decide), if_pos rfl, f2]
      exact ⟨_, _, _, rfl, rfl, h⟩
    · rw [if_neg (fun hc => by
        obtain ⟨x, hx, e⟩ := nI_of2 (M := 1) (n := 1) rfl (Int32.not_lt.mpr hc.1) hc.2
        rcases (show x = 0 ∨ x = 1 by omega) with rfl | rfl
        · exact e0 e
        · exact e1 e), if_neg e0, if_neg e1]
      exact ⟨_, _, _, rfl, rfl, rel_bad h⟩
theorem st_status {μ ν : xM} (h : xRel μ ν) (v1 : Int32) : ∃ (r : Int32) (μ2 ν2 : xM), (fH_status v1 μ = some (r, μ2)) ∧ (fM_status v1 ν = some (r, ν2)) ∧ xRel μ2 ν2 := by
  obtain ⟨h1, ⟨a1, a2, t, f, s1, s2, s3⟩⟩ := id h
  unfold fH_status fM_status
  rw [xib2 (y := 0) (z := 2) (a := 0) (b := 2) rfl rfl]
  by_cases hc : 0 ≤ v1 ∧ v1 ≤ 2
  · obtain ⟨x, hx, rfl⟩ := nI_of2 (M := 2) (n := 2) rfl (Int32.not_lt.mpr hc.1) hc.2
    rw [if_pos hc, xck_in rfl (by omega) (by decide), nI_clamp (by omega)]
    rcases (show x = 0 ∨ x = 1 ∨ x = 2 by omega) with rfl | rfl | rfl
    · rw [if_pos (by decide), s1]
      exact ⟨_, _, _, rfl, rfl, h⟩
    · rw [if_neg (by decide), if_pos (by decide), s2]
      exact ⟨_, _, _, rfl, rfl, h⟩
    · rw [if_neg (by decide), if_neg (by decide), if_pos (by decide), s3]
      exact ⟨_, _, _, rfl, rfl, h⟩
  · have e : ∀ k : Int32, 0 ≤ k → k ≤ 2 → ¬ v1 = k := fun k h1 h2 e => hc (e ▸ ⟨h1, h2⟩)
    rw [if_neg hc, if_neg (e 0 (by decide) (by decide)), if_neg (e 1 (by decide) (by decide)), if_neg (e 2 (by decide) (by decide))]
    exact ⟨-1, _, _, rfl, rfl, rel_bad h⟩
