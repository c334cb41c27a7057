/-! STEPS: calls that change the town -/
theorem vw0 {m : xM} {j i : Nat} : vw m 0 j i = m.1 j i := by show m.1 (7 * 0 + j) i = _; rw [Nat.mul_zero, Nat.zero_add]
theorem uw0 {m : xM} {j : Nat} : uw m 0 j = m.1 36 j := by show m.1 36 (7 * 0 + j) = _; rw [Nat.mul_zero, Nat.zero_add]
theorem rw0 {m : xM} {i : Nat} : rw' m 0 i = m.1 0 i := by show m.1 0 (0 + i) = _; rw [Nat.zero_add]
theorem st_wet {μ ν : xM} (h : xRel μ ν) (v1 : Int32) (v2 : Int32) : ∃ (r : Int32) (μ2 ν2 : xM), (fH_wet v1 v2 μ = some (r, μ2)) ∧ (fM_wet v1 v2 ν = some (r, ν2)) ∧ xRel μ2 ν2 := by
  unfold fH_wet fM_wet
  rw [xwb, xib2 (y := 0) (z := 4) (a := 0) (b := 4) rfl rfl]
  by_cases c1 : 0 ≤ v1 ∧ v1 ≤ 4
  · rw [if_pos c1, if_pos c1, xwb, xib2 (y := 0) (z := 4) (a := 0) (b := 4) rfl rfl]
    by_cases c2 : 0 ≤ v2 ∧ v2 ≤ 4
    · rw [if_pos c2, if_pos c2]
      obtain ⟨j, hj, rfl⟩ := nI_of2 (M := 4) (n := 4) rfl (Int32.not_lt.mpr c1.1) c1.2
      obtain ⟨x, hx, rfl⟩ := nI_of2 (M := 4) (n := 4) rfl (Int32.not_lt.mpr c2.1) c2.2
      obtain ⟨⟨n, k, y, hh, a, q, u, B, U, W, hC, hW, hI, hH, hN, hM, hP⟩, hR⟩ := h
      obtain ⟨b1, b2, b3, b4, b5, b6, b7⟩ := id B
      obtain ⟨u0, u1, u2, u3, u4, u5, u6, uy⟩ := U
      obtain ⟨w0, w1, w2, w3, w4, w5, w6⟩ := W
      have e3 : (3 : Int32) + nI j = nI (3 + j) := nI_add 3 j
      rw [T_get (t := 2) (r := j) (c := 0) (v1 := nI j) (v2 := 0) (by decide) rfl rfl (by decide) (by show j < 5; omega), e3, xck_in rfl (by omega) (by decide), xck_in rfl (by omega) (by decide), nI_clamp (by omega)]
      have ej : j * wN 2 + 0 = j := by show j * 1 + 0 = j; omega
      refine ⟨μ.1 2 j, xset (xset μ 2 j (nI x)) 36 1 0, xset (xset ν 0 (3 + j) (nI x)) 0 129 0, ?_, ?_, ?_⟩
      · show (fT_put 2 (nI j) 0 (nI x) μ).bind _ = _
        rw [T_put (t := 2) (r := j) (c := 0) (v1 := nI j) (v2 := 0) (by decide) rfl rfl (by decide) (by show j < 5; omega), ej]
        rfl
      · have e := (hW j (by omega)).1
        rw [vw0, rw0] at e
        rw [e]
        rfl
      · refine ⟨⟨n, k, y, hh, a, q, 0, ⟨b1, b2, b3, b4, b5, b6, by decide⟩, ?_, ?_, ?_, ?_, ?_, ?_, ?_, ?_, ?_⟩, ?_⟩
        · rw [uw0] at u0 u1 u2 u3 u4 u5 u6
          refine ⟨?_, ?_, ?_, ?_, ?_, ?_, ?_, ?_⟩ <;> first | (simp [uw0, xset_at]; done) | (simp [uw0, xset_at]; assumption)
        · rw [rw0] at w0 w1 w2 w3 w4 w5 w6
          refine ⟨?_, ?_, ?_, ?_, ?_, ?_, ?_⟩ <;> simp only [rw0, xset_at] <;> first | (rw [if_neg (by omega), if_neg (by omega)]; assumption) | rfl
        · exact pC_congr b1 (fun i hi => by simp [vw0, xset_at]) (fun i h1 h2 => by simp only [rw0, xset_at]; rw [if_neg (by omega), if_neg (by omega)]) hC
        · intro i hi
          have e := hW i hi
          simp only [vw0, rw0, xset_at] at e ⊢
          by_cases hij : i = j
          · subst hij
            rw [if_neg (by omega), if_pos ⟨rfl, rfl⟩, if_neg (by omega), if_pos ⟨rfl, rfl⟩]
            exact ⟨rfl, x, hx, rfl⟩
          · rw [if_neg (by omega), if_neg (by omega), if_neg (by omega), if_neg (by omega)]
            exact e
        · exact pI_congr b2 (fun i hi => by simp [vw0, xset_at]) (fun i h1 h2 => by simp only [rw0, xset_at]; rw [if_neg (by omega), if_neg (by omega)]) hI
        · exact pH_congr b4 (fun i hi => by simp [vw0, xset_at]) (fun i h1 h2 => by simp only [rw0, xset_at]; rw [if_neg (by omega), if_neg (by omega)]) hH
        · exact pN_congr b5 (fun i hi => by simp [vw0, xset_at]) (fun i h1 h2 => by simp only [rw0, xset_at]; rw [if_neg (by omega), if_neg (by omega)]) hN
        · exact pM_congr b6 (fun i hi => by simp [vw0, xset_at]) (fun i h1 h2 => by simp only [rw0, xset_at]; rw [if_neg (by omega), if_neg (by omega)]) hM
        · exact fun r hr => absurd hr (Nat.not_lt_zero r)
        · exact rRest_congr (fun j i _ _ => by simp only [xset_at]; rw [if_neg (by omega), if_neg (by omega)]) (fun j _ _ => by simp only [xset_at]; rw [if_neg (by omega), if_neg (by omega)]) (fun t _ _ => by simp [xset_at]) (fun i _ _ => by simp only [xset_at]; rw [if_neg (by omega), if_neg (by omega)]) ⟨by funext i; simp [xset_at], by simp [xset_at]⟩ (by funext i; simp [xset_at]) ⟨rfl, rfl⟩ (by funext i; simp [xset_at]) (by funext i; simp [xset_at]) (by funext i; simp [xset_at]) (by simp [xset_at]) ⟨rfl, rfl⟩ hR
    · rw [if_neg c2, if_neg c2]
      exact ⟨-2, _, _, rfl, rfl, rel_bad h⟩
  · rw [if_neg c1, if_neg c1]
    exact ⟨-2, _, _, rfl, rfl, rel_bad h⟩
