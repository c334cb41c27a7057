/-! STEPS: houses, plays, about -/
def hoI : Nat → (Nat → Bool) → (Nat → Int32) → Int32
  | 0, _, _ => 0
  | n + 1, f, g => if f n then hoI n f g ||| ((1 : Int32) <<< (g n &&& 31)) else hoI n f g
theorem hoI_congr {n : Nat} {f f' : Nat → Bool} {g g' : Nat → Int32} (h : ∀ b, b < n → f b = f' b ∧ g b = g' b) : hoI n f g = hoI n f' g' := by
  induction n with
  | zero => rfl
  | succ n ih =>
    unfold hoI
    rw [ih (fun b hb => h b (by omega)), (h n (by omega)).1, (h n (by omega)).2]
theorem or_house : ∀ M, M < 16 → ∀ x, x < 4 → ∃ M', M' < 16 ∧ (nI M ||| ((1 : Int32) <<< (nI x &&& 31))) = nI M' := by decide +kernel
theorem hoI_N {n : Nat} {f : Nat → Bool} {g : Nat → Int32} (h : ∀ b, b < n → ∃ x, x < 4 ∧ g b = nI x) : ∃ M, M < 16 ∧ hoI n f g = nI M := by
  induction n with
  | zero => exact ⟨0, by decide, rfl⟩
  | succ n ih =>
    obtain ⟨M, hM, e⟩ := ih (fun b hb => h b (by omega))
    unfold hoI
    by_cases c : f n = true
    · obtain ⟨x, hx, ex⟩ := h n (by omega)
      obtain ⟨M', hM', e'⟩ := or_house M hM x hx
      exact ⟨M', hM', by rw [if_pos c, e, ex, e']⟩
    · exact ⟨M, hM, by rw [if_neg c, e]⟩
theorem pc16 : ∀ M, M < 16 → pcN M ≤ 4 := by decide
theorem H_ho4 {β n : Nat} {m : xM} {v : Int32} (hβ : β < 5) (hn : n ≤ 6) (u0 : m.1 36 (xtb β) = nI n) : ∀ (f b : Nat), b ≤ n → n < b + f → fB_housesIn_l4 β m f v (hoI b (fun b => m.1 (xtb β) (b * 6 + 5) == v) (fun b => m.1 (xtb β) (b * 6 + 3))) (nI b) = (fJ_bitCount (hoI n (fun b => m.1 (xtb β) (b * 6 + 5) == v) (fun b => m.1 (xtb β) (b * 6 + 3)))).bind fun r => some r
  | 0, b, h1, h2 => absurd h2 (by omega)
  | f + 1, b, h1, h2 => by
    unfold fB_housesIn_l4
    rw [B_many, bnd, u0]
    by_cases hb : b = n
    · subst hb
      rw [if_pos (nI_le (Nat.le_refl _) (by omega))]
    · rw [if_neg (nI_ge (by omega) (by omega)), B_get (b := b) (c := 5) (v2 := 5) hβ rfl rfl (by decide) (by omega), bnd, B_get (b := b) (c := 3) (v2 := 3) hβ rfl rfl (by decide) (by omega), bnd]
      unfold fB_housesIn_b42
      have ih := H_ho4 (v := v) hβ hn u0 f (b + 1) (by omega) (by omega)
      have e : hoI (b + 1) (fun b => m.1 (xtb β) (b * 6 + 5) == v) (fun b => m.1 (xtb β) (b * 6 + 3)) = if (m.1 (xtb β) (b * 6 + 5) == v) = true then hoI b (fun b => m.1 (xtb β) (b * 6 + 5) == v) (fun b => m.1 (xtb β) (b * 6 + 3)) ||| ((1 : Int32) <<< (m.1 (xtb β) (b * 6 + 3) &&& 31)) else hoI b (fun b => m.1 (xtb β) (b * 6 + 5) == v) (fun b => m.1 (xtb β) (b * 6 + 3)) := rfl
      rw [nI_1]
      by_cases c : m.1 (xtb β) (b * 6 + 5) = v
      · rw [if_pos (beq_iff_eq.mpr c)] at e
        rw [if_pos c, ← e]
        exact ih
      · rw [if_neg (fun z => c (beq_iff_eq.mp z))] at e
        rw [if_neg c, ← e]
        exact ih
theorem M_ho5 {R n : Nat} {m : xM} {v : Int32} (hR : R ≤ 1704) (hn : n ≤ 6) (w0 : m.1 0 R = nI n) : ∀ (f b : Nat), b ≤ n → n < b + f → fM_housesOf_l5 m f (nI R) v (hoI b (fun b => m.1 0 (R + 38 + b) == v) (fun b => m.1 0 (R + 26 + b))) (nI b) = (fM_ones (hoI n (fun b => m.1 0 (R + 38 + b) == v) (fun b => m.1 0 (R + 26 + b)))).bind fun r => some r
  | 0, b, h1, h2 => absurd h2 (by omega)
  | f + 1, b, h1, h2 => by
    unfold fM_housesOf_l5
    rw [show nI R + 0 = nI (R + 0) from nI_add R 0, Nat.add_zero R, xck_nI (by omega) (by decide), nI_clamp (by omega), w0]
    by_cases hb : b = n
    · subst hb
      rw [if_pos (nI_le (Nat.le_refl _) (by omega))]
    · rw [if_neg (nI_ge (by omega) (by omega)), show nI R + 38 + nI b = nI (R + 38 + b) by rw [show nI R + 38 = nI (R + 38) from nI_add R 38, nI_add], show nI R + 26 + nI b = nI (R + 26 + b) by rw [show nI R + 26 = nI (R + 26) from nI_add R 26, nI_add], xck_nI (by omega) (by decide), xck_nI (by omega) (by decide), nI_clamp (by omega), nI_clamp (by omega)]
      unfold fM_housesOf_b53
      have ih := M_ho5 (v := v) hR hn w0 f (b + 1) (by omega) (by omega)
      have e : hoI (b + 1) (fun b => m.1 0 (R + 38 + b) == v) (fun b => m.1 0 (R + 26 + b)) = if (m.1 0 (R + 38 + b) == v) = true then hoI b (fun b => m.1 0 (R + 38 + b) == v) (fun b => m.1 0 (R + 26 + b)) ||| ((1 : Int32) <<< (m.1 0 (R + 26 + b) &&& 31)) else hoI b (fun b => m.1 0 (R + 38 + b) == v) (fun b => m.1 0 (R + 26 + b)) := rfl
      rw [nI_1]
      by_cases c : m.1 0 (R + 38 + b) = v
      · rw [if_pos (beq_iff_eq.mpr c)] at e
        rw [if_pos c, ← e]
        exact ih
      · rw [if_neg (fun z => c (beq_iff_eq.mp z))] at e
        rw [if_neg c, Int32.or_zero, ← e]
        exact ih
theorem ho_both {n k β R : Nat} {m ν : xM} (h : bE n k β R m ν) {v : Int32} : ∃ H, H < 16 ∧ hoI n (fun b => m.1 (xtb β) (b * 6 + 5) == v) (fun b => m.1 (xtb β) (b * 6 + 3)) = nI H ∧ fB_housesIn β m v = some (nI (pcN H)) ∧ fM_housesOf ν (nI R) v = some (nI (pcN H)) := by
  obtain ⟨hβ, hR, hn, hk, u0, w0, hE, hV⟩ := h
  obtain ⟨H, hH, e⟩ := hoI_N (n := n) (f := fun b => m.1 (xtb β) (b * 6 + 5) == v) (g := fun b => m.1 (xtb β) (b * 6 + 3)) (fun b hb => (hV.1 b hb).2.2.2.1)
  have e2 : hoI n (fun b => ν.1 0 (R + 38 + b) == v) (fun b => ν.1 0 (R + 26 + b)) = nI H := by
    rw [← e]
    refine hoI_congr (fun b hb => ⟨?_, ?_⟩)
    · show (ν.1 0 (R + 38 + b) == v) = (m.1 (xtb β) (b * 6 + 5) == v)
      rw [hE b 5 hb (by decide), show R + 38 + b = R + 8 + 6 * 5 + b by omega]
    · show ν.1 0 (R + 26 + b) = m.1 (xtb β) (b * 6 + 3)
      rw [hE b 3 hb (by decide), show R + 26 + b = R + 8 + 6 * 3 + b by omega]
  have a1 := H_ho4 (v := v) hβ hn u0 xfu 0 (by omega) (by show n < 0 + 100000; omega)
  have a2 := M_ho5 (v := v) hR hn w0 xfu 0 (by omega) (by show n < 0 + 100000; omega)
  rw [e, bitCount_N H (by omega)] at a1
  rw [e2, ones_N H (by omega)] at a2
  exact ⟨H, hH, e, a1, a2⟩
theorem cnt_both {n k β R : Nat} {m ν : xM} (h : bE n k β R m ν) {v : Int32} : fB_manyIn β m v = some (nI (cntB n (fun b => m.1 (xtb β) (b * 6 + 5) == v))) ∧ fM_boardsOf ν (nI R) v = some (nI (cntB n (fun b => m.1 (xtb β) (b * 6 + 5) == v))) := by
  obtain ⟨hβ, hR, hn, hk, u0, w0, hE, hV⟩ := h
  refine ⟨H_manyIn hβ hn u0, ?_⟩
  rw [M_boardsOf hR hn w0, cntB_congr (n := n) (g := fun b => m.1 (xtb β) (b * 6 + 5) == v)]
  intro b hb
  show (ν.1 0 (R + 38 + b) == v) = (m.1 (xtb β) (b * 6 + 5) == v)
  rw [hE b 5 hb (by decide), show R + 38 + b = R + 8 + 6 * 5 + b by omega]
theorem st_about {μ ν : xM} (h : xRel μ ν) (v1 : Int32) (v2 : Int32) : ∃ (r : Int32) (μ2 ν2 : xM), (fH_about v1 v2 μ = some (r, μ2)) ∧ (fM_about v1 v2 ν = some (r, ν2)) ∧ xRel μ2 ν2 := by
  unfold fH_about fM_about
  obtain ⟨n, k, y, hh, a, q, u, B, U, W, hC, hW, hI, hH, hN, hM, hP⟩ := rel_op h
  obtain ⟨b1, b2, b3, b4, b5, b6, b7⟩ := id B
  obtain ⟨u0, u1, u2, u3, u4, u5, u6, uy⟩ := U
  obtain ⟨w0, w1, w2, w3, w4, w5, w6⟩ := W
  rcases xin (Nat.le_trans b2 (by decide)) u3 w1 v1 with ⟨i, hi, rfl, e1, e2⟩ | ⟨e1, e2⟩
  · rw [e1, e2, bnd, bnd, xi1, xi1, xwb, xib2 (y := 0) (z := 2) (a := 0) (b := 2) rfl rfl]
    by_cases c1 : 0 ≤ v2 ∧ v2 ≤ 2
    · rw [if_pos c1, if_pos c1]
      have E := bE_0 b1 b2 u0 w0 hC
      by_cases z0 : v2 = 0
      · rw [if_pos z0, if_pos z0]
        refine ⟨μ.1 3 i, μ, ν, ?_, ?_, h⟩
        · rw [T_get (t := 3) (r := i) (c := 0) (v1 := nI i) (v2 := 0) (by decide) rfl rfl (by decide) (by show i < 4; omega), bnd, show i * wN 3 + 0 = i by show i * 1 + 0 = i; omega]
        · rw [show (44 : Int32) + nI i = nI (44 + i) from nI_add 44 i, xck_nI (by omega) (by decide), nI_clamp (by omega), hI i hi]
      · rw [if_neg z0, if_neg z0]
        by_cases z1 : v2 = 1
        · rw [if_pos z1, if_pos z1]
          obtain ⟨a1, a2⟩ := cnt_both E (v := nI i)
          refine ⟨nI (cntB n (fun b => μ.1 (xtb 0) (b * 6 + 5) == nI i)), μ, ν, ?_, ?_, h⟩
          · rw [a1]; rfl
          · show (fM_boardsOf ν (nI 0) (nI i)).bind _ = _
            rw [a2]; rfl
        · rw [if_neg z1, if_neg z1]
          obtain ⟨H, -, -, a1, a2⟩ := ho_both E (v := nI i)
          refine ⟨nI (pcN H), μ, ν, ?_, ?_, h⟩
          · rw [a1]; rfl
          · show (fM_housesOf ν (nI 0) (nI i)).bind _ = _
            rw [a2]; rfl
    · rw [if_neg c1, if_neg c1]
      exact ⟨-2, _, _, rfl, rfl, rel_bad h⟩
  · rw [e1, e2, bnd, bnd, xi0, xi0]
    exact ⟨-2, _, _, rfl, rfl, rel_bad h⟩
