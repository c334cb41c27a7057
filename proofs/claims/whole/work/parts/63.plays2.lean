/-! STEPS: plays, in both -/
theorem mb0 {m : xM} {β b : Nat} {v : Int32} (hb : b < 6) : mbB m β v 0 b = (m.1 (xtb β) (b * 6 + 5) == v) := by
  unfold mbB
  rw [hoB_0 b hb, Bool.or_false]
theorem M_po {n k β R : Nat} {m ν : xM} (h : bE n k β R m ν) {v : Int32} {s : Nat} (hs : s < 4) : ∀ (f b : Nat), b ≤ n → n < b + f → fM_playsIn_l6 ν f (nI R) v (nI s) (nI (smN b (mbB m β v 0) (sdB m β s))) (nI b) = xck 1752 (nI R + 44 + v) ((fM_housesOf ν (nI R) v).bind fun r75 => (fM_boardsOf ν (nI R) v).bind fun r81 => (fM_playOf (ν.1 0 (nI R + 44 + v).toNatClampNeg) (nI s) (nI (smN n (mbB m β v 0) (sdB m β s))) r75 r81).bind fun r84 => some r84)
  | 0, b, h1, h2 => absurd h2 (by omega)
  | f + 1, b, h1, h2 => by
    obtain ⟨hβ, hR, hn, hk, u0, w0, hE, hV⟩ := id h
    unfold fM_playsIn_l6
    rw [show nI R + 0 = nI (R + 0) from nI_add R 0, Nat.add_zero R, xck_nI (by omega) (by decide), nI_clamp (by omega), w0]
    by_cases hb : b = n
    · subst hb
      rw [if_pos (nI_le (Nat.le_refl _) (by omega))]
    · rw [if_neg (nI_ge (by omega) (by omega)), show nI R + 38 + nI b = nI (R + 38 + b) by rw [show nI R + 38 = nI (R + 38) from nI_add R 38, nI_add], xck_nI (by omega) (by decide), nI_clamp (by omega)]
      obtain ⟨x, hx, e1, e2⟩ := snd_both h (b := b) (by omega) hs
      have ih := M_po (v := v) h hs f (b + 1) (by omega) (by omega)
      have sx : sdB m β s b = x := by
        unfold sdB
        rw [e1]
        exact nI_clamp (by omega)
      have E1 : smN (b + 1) (mbB m β v 0) (sdB m β s) = smN b (mbB m β v 0) (sdB m β s) + (if mbB m β v 0 b = true then sdB m β s b else 0) := rfl
      rw [mb0 (by omega), sx] at E1
      unfold fM_playsIn_b49
      rw [e2, bnd, ← show m.1 (xtb β) (b * 6 + 5) = ν.1 0 (R + 38 + b) by rw [hE b 5 (by omega) (by decide), show R + 38 + b = R + 8 + 6 * 5 + b by omega], nI_1]
      by_cases c : m.1 (xtb β) (b * 6 + 5) = v
      · rw [if_pos (beq_iff_eq.mpr c)] at E1
        rw [if_pos c, nI_add, ← E1]
        exact ih
      · rw [if_neg (fun z => c (beq_iff_eq.mp z))] at E1
        rw [if_neg c, show nI (smN b (mbB m β v 0) (sdB m β s)) + 0 = nI (smN b (mbB m β v 0) (sdB m β s) + 0) from nI_add _ 0, ← E1]
        exact ih
/-- an instrument's play, in both -/
theorem play_both {n k β R : Nat} {m ν : xM} (h : bE n k β R m ν) {i s : Nat} (hi : i < k) (hs : s < 4) (hI : m.1 3 i = ν.1 0 (R + 44 + i)) : ∃ p, p ≤ 1000 ∧ fW_playOn 0 β m (nI i) (nI s) 0 = some (nI p) ∧ fM_playsIn ν (nI R) (nI i) (nI s) = some (nI p) := by
  obtain ⟨hβ, hR, hn, hk, u0, w0, hE, hV⟩ := id h
  obtain ⟨H, hH, eH, h1, h2⟩ := ho_both h (v := nI i)
  obtain ⟨c1, c2⟩ := cnt_both h (v := nI i)
  have a1 := H_po (t := 0) (v := nI i) (M := 0) h hs xfu 0 (by omega) (by show n < 0 + 100000; omega)
  have a2 := M_po (v := nI i) h hs xfu 0 (by omega) (by show n < 0 + 100000; omega)
  have ec : cntB n (mbB m β (nI i) 0) = cntB n (fun b => m.1 (xtb β) (b * 6 + 5) == nI i) := cntB_congr (fun b hb => mb0 (by omega))
  have eh : hoI n (mbB m β (nI i) 0) (hsB m β) = nI H := by
    rw [← eH]
    exact hoI_congr (fun b hb => ⟨mb0 (by omega), rfl⟩)
  have le4 : cntB n (fun b => m.1 (xtb β) (b * 6 + 5) == nI i) ≤ 4 := hV.2 i hi
  have sm : smN n (mbB m β (nI i) 0) (sdB m β s) < 420 := by
    have := smN_le (n := n) (f := mbB m β (nI i) 0) (g := sdB m β s) (fun b hb => by
      obtain ⟨x, hx, e1, -⟩ := snd_both h hb hs
      unfold sdB
      rw [e1]
      show (nI x).toNatClampNeg < 70
      rw [nI_clamp (by omega)]
      exact hx)
    omega
  obtain ⟨p, hp, p1, p2⟩ := play_N (kd := ν.1 0 (R + 44 + i)) hs sm (H := pcN H) (K := cntB n (fun b => m.1 (xtb β) (b * 6 + 5) == nI i)) (by have := pc16 H hH; omega) (by omega)
  refine ⟨p, hp, ?_, ?_⟩
  · rw [ec, if_pos le4, eh] at a1
    have g3 : fT_get (7 * 0 + 3) m (nI i) 0 = some (ν.1 0 (R + 44 + i)) := by
      rw [← hI]
      show fT_get 3 m (nI i) 0 = _
      rw [T_get (t := 3) (r := i) (c := 0) (v2 := 0) (by decide) rfl rfl (by decide) (by show i < 4; omega), show i * wN 3 + 0 = i by show i * 1 + 0 = i; omega]
    rw [g3, bnd, bitCount_N H (by omega), bnd, p1] at a1
    exact a1
  · have e : nI R + 44 + nI i = nI (R + 44 + i) := by rw [show nI R + 44 = nI (R + 44) from nI_add R 44, nI_add]
    rw [e, xck_nI (by omega) (by decide), nI_clamp (by omega), h2, bnd, c2, bnd, p2] at a2
    exact a2
theorem st_plays {μ ν : xM} (h : xRel μ ν) (v1 : Int32) (v2 : Int32) : ∃ (r : Int32) (μ2 ν2 : xM), (fH_plays v1 v2 μ = some (r, μ2)) ∧ (fM_plays v1 v2 ν = some (r, ν2)) ∧ xRel μ2 ν2 := by
  unfold fH_plays fM_plays
  obtain ⟨n, k, y, hh, a, q, u, B, U, W, hC, hW, hI, hH, hN, hM, hP⟩ := rel_op h
  obtain ⟨b1, b2, b3, b4, b5, b6, b7⟩ := id B
  obtain ⟨u0, u1, u2, u3, u4, u5, u6, uy⟩ := U
  obtain ⟨w0, w1, w2, w3, w4, w5, w6⟩ := W
  rcases xin (Nat.le_trans b2 (by decide)) u3 w1 v1 with ⟨i, hi, rfl, e1, e2⟩ | ⟨e1, e2⟩
  · rw [e1, e2, bnd, bnd, xi1, xi1, xsgb, xsmb]
    by_cases c1 : 0 ≤ v2 ∧ v2 ≤ 3
    · rw [if_pos c1, if_pos c1]
      obtain ⟨s, hs, rfl⟩ := nI_of2 (M := 3) (n := 3) rfl (Int32.not_lt.mpr c1.1) c1.2
      obtain ⟨p, hp, e3, e4⟩ := play_both (bE_0 b1 b2 u0 w0 hC) hi (s := s) (by omega) (by rw [show 0 + 44 + i = 44 + i by omega]; exact hI i hi)
      refine ⟨nI p, μ, ν, ?_, ?_, h⟩
      · unfold fW_playOf
        rw [e3]; rfl
      · show (fM_playsIn ν (nI 0) (nI i) (nI s)).bind _ = _
        rw [e4]; rfl
    · rw [if_neg c1, if_neg c1]
      exact ⟨-2, _, _, rfl, rfl, rel_bad h⟩
  · rw [e1, e2, bnd, bnd, xi0, xi0]
    exact ⟨-2, _, _, rfl, rfl, rel_bad h⟩
