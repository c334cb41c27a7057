/-! STEPS: read; the loop, the start and the end -/
section REA
variable {tx : Nat → Nat} {L : Nat}
/-- both end alike: at fault, or read to the end -/
def rdO (m ν : xM) (H M : Option (Int32 × xM)) : Prop := ∃ r m' ν', scH m m' ∧ scM ν ν' ∧ ((r < 0 ∧ H = some (r, m') ∧ M = some (r, ν')) ∨ (¬ r < 0 ∧ H = some (r, m') ∧ (M = (fM_copy 1278 0 ν').bind fun r84 => some (r, r84)) ∧ ∃ n k y, RD n k y m' ν'))
theorem rdO_from {m ν m1 ν1 : xM} {H M : Option (Int32 × xM)} (F : scH m m1) (G : scM ν ν1) (h : rdO m1 ν1 H M) : rdO m ν H M := by
  obtain ⟨r, m', ν', f, g, z⟩ := h
  exact ⟨r, m', ν', scH_trans F f, scM_trans G g, z⟩
theorem r_neg : ∀ s, s < 151 → (-10 : Int32) - nI s < 0 := by decide +kernel
theorem RS_sk {p n k y : Nat} {m ν ν' : xM} (h : RS tx L p n k y m ν) (G : cM ν ν') (ha : ν'.1 6 1 = nI (sk tx L p)) : RS tx L (sk tx L p) n k y m ν' := by
  obtain ⟨hx, hp, K, -, T, D⟩ := h
  refine ⟨hx, ru_le hp, ?_, ha, txM_fr T G, RD_fr D cH_refl G⟩
  obtain ⟨rr, dd, k1, k2, k3, k4⟩ := K
  have q3 : sk tx L (sk tx L p) = sk tx L p := ru_ru hp
  exact ⟨rr, dd, by rw [q3]; exact k1, k2, k3, k4⟩
theorem read_l : ∀ (f q it n k y : Nat) (m ν : xM), RS tx L q n k y m ν → sk tx L q = q → ν.1 6 2 = nI q → it ≤ q → L + 2 < q + f → rdO m ν (fR_readAll_l17 29 f (nI it) m) (fM_read_l20 f (nI it) 1 ν)
  | 0, q, it, n, k, y, m, ν, h, hs, h2, hi, hf => by
    have := h.2.1
    exact absurd hf (by omega)
  | f + 1, q, it, n, k, y, m, ν, h, hs, h2, hi, hf => by
    obtain ⟨⟨hL, hx⟩, hq, K, ha, T, D⟩ := id h
    obtain ⟨m1, a1, a2, a3, a4, a5, a6⟩ := H_take K hq
    rw [hs] at a2 a3 a4 a6
    have it0 : it = 0 ↔ nI it = 0 := ⟨fun z => by rw [z]; rfl, fun z => Decidable.byContradiction fun d => nI_ne0 (by omega) (by omega) z⟩
    have key : ∀ v1 : Int32, rdO m ν (fR_readAll_b52 29 (fR_readAll_l17 29 f) (nI it) v1 m1) (fM_read_b49 (fM_read_l20 f) (nI it) v1 ν) := fun v1 => by
      obtain ⟨m2, ν2, f2, g2, e2, z⟩ := item_both (v1 := v1) hL hx hq hs a2 a3 a4 a6 ha T (RD_fr D a5 cM_refl)
      have F := scH_trans (cH_sc a5) f2
      unfold fR_readAll_b52 fM_read_b49
      rcases z with ⟨p', n', k', y', lt, z1, z2, R⟩ | ⟨z1, z2⟩
      · have hp' := R.2.1
        have ge : p' ≤ sk tx L p' := ru_ge hp'
        obtain ⟨ν3, b1, b2, b3, b4⟩ := M_blanks hL hx hp' R.2.2.2.2.1 R.2.2.2.1
        rw [z1, z2, bnd, bnd]
        show rdO m ν (if (1 : Int32) = 0 then _ else fR_readAll_l17 29 f (nI it + 1) m2) (if (1 : Int32) = 0 then _ else (fM_blanks ν2).bind fun r61 => fM_read_l20 f (nI it + 1) 1 r61)
        rw [xi1, xi1, b1, bnd, nI_1]
        exact rdO_from F (scM_trans g2 (cM_sc b4)) (read_l f (sk tx L p') (it + 1) n' k' y' m2 ν3 (RS_sk R b4 b2) (ru_ru hp') b3 (by omega) (by omega))
      · obtain ⟨e3, s, s1, s2⟩ := e2
        cases f with
        | zero => exact absurd hf (by omega)
        | succ f =>
          rw [z1, z2, bnd, bnd]
          show rdO m ν (if (0 : Int32) = 0 then some ((-10 : Int32) - m2.1 40 1, m2) else _) (if (0 : Int32) = 0 then fM_read_l20 (f + 1) (nI it + 1) 0 ν2 else _)
          rw [xi0, xi0]
          unfold fM_read_l20 fM_read_b67
          rw [if_pos rfl, if_pos rfl, ← e3, s2]
          exact ⟨(-10 : Int32) - nI s, m2, ν2, F, g2, Or.inl ⟨r_neg s (by omega), rfl, rfl⟩⟩
    unfold fR_readAll_l17 fM_read_l20
    rw [if_neg (show ¬ (150 : Int32) < nI it from nI_nlt (a := 150) (by omega) (by decide)), a1, bnd, a2, if_neg (show ¬ (1 : Int32) = 0 by decide), h2, T.1]
    unfold fR_readAll_b42 fM_read_b39
    by_cases c : q = L
    · rw [if_pos ((tS_end hq).mpr c), if_neg (nI_nlt (by omega) (by omega))]
      by_cases i0 : it = 0
      · rw [if_pos (show nI it ≤ 0 by rw [i0]; decide), if_pos (it0.mp i0), if_pos (it0.mp i0), if_pos (it0.mp i0)]
        exact key 1
      · rw [if_neg (show ¬ nI it ≤ 0 from nI_ge (a := 0) (by omega) (by omega)), if_neg (fun z => i0 (it0.mpr z))]
        unfold fM_read_b67
        rw [if_neg (show ¬ (1 : Int32) = 0 by decide)]
        exact ⟨nI it, m1, ν, cH_sc a5, scM_refl, Or.inr ⟨fun z => nI_pos (by omega) z, rfl, rfl, n, k, y, RD_fr D a5 cM_refl⟩⟩
    · rw [if_neg (fun z => c ((tS_end hq).mp z)), if_pos (nI_lt (by omega) (by omega))]
      by_cases i0 : it = 0
      · rw [if_pos (it0.mp i0), if_pos (it0.mp i0)]
        exact key 1
      · rw [if_neg (fun z => i0 (it0.mpr z)), if_neg (fun z => i0 (it0.mpr z))]
        exact key 0
end REA
theorem RD_rTw {n k y : Nat} {m ν : xM} (h : RD n k y m ν) : rTw m 3 ν 1278 := by
  obtain ⟨d1, d2, d3, d4, d5, d6, ⟨d7, d8⟩, ⟨b1, b2, b3, b4, b5⟩, c1, c2, c3, c4⟩ := h
  obtain ⟨hβ, hR, hn, hk, u0, w0, hE, hV⟩ := d1
  exact ⟨n, k, y, 0, 0, 0, 0, ⟨hn, hk, d2, by decide, by decide, by decide, by decide⟩, ⟨u0, b1, b2, d7, b3, b4, b5, d3⟩, ⟨w0, d8, d4, c1, c2, c3, c4⟩, ⟨fun b c hb hc => (hE b c hb hc).trans (by show ν.1 0 (1278 + 8 + 6 * c + b) = ν.1 0 (1278 + (8 + 6 * c + b)); rw [show 1278 + 8 + 6 * c + b = 1278 + (8 + 6 * c + b) by omega]), hV⟩, fun j hj => (by
    have q := d5 j hj
    rw [show 1281 + j = 1278 + (3 + j) by omega] at q
    exact q), fun i hi => (by
    have q := d6 i hi
    rw [show 1322 + i = 1278 + (44 + i) by omega] at q
    exact q), fun r hr => absurd hr (by omega), fun r c hr => absurd hr (by omega), fun r hr => absurd hr (by omega), fun r hr => absurd hr (by omega)⟩
theorem from_3 {μ ν : xM} (h : xRel μ ν) (g : rTw μ 3 ν 1278) : ∃ μ1, fW_become 0 3 μ = some μ1 ∧ xRel μ1 (xcb ν 0 0 0 1278 426) := by
  obtain ⟨μ1, e, c, d, cy, f, l⟩ := W_bec (T := 0) (T1 := 3) (m := μ) (by omega) (by omega) (by omega) (rTw_cnt g)
  refine ⟨μ1, e, ?_, ?_⟩
  · obtain ⟨n, k, yy, hh, a, q, u, H⟩ := g
    refine ⟨n, k, yy, hh, a, q, u, rT_congr (fun j i hj hi => ?_) (fun j hj => ?_) ?_ (fun i hi => ?_) H⟩
    · show μ.1 (7 * 3 + j) i = μ1.1 (7 * 0 + j) i
      rw [c j i hj hi]
    · show μ.1 36 (7 * 3 + j) = μ1.1 36 (7 * 0 + j)
      rw [d j hj]
    · rw [cy]
    · show ν.1 0 (1278 + i) = (xcb ν 0 0 0 1278 426).1 0 (0 + i)
      rw [xcb_in (by omega) (by omega), show 1278 + (0 + i - 0) = 1278 + i by omega]
  · refine rRest_fr h.2 ⟨fun j i k => ?_, l⟩ ⟨fun j i k => ?_, rfl, rfl⟩
    · unfold kH at k
      exact f j i (by omega) (by omega) (by omega)
    · unfold kM at k
      rcases k with k | k | k | k | k
      · rw [xcb_hi (by omega)]
      · rw [xcb_nb (by omega)]
      · rw [xcb_nb (by omega)]
      · rw [xcb_nb (by omega)]
      · rw [xcb_nb (by omega)]
theorem read_start {μ ν : xM} (h : rTx μ ν) : ∃ tx L m ν', scH μ m ∧ scM ν ν' ∧ RS tx L (sk tx L 0) 0 0 0 m ν' ∧ ν'.1 6 2 = nI (sk tx L 0) ∧ fR_readAll 29 μ = fR_readAll_l17 29 xfu 0 m ∧ fM_read ν = fM_read_l20 xfu 0 1 ν' := by
  obtain ⟨L, hL, uL, wL, cs⟩ := h
  have cx : ∀ j, j < L → (μ.1 29 j).toNatClampNeg ≤ 127 ∧ μ.1 29 j = nI (μ.1 29 j).toNatClampNeg := fun j hj => by
    obtain ⟨-, x, x1, x2⟩ := cs j hj
    rw [x2, nI_clamp (by omega)]
    exact ⟨x1, rfl⟩
  obtain ⟨tx, htx⟩ : ∃ tx : Nat → Nat, tx = fun j => (μ.1 29 j).toNatClampNeg := ⟨_, rfl⟩
  have hx : ∀ j, j < L → tx j ≤ 127 := fun j hj => by rw [htx]; exact (cx j hj).1
  have hH : ∀ j, j < L → μ.1 29 j = nI (tx j) := fun j hj => by rw [htx]; exact (cx j hj).2
  obtain ⟨m1, a1, a2, a3, a4, a5, a6⟩ := W_emp (t := 3) (m := μ) (by decide)
  have T2 : txH tx L (xset (xset m1 36 30 0) 41 0 0) := by
    refine ⟨?_, fun j hj => ?_⟩
    · simp (disch := omega) only [xset_ne, xset_nj, xset_eq, Nat.add_zero]
      rw [a5 36 29 (by decide) (by omega) (by omega)]
      exact uL
    · simp (disch := omega) only [xset_ne, xset_nj, xset_eq, Nat.add_zero]
      rw [a5 29 j (by decide) (by omega) (by omega)]
      exact hH j hj
  have s1 : sk tx L 0 ≤ L := ru_le (Nat.zero_le L)
  have s2 : sk tx L (sk tx L 0) = sk tx L 0 := ru_ru (Nat.zero_le L)
  have e1 := eor (lo := 32) (hi := 32) hL hx (by decide) (by decide) T2 (Nat.zero_le L)
  have e1' : fO_endOfRun 29 (xset (xset m1 36 30 0) 41 0 0) 0 32 32 = some (nI (sk tx L 0)) := e1
  obtain ⟨m3, d, g1, g2, g3, g4, g5, g6, g7⟩ := H_split hL hx T2 xfu 0 (sk tx L 0) (xset (xset m1 36 30 0) 41 0 0) s1 (Nat.zero_le _) (by show L < sk tx L 0 + 100000; omega) s2 (by simp (disch := omega) only [xset_ne, xset_nj, xset_eq, Nat.add_zero]; rfl) (fun _ _ _ _ => rfl)
  have g1' : fO_split_l24 29 xfu (nI (sk tx L 0)) 0 (xset (xset m1 36 30 0) 41 0 0) = some m3 := g1
  have fr : ∀ j x, j ≠ 30 → j ≠ 41 → (j ≠ 36 ∨ x ≠ 30) → m3.1 j x = m1.1 j x := fun j x h1 h2 h3 => by
    rw [g5 j x h1 h3, xset_ne h2]
    rcases h3 with h3 | h3
    · rw [xset_ne h3]
    · by_cases j36 : j = 36
      · subst j36
        simp (disch := omega) only [xset_ne, xset_nj, xset_eq, Nat.add_zero]
      · rw [xset_ne j36]
  have ze : fM_empties 1278 ν = some (xzr ν 1278 426) := M_emp (R := 1278) (m := ν) (by decide)
  have T3 : txM tx L (xset (xzr ν 1278 426) 6 1 0) := by
    refine ⟨?_, fun j hj => ?_⟩
    · simp (disch := omega) only [xset_ne, xset_nj, xset_eq, Nat.add_zero]
      rw [xzr_nb (by decide)]
      exact wL
    · simp (disch := omega) only [xset_ne, xset_nj, xset_eq, Nat.add_zero]
      rw [xzr_nb (by decide), ← (cs j hj).1]
      exact hH j hj
  obtain ⟨ν3, b1, b2, b3, b4⟩ := M_blanks (p := 0) hL hx (Nat.zero_le L) T3 xset_eq
  have z0 : ∀ i, 1278 ≤ i → i < 1704 → ν3.1 0 i = 0 := fun i h1 h2 => by
    rw [b4.1 0 i (by omega)]
    simp (disch := omega) only [xset_ne, xset_nj, xset_eq, Nat.add_zero]
    exact xzr_in h1 (by omega)
  have u36 : ∀ j, j < 7 → m3.1 36 (21 + j) = if j = 2 then 5 else 0 := fun j hj => by
    rw [fr 36 _ (by decide) (by decide) (by omega)]
    exact a2 j hj
  refine ⟨tx, L, m3, ν3, ⟨fun j i z => ?_, ?_, ?_⟩, ⟨fun j i z => ?_, ?_, ?_⟩, ⟨⟨hL, hx⟩, s1, ⟨0, d, by rw [s2]; exact g2, by rw [g3], by omega, ?_⟩, b2, txM_fr T3 b4, ⟨⟨by decide, by decide, by decide, by decide, u36 0 (by decide), z0 _ (by decide) (by decide), fun b c hb => absurd hb (by omega), fun b hb => absurd hb (by omega), fun i hi => absurd hi (by omega)⟩, by decide, ?_, z0 _ (by decide) (by decide), fun j hj => ?_, fun i hi => absurd hi (by omega), ⟨u36 3 (by decide), z0 _ (by decide) (by decide)⟩, ⟨u36 1 (by decide), u36 2 (by decide), u36 4 (by decide), u36 5 (by decide), u36 6 (by decide)⟩, z0 _ (by decide) (by decide), z0 _ (by decide) (by decide), z0 _ (by decide) (by decide), z0 _ (by decide) (by decide)⟩⟩, b3, ?_, ?_⟩
  · unfold sH at z
    rw [fr j i (by omega) (by omega) (by omega), a5 j i (by omega) (by omega) (by omega)]
  · rw [g7]
    show m1.2 0 = _
    rw [a6]
  · rw [g7]
    show m1.2 1 = _
    rw [a6]
  · unfold sM at z
    rw [b4.1 j i (by omega)]
    have e : (xset (xzr ν 1278 426) 6 1 0).1 j i = (xzr ν 1278 426).1 j i := by
      rw [xset_at, if_neg (by omega)]
    rw [e]
    by_cases j0 : j = 0
    · exact xzr_lo (by omega)
    · exact xzr_nb j0
  · rw [b4.2]
    rfl
  · rw [b4.2]
    rfl
  · rw [g5 41 0 (by decide) (by decide)]
    simp (disch := omega) only [xset_ne, xset_nj, xset_eq, Nat.add_zero]
    rfl
  · rw [fr 37 3 (by decide) (by decide) (by decide)]
    exact a4
  · have w0 : m3.1 23 j = 0 := by
      rw [fr 23 j (by decide) (by decide) (by omega)]
      exact a3 j hj
    rw [w0, z0 _ (by omega) (by omega)]
    exact ⟨rfl, 0, by decide, rfl⟩
  · unfold fR_readAll fO_split
    rw [a1, bnd, T_empty, bnd, e1', bnd, g1', bnd]
  · unfold fM_read
    rw [ze, bnd, b1, bnd]
theorem st_read {μ ν : xM} (h : xRel μ ν) : ∃ (r : Int32) (μ2 ν2 : xM), (fH_read μ = some (r, μ2)) ∧ (fM_read ν = some (r, ν2)) ∧ xRel μ2 ν2 := by
  obtain ⟨tx, L, m, ν1, F, G, R, e2, H, M⟩ := read_start h.2.2.2.1
  have s2 : sk tx L (sk tx L 0) = sk tx L 0 := ru_ru (Nat.zero_le L)
  have hL := R.1.1
  obtain ⟨r, m', ν', f, g, z⟩ := read_l xfu (sk tx L 0) 0 0 0 0 m ν1 R s2 e2 (Nat.zero_le _) (by show L + 2 < sk tx L 0 + 100000; omega)
  have h' := rel_sc h (scH_trans F f) (scM_trans G g)
  unfold fH_read
  rw [H, M]
  rcases z with ⟨z1, z2, z3⟩ | ⟨z1, z2, z3, n, k, y, D⟩
  · have z2' : fR_readAll_l17 29 xfu 0 m = some (r, m') := z2
    have z3' : fM_read_l20 xfu 0 1 ν1 = some (r, ν') := z3
    rw [z2', z3', bnd]
    exact ⟨r, m', ν', if_pos z1, rfl, h'⟩
  · have z2' : fR_readAll_l17 29 xfu 0 m = some (r, m') := z2
    have z3' : fM_read_l20 xfu 0 1 ν1 = (fM_copy 1278 0 ν').bind fun r84 => some (r, r84) := z3
    have cp : fM_copy 1278 0 ν' = some (xcb ν' 0 0 0 1278 426) := M_copy (s := 1278) (d := 0) (by decide) (by decide) (by decide)
    obtain ⟨μ1, q1, q2⟩ := from_3 h' (RD_rTw D)
    rw [z2', z3', cp, bnd, bnd]
    refine ⟨r, μ1, _, ?_, rfl, q2⟩
    show (if r < 0 then some (r, m') else (fW_become 0 3 m').bind fun r27 => some (r, r27)) = _
    rw [if_neg z1, q1, bnd]
