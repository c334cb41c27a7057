/-! STEPS: read; cut, make, board, wet, in both -/
section ITN
variable {tx : Nat → Nat} {L : Nat}
theorem cut_both {p n k y : Nat} {m ν : xM} (h : RS tx L p n k y m ν) : itR tx L p m ν (fR_readCut m) (mC (fM_readsCut ν)) := by
  have D := h.2.2.2.2.2
  have hn := D.1.2.2.1
  have hk := D.1.2.2.2.1
  have un : fB_many 3 m = some (nI n) := by
    unfold fB_many
    rw [B_many, bnd, D.1.2.2.2.2.1]
  have wn : ν.1 0 1278 = nI n := D.1.2.2.2.2.2.1
  unfold fR_readCut fM_readsCut
  rw [un, bnd, xk1278, xl1278, wn]
  obtain ⟨m1, ν1, f, g, e, z⟩ := num_both (lo := 0) (hi := nI n - 1) h
  rcases z with ⟨x, p1, x1, x2, x3, x4, z1, z2, z3, h1⟩ | ⟨z1, z2⟩
  · have hx := le_pred (by omega) (by omega) x3
    have D1 := h1.2.2.2.2.2
    have cell : m1.1 21 (x * 6 + 5) = ν1.1 0 (1316 + x) := by
      have q := D1.1.2.2.2.2.2.2.1 x 5 hx (by decide)
      rw [show 1278 + 8 + 6 * 5 + x = 1316 + x by omega] at q
      exact q
    have fr : fB_isFree 3 m1 (nI x) = some (if ν1.1 0 (1316 + x) = -1 then 1 else 0) := by
      unfold fB_isFree
      rw [B_get (β := 3) (b := x) (c := 5) (v2 := 5) (by decide) rfl rfl (by decide) (by omega), bnd, xnb_1, xnb_0, show xtb 3 = 21 from rfl, cell]
      by_cases c : ν1.1 0 (1316 + x) = -1
      · rw [if_pos c, if_pos c]
      · rw [if_neg c, if_neg c]
    rw [z1, z2, bnd, bnd]
    show itR tx L p m ν (if nI x = -1 then _ else (fB_isFree 3 m1 (nI x)).bind _) (mC (if (1 : Int32) = 0 then _ else _))
    rw [if_neg (fun q => nI_m1 (by omega) q.symm), xi1, fr, bnd, z3, show (1316 : Int32) + nI x = nI (1316 + x) from nI_add 1316 x, xck_nI (by omega) (by decide), nI_clamp (by omega)]
    by_cases c : ν1.1 0 (1316 + x) = -1
    · have uk : fT_many 24 m1 = some (nI k) := by rw [T_many, D1.2.2.2.2.2.2.1.1]
      rw [if_pos c, if_pos c, xi1, uk, bnd, xk1279, xl1279, D1.2.2.2.2.2.2.1.2]
      obtain ⟨m2, ν2, f2, g2, e2, w⟩ := num_both (lo := 0) (hi := nI k - 1) h1
      rcases w with ⟨i, p2, i1, i2, i3, i4, w1, w2, w3, h2⟩ | ⟨w1, w2⟩
      · have hi := le_pred (by omega) (by omega) i3
        have D2 := h2.2.2.2.2.2
        obtain ⟨cb1, cb2⟩ := cnt_both D2.1 (v := nI i)
        have le4 := D2.1.2.2.2.2.2.2.2.2 i hi
        have cb2' : fM_boardsOf ν2 1278 (nI i) = some (nI (cntB n (fun b => m2.1 21 (b * 6 + 5) == nI i))) := cb2
        have cb1' : fB_manyIn 3 m2 (nI i) = some (nI (cntB n (fun b => m2.1 21 (b * 6 + 5) == nI i))) := cb1
        have le4' : cntB n (fun b => m2.1 21 (b * 6 + 5) == nI i) ≤ 4 := le4
        have F := scH_trans (cH_sc f) (cH_sc f2)
        have G := scM_trans (cM_sc g) (cM_sc g2)
        rw [w1, w2, bnd, bnd]
        show itR tx L p m ν (if nI i = -1 then _ else (fB_manyIn 3 m2 (nI i)).bind _) (mC (if (1 : Int32) = 0 then _ else _))
        rw [if_neg (fun q => nI_m1 (by omega) q.symm), xi1, w3, cb1', cb2', bnd, bnd]
        by_cases room : cntB n (fun b => m2.1 21 (b * 6 + 5) == nI i) < 4
        · rw [if_pos (show nI _ < 4 from nI_lt room (by decide)), if_neg (show ¬ nI _ = 4 from nIne (b := 4) room (by decide)), xck_nI (by omega) (by decide), xnb_1, mC_1]
          unfold fB_set
          rw [B_put (β := 3) (b := x) (c := 5) (v2 := 5) (by decide) rfl rfl (by decide) (by omega), bnd, bnd, show xtb 3 = 21 from rfl, show 1316 + x = 1286 + 6 * 5 + x by omega]
          have in2 : m2.1 21 (x * 6 + 5) = -1 := by
            rw [f2.1 21 _ (by decide) (by decide), cell]
            exact c
          have D3 : RD n k y (xset m2 21 (x * 6 + 5) (nI i)) (xset ν2 0 (1286 + 6 * 5 + x) (nI i)) := RD_set D2 hx (by decide) (vB_cut (by omega) D2.1.2.2.2.2.2.2.2 hx hi (fun b' c hb' hc e => by show (xset m2 21 (x * 6 + 5) (nI i)).1 21 _ = m2.1 21 _; simp (disch := omega) only [xset_ne, xset_nj, xset_eq, Nat.add_zero]) xset_eq in2 room)
          exact itR_from (scH_trans F (scH_set (by unfold sH; omega) scH_refl)) (scM_trans G (scM_set (by unfold sM; omega) scM_refl)) (by omega) (stop_fin (RS_up h2 (by funext x; simp (disch := omega) only [xset_ne, xset_nj, xset_eq, Nat.add_zero]) (by simp (disch := omega) only [xset_ne, xset_nj, xset_eq, Nat.add_zero]) (by simp (disch := omega) only [xset_ne, xset_nj, xset_eq, Nat.add_zero]) (by funext x; simp (disch := omega) only [xset_ne, xset_nj, xset_eq, Nat.add_zero]) (by funext x; simp (disch := omega) only [xset_ne, xset_nj, xset_eq, Nat.add_zero]) D3))
        · have c4 : cntB n (fun b => m2.1 21 (b * 6 + 5) == nI i) = 4 := Nat.le_antisymm le4' (Nat.le_of_not_lt room)
          rw [c4, if_neg (show ¬ nI 4 < 4 by decide), if_pos (show nI 4 = 4 from rfl), xnb_0, mC_0]
          exact itR_no F G e2
      · rw [w1, w2, bnd, bnd]
        show itR tx L p m ν (if (-1 : Int32) = -1 then _ else _) (mC (if (0 : Int32) = 0 then _ else _))
        rw [if_pos rfl, xi0, xnb_0, mC_0]
        exact itR_no (scH_trans (cH_sc f) (cH_sc f2)) (scM_trans (cM_sc g) (cM_sc g2)) e2
    · rw [if_neg c, if_neg c, xi0, xnb_0, mC_0]
      exact itR_no (cH_sc f) (cM_sc g) e
  · rw [z1, z2, bnd, bnd]
    show itR tx L p m ν (if (-1 : Int32) = -1 then _ else _) (mC (if (0 : Int32) = 0 then _ else _))
    rw [if_pos rfl, xi0, xnb_0, mC_0]
    exact itR_no (cH_sc f) (cM_sc g) e
theorem make_both {p n k y : Nat} {m ν : xM} (h : RS tx L p n k y m ν) (se : sE m ν) : itR tx L p m ν (fR_readInstrument m) (mC (fM_readsMake ν)) := by
  have D := h.2.2.2.2.2
  have hk := D.1.2.2.2.1
  have uk : fT_many 24 m = some (nI k) := by rw [T_many, D.2.2.2.2.2.2.1.1]
  have wk : ν.1 0 1279 = nI k := D.2.2.2.2.2.2.1.2
  unfold fR_readInstrument fM_readsMake
  rw [uk, bnd, xk1279, xl1279, wk]
  by_cases hk4 : k = 4
  · subst hk4
    rw [if_neg (show ¬ nI 4 < 4 by decide), if_pos (show nI 4 = 4 from rfl), xnb_0, mC_0]
    exact itR_no scH_refl scM_refl se
  · have k4 : k < 4 := by omega
    rw [if_pos (show nI k < 4 from nI_lt k4 (by decide)), if_neg (show ¬ nI k = 4 from nIne (b := 4) k4 (by decide))]
    obtain ⟨m1, ν1, f, g, e, z⟩ := num_both (lo := 0) (hi := 5) h
    rcases z with ⟨x, p1, x1, x2, x3, x4, z1, z2, z3, h1⟩ | ⟨z1, z2⟩
    · have D1 := h1.2.2.2.2.2
      rw [z1, z2, bnd, bnd]
      show itR tx L p m ν (if nI x = -1 then _ else (fW_bringInstrument 3 (nI x) m1).bind _) (mC (if (1 : Int32) = 0 then _ else _))
      have br : fW_bringInstrument 3 (nI x) m1 = some (nI k, xset (xset m1 36 24 (nI (k + 1))) 24 k (nI x)) := by
        unfold fW_bringInstrument
        rw [T_newRow (t := 7 * 3 + 3) (by decide) D1.2.2.2.2.2.2.1.1 (by show k < 4; exact k4), bnd]
        show (fT_put 24 (nI k) 0 (nI x) (xset m1 36 24 (nI (k + 1)))).bind _ = _
        rw [T_put (t := 24) (r := k) (c := 0) (v2 := 0) (by decide) rfl rfl (by decide) (by show k < 4; exact k4), bnd, show k * wN 24 + 0 = k by show k * 1 + 0 = k; omega]
      have w2 : (xset ν1 0 (1322 + k) (nI x)).1 0 1279 = nI k := by simp (disch := omega) only [xset_ne, xset_nj, xset_eq, Nat.add_zero]; exact D1.2.2.2.2.2.2.1.2
      rw [if_neg (fun q => nI_m1 (by omega) q.symm), xi1, br, bnd]
      dsimp only
      simp (disch := omega) only [xk1279, xl1279, D1.2.2.2.2.2.2.1.2, z3, show (1322 : Int32) + nI k = nI (1322 + k) from nI_add 1322 k, xck_nI, nI_clamp, w2, nI_1, xnb_1, mC_1]
      obtain ⟨a1, a2, a3, a4, a5, a6, ⟨a7, a8⟩, ⟨b1, b2, b3, b4, b5⟩, c1, c2, c3, c4⟩ := id D1
      obtain ⟨hβ, hR, hn, hk', u0, w0, hE, hV⟩ := id a1
      have u0' : m1.1 36 21 = nI n := u0
      have hE' : ∀ b c, b < n → c < 6 → m1.1 21 (b * 6 + c) = ν1.1 0 (1278 + 8 + 6 * c + b) := hE
      have D2 : RD n (k + 1) y (xset (xset m1 36 24 (nI (k + 1))) 24 k (nI x)) (xset (xset ν1 0 (1322 + k) (nI x)) 0 1279 (nI (k + 1))) := by
        refine ⟨⟨hβ, hR, hn, by omega, ?_, ?_, fun b c hb hc => ?_, ?_⟩, a2, by simp (disch := omega) only [xset_ne, xset_nj, xset_eq, Nat.add_zero]; exact a3, by simp (disch := omega) only [xset_ne, xset_nj, xset_eq, Nat.add_zero]; exact a4, fun j hj => by simp (disch := omega) only [xset_ne, xset_nj, xset_eq, Nat.add_zero]; exact a5 j hj, fun i hi => ?_, ⟨by simp (disch := omega) only [xset_ne, xset_nj, xset_eq, Nat.add_zero], by simp (disch := omega) only [xset_ne, xset_nj, xset_eq, Nat.add_zero]⟩, ⟨by simp (disch := omega) only [xset_ne, xset_nj, xset_eq, Nat.add_zero]; exact b1, by simp (disch := omega) only [xset_ne, xset_nj, xset_eq, Nat.add_zero]; exact b2, by simp (disch := omega) only [xset_ne, xset_nj, xset_eq, Nat.add_zero]; exact b3, by simp (disch := omega) only [xset_ne, xset_nj, xset_eq, Nat.add_zero]; exact b4, by simp (disch := omega) only [xset_ne, xset_nj, xset_eq, Nat.add_zero]; exact b5⟩, by simp (disch := omega) only [xset_ne, xset_nj, xset_eq, Nat.add_zero]; exact c1, by simp (disch := omega) only [xset_ne, xset_nj, xset_eq, Nat.add_zero]; exact c2, by simp (disch := omega) only [xset_ne, xset_nj, xset_eq, Nat.add_zero]; exact c3, by simp (disch := omega) only [xset_ne, xset_nj, xset_eq, Nat.add_zero]; exact c4⟩
        · show (xset (xset m1 36 24 (nI (k + 1))) 24 k (nI x)).1 36 21 = _
          simp (disch := omega) only [xset_ne, xset_nj, xset_eq, Nat.add_zero]
          exact u0'
        · simp (disch := omega) only [xset_ne, xset_nj, xset_eq, Nat.add_zero]
          exact w0
        · show (xset (xset m1 36 24 (nI (k + 1))) 24 k (nI x)).1 21 (b * 6 + c) = _
          simp (disch := omega) only [xset_ne, xset_nj, xset_eq, Nat.add_zero]
          exact hE' b c hb hc
        · exact vB_congr (fun b c hb hc => by show m1.1 21 (b * 6 + c) = (xset (xset m1 36 24 (nI (k + 1))) 24 k (nI x)).1 21 (b * 6 + c); simp (disch := omega) only [xset_ne, xset_nj, xset_eq, Nat.add_zero]) (vB_more (by omega) hV)
        · by_cases e : i = k
          · subst e
            simp (disch := omega) only [xset_ne, xset_nj, xset_eq, Nat.add_zero]
          · simp (disch := omega) only [xset_ne, xset_nj, xset_eq, Nat.add_zero]
            exact a6 i (by omega)
      exact itR_from (scH_trans (cH_sc f) (scH_set (by unfold sH; omega) (scH_set (by unfold sH; omega) scH_refl))) (scM_trans (cM_sc g) (scM_set (by unfold sM; omega) (scM_set (by unfold sM; omega) scM_refl))) (by omega) (stop_fin (RS_up h1 (by funext x; simp (disch := omega) only [xset_ne, xset_nj, xset_eq, Nat.add_zero]) (by simp (disch := omega) only [xset_ne, xset_nj, xset_eq, Nat.add_zero]) (by simp (disch := omega) only [xset_ne, xset_nj, xset_eq, Nat.add_zero]) (by funext x; simp (disch := omega) only [xset_ne, xset_nj, xset_eq, Nat.add_zero]) (by funext x; simp (disch := omega) only [xset_ne, xset_nj, xset_eq, Nat.add_zero]) D2))
    · rw [z1, z2, bnd, bnd]
      show itR tx L p m ν (if (-1 : Int32) = -1 then _ else _) (mC (if (0 : Int32) = 0 then _ else _))
      rw [if_pos rfl, xi0, xnb_0, mC_0]
      exact itR_no (cH_sc f) (cM_sc g) e
theorem M_adds {n v : Nat} {x1 x2 x3 x4 : Int32} {ν : xM} (hn : n < 6) (w0 : ν.1 0 1278 = nI n) : fM_adds 1278 x1 x2 x3 x4 ν = some (xset (xset (xset (xset (xset (xset (xset ν 0 (1286 + n) x1) 0 (1292 + n) x2) 0 (1298 + n) x3) 0 (1304 + n) x4) 0 (1310 + n) 0) 0 (1316 + n) (-1)) 0 1278 (nI (n + 1))) := by
  have e0 : (1278 : Int32) + 0 = nI 1278 := rfl
  have e8 : (1278 : Int32) + 8 + nI n = nI (1286 + n) := nI_add 1286 n
  have e14 : (1278 : Int32) + 14 + nI n = nI (1292 + n) := nI_add 1292 n
  have e20 : (1278 : Int32) + 20 + nI n = nI (1298 + n) := nI_add 1298 n
  have e26 : (1278 : Int32) + 26 + nI n = nI (1304 + n) := nI_add 1304 n
  have e32 : (1278 : Int32) + 32 + nI n = nI (1310 + n) := nI_add 1310 n
  have e38 : (1278 : Int32) + 38 + nI n = nI (1316 + n) := nI_add 1316 n
  have c0 : (nI 1278).toNatClampNeg = 1278 := nI_clamp (by decide)
  unfold fM_adds
  simp (disch := omega) only [e0, c0, w0, e8, e14, e20, e26, e32, e38, xck_nI, nI_clamp, xset_ne, xset_nj, xset_eq, nI_1]
theorem RD_board {n k y a1 a2 a3 a4 : Nat} {m ν : xM} (h : RD n k y m ν) (hn : n < 6) (h1 : a1 < 6) (h2 : a2 ≤ 99) (h3 : a3 ≤ 9) (h4 : a4 < 4) : RD (n + 1) k y (xset (xset (xset (xset (xset (xset (xset m 36 21 (nI (n + 1))) 21 (n * 6 + 0) (nI a1)) 21 (n * 6 + 1) (nI a2)) 21 (n * 6 + 2) (nI a3)) 21 (n * 6 + 3) (nI a4)) 21 (n * 6 + 4) 0) 21 (n * 6 + 5) (-1)) (xset (xset (xset (xset (xset (xset (xset ν 0 (1286 + n) (nI a1)) 0 (1292 + n) (nI a2)) 0 (1298 + n) (nI a3)) 0 (1304 + n) (nI a4)) 0 (1310 + n) 0) 0 (1316 + n) (-1)) 0 1278 (nI (n + 1))) := by
  obtain ⟨d1, d2, d3, d4, d5, d6, ⟨d7, d8⟩, ⟨b1, b2, b3, b4, b5⟩, c1, c2, c3, c4⟩ := h
  obtain ⟨hβ, hR, hn', hk', u0, w0, hE, hV⟩ := id d1
  have hE' : ∀ b c, b < n → c < 6 → m.1 21 (b * 6 + c) = ν.1 0 (1278 + 8 + 6 * c + b) := hE
  refine ⟨⟨hβ, hR, by omega, hk', ?_, ?_, fun b c hb hc => ?_, ?_⟩, d2, by simp (disch := omega) only [xset_ne, xset_nj, xset_eq, Nat.add_zero]; exact d3, by simp (disch := omega) only [xset_ne, xset_nj, xset_eq, Nat.add_zero]; exact d4, fun j hj => by simp (disch := omega) only [xset_ne, xset_nj, xset_eq, Nat.add_zero]; exact d5 j hj, fun i hi => by simp (disch := omega) only [xset_ne, xset_nj, xset_eq, Nat.add_zero]; exact d6 i hi, ⟨by simp (disch := omega) only [xset_ne, xset_nj, xset_eq, Nat.add_zero]; exact d7, by simp (disch := omega) only [xset_ne, xset_nj, xset_eq, Nat.add_zero]; exact d8⟩, ⟨by simp (disch := omega) only [xset_ne, xset_nj, xset_eq, Nat.add_zero]; exact b1, by simp (disch := omega) only [xset_ne, xset_nj, xset_eq, Nat.add_zero]; exact b2, by simp (disch := omega) only [xset_ne, xset_nj, xset_eq, Nat.add_zero]; exact b3, by simp (disch := omega) only [xset_ne, xset_nj, xset_eq, Nat.add_zero]; exact b4, by simp (disch := omega) only [xset_ne, xset_nj, xset_eq, Nat.add_zero]; exact b5⟩, by simp (disch := omega) only [xset_ne, xset_nj, xset_eq, Nat.add_zero]; exact c1, by simp (disch := omega) only [xset_ne, xset_nj, xset_eq, Nat.add_zero]; exact c2, by simp (disch := omega) only [xset_ne, xset_nj, xset_eq, Nat.add_zero]; exact c3, by simp (disch := omega) only [xset_ne, xset_nj, xset_eq, Nat.add_zero]; exact c4⟩
  · show (xset (xset (xset (xset (xset (xset (xset m 36 21 (nI (n + 1))) 21 (n * 6 + 0) (nI a1)) 21 (n * 6 + 1) (nI a2)) 21 (n * 6 + 2) (nI a3)) 21 (n * 6 + 3) (nI a4)) 21 (n * 6 + 4) 0) 21 (n * 6 + 5) (-1)).1 36 21 = _
    simp (disch := omega) only [xset_ne, xset_nj, xset_eq, Nat.add_zero]
  · simp (disch := omega) only [xset_ne, xset_nj, xset_eq, Nat.add_zero]
  · show (xset (xset (xset (xset (xset (xset (xset m 36 21 (nI (n + 1))) 21 (n * 6 + 0) (nI a1)) 21 (n * 6 + 1) (nI a2)) 21 (n * 6 + 2) (nI a3)) 21 (n * 6 + 3) (nI a4)) 21 (n * 6 + 4) 0) 21 (n * 6 + 5) (-1)).1 21 (b * 6 + c) = _
    by_cases e : b = n
    · subst e
      rcases (show c = 0 ∨ c = 1 ∨ c = 2 ∨ c = 3 ∨ c = 4 ∨ c = 5 by omega) with rfl | rfl | rfl | rfl | rfl | rfl
      · rw [show 1278 + 8 + 6 * 0 + b = 1286 + b by omega]; simp (disch := omega) only [xset_ne, xset_nj, xset_eq, Nat.add_zero]
      · rw [show 1278 + 8 + 6 * 1 + b = 1292 + b by omega]; simp (disch := omega) only [xset_ne, xset_nj, xset_eq, Nat.add_zero]
      · rw [show 1278 + 8 + 6 * 2 + b = 1298 + b by omega]; simp (disch := omega) only [xset_ne, xset_nj, xset_eq, Nat.add_zero]
      · rw [show 1278 + 8 + 6 * 3 + b = 1304 + b by omega]; simp (disch := omega) only [xset_ne, xset_nj, xset_eq, Nat.add_zero]
      · rw [show 1278 + 8 + 6 * 4 + b = 1310 + b by omega]; simp (disch := omega) only [xset_ne, xset_nj, xset_eq, Nat.add_zero]
      · rw [show 1278 + 8 + 6 * 5 + b = 1316 + b by omega]; simp (disch := omega) only [xset_ne, xset_nj, xset_eq, Nat.add_zero]
    · simp (disch := omega) only [xset_ne, xset_nj, xset_eq, Nat.add_zero]
      exact hE' b c (by omega) hc
  · exact vB_board (by omega) hV (fun b c hb hc => by show m.1 21 (b * 6 + c) = (xset (xset (xset (xset (xset (xset (xset m 36 21 (nI (n + 1))) 21 (n * 6 + 0) (nI a1)) 21 (n * 6 + 1) (nI a2)) 21 (n * 6 + 2) (nI a3)) 21 (n * 6 + 3) (nI a4)) 21 (n * 6 + 4) 0) 21 (n * 6 + 5) (-1)).1 21 (b * 6 + c); simp (disch := omega) only [xset_ne, xset_nj, xset_eq, Nat.add_zero]) ⟨a1, h1, by show (xset (xset (xset (xset (xset (xset (xset m 36 21 (nI (n + 1))) 21 (n * 6 + 0) (nI a1)) 21 (n * 6 + 1) (nI a2)) 21 (n * 6 + 2) (nI a3)) 21 (n * 6 + 3) (nI a4)) 21 (n * 6 + 4) 0) 21 (n * 6 + 5) (-1)).1 21 (n * 6 + 0) = _; simp (disch := omega) only [xset_ne, xset_nj, xset_eq, Nat.add_zero]⟩ ⟨a2, h2, by show (xset (xset (xset (xset (xset (xset (xset m 36 21 (nI (n + 1))) 21 (n * 6 + 0) (nI a1)) 21 (n * 6 + 1) (nI a2)) 21 (n * 6 + 2) (nI a3)) 21 (n * 6 + 3) (nI a4)) 21 (n * 6 + 4) 0) 21 (n * 6 + 5) (-1)).1 21 (n * 6 + 1) = _; simp (disch := omega) only [xset_ne, xset_nj, xset_eq, Nat.add_zero]⟩ ⟨a3, h3, by show (xset (xset (xset (xset (xset (xset (xset m 36 21 (nI (n + 1))) 21 (n * 6 + 0) (nI a1)) 21 (n * 6 + 1) (nI a2)) 21 (n * 6 + 2) (nI a3)) 21 (n * 6 + 3) (nI a4)) 21 (n * 6 + 4) 0) 21 (n * 6 + 5) (-1)).1 21 (n * 6 + 2) = _; simp (disch := omega) only [xset_ne, xset_nj, xset_eq, Nat.add_zero]⟩ ⟨a4, h4, by show (xset (xset (xset (xset (xset (xset (xset m 36 21 (nI (n + 1))) 21 (n * 6 + 0) (nI a1)) 21 (n * 6 + 1) (nI a2)) 21 (n * 6 + 2) (nI a3)) 21 (n * 6 + 3) (nI a4)) 21 (n * 6 + 4) 0) 21 (n * 6 + 5) (-1)).1 21 (n * 6 + 3) = _; simp (disch := omega) only [xset_ne, xset_nj, xset_eq, Nat.add_zero]⟩ (by show (xset (xset (xset (xset (xset (xset (xset m 36 21 (nI (n + 1))) 21 (n * 6 + 0) (nI a1)) 21 (n * 6 + 1) (nI a2)) 21 (n * 6 + 2) (nI a3)) 21 (n * 6 + 3) (nI a4)) 21 (n * 6 + 4) 0) 21 (n * 6 + 5) (-1)).1 21 (n * 6 + 4) = _; simp (disch := omega) only [xset_ne, xset_nj, xset_eq, Nat.add_zero]) (by show (xset (xset (xset (xset (xset (xset (xset m 36 21 (nI (n + 1))) 21 (n * 6 + 0) (nI a1)) 21 (n * 6 + 1) (nI a2)) 21 (n * 6 + 2) (nI a3)) 21 (n * 6 + 3) (nI a4)) 21 (n * 6 + 4) 0) 21 (n * 6 + 5) (-1)).1 21 (n * 6 + 5) = _; simp (disch := omega) only [xset_ne, xset_nj, xset_eq, Nat.add_zero])
theorem H_bring {n : Nat} {x1 x2 x3 x4 : Int32} {m : xM} (hn : n < 6) (u0 : m.1 36 21 = nI n) : fB_bring 3 x1 x2 x3 x4 m = some (nI n, xset (xset (xset (xset (xset (xset (xset m 36 21 (nI (n + 1))) 21 (n * 6 + 0) x1) 21 (n * 6 + 1) x2) 21 (n * 6 + 2) x3) 21 (n * 6 + 3) x4) 21 (n * 6 + 4) 0) 21 (n * 6 + 5) (-1)) := by
  unfold fB_bring
  have s0 : fT_newRow (xtb 3) m = some (nI n, xset m 36 21 (nI (n + 1))) := T_newRow (t := 21) (by decide) u0 hn
  have sp : ∀ (c : Nat) (v2 v : Int32) m, v2 = nI c → c < 6 → fT_put (xtb 3) (nI n) v2 v m = some (xset m 21 (n * 6 + c) v) := fun c v2 v m e hc => B_put (β := 3) (b := n) (c := c) (by decide) rfl e hc hn
  rw [s0, bnd, sp 0 0 _ _ rfl (by decide), bnd, sp 1 1 _ _ rfl (by decide), bnd, sp 2 2 _ _ rfl (by decide), bnd, sp 3 3 _ _ rfl (by decide), bnd, sp 4 4 _ _ rfl (by decide), bnd, sp 5 5 _ _ rfl (by decide), bnd]
theorem nI_le5 {x c : Nat} {v : Int32} (hx : x < 1000) (hc : c < 1000) (hv : v = nI c) (h : nI x ≤ v) : x ≤ c := by
  subst hv
  exact (nI_leI (by omega) (by omega)).mp h
theorem board_both {p n k y : Nat} {m ν : xM} (h : RS tx L p n k y m ν) (se : sE m ν) : itR tx L p m ν (fR_readBoard m) (mC (fM_readsBoard ν)) := by
  have D := h.2.2.2.2.2
  have hn := D.1.2.2.1
  have un : fB_many 3 m = some (nI n) := by
    unfold fB_many
    rw [B_many, bnd, D.1.2.2.2.2.1]
  have wn : ν.1 0 1278 = nI n := D.1.2.2.2.2.2.1
  have ne : ∀ x, x ≤ 99 → ¬ nI x = -1 := fun x hx q => nI_m1 (by omega) q.symm
  unfold fR_readBoard fM_readsBoard
  rw [un, bnd, xk1278, xl1278, wn]
  by_cases hn6 : n = 6
  · subst hn6
    rw [if_neg (show ¬ nI 6 < 6 by decide), if_pos (show nI 6 = 6 from rfl), xnb_0, mC_0]
    exact itR_no scH_refl scM_refl se
  · have n6 : n < 6 := by omega
    rw [if_pos (show nI n < 6 from nI_lt n6 (by decide)), if_neg (show ¬ nI n = 6 from nIne (b := 6) n6 (by decide))]
    unfold fR_readBoard_b40 fR_readBoard_b57 fR_readBoard_b73
    obtain ⟨m1, ν1, f1, g1, e1, z⟩ := num_both (lo := 0) (hi := 5) h
    rcases z with ⟨x1, p1, xa1, xb1, xc1, xd1, za1, zb1, zc1, h1⟩ | ⟨z1, z2⟩
    · rw [za1, zb1, bnd, bnd]
      show itR tx L p m ν (if nI x1 = -1 then _ else (fR_takeNumber 0 99 m1).bind _) (mC (if (1 : Int32) = 0 then _ else (fM_takesNumber 0 99 ν1).bind _))
      rw [if_neg (ne x1 xa1), xi1]
      obtain ⟨m2, ν2, f2, g2, e2, z⟩ := num_both (lo := 0) (hi := 99) h1
      have F2 := scH_trans (cH_sc f1) (cH_sc f2)
      have G2 := scM_trans (cM_sc g1) (cM_sc g2)
      rcases z with ⟨x2, p2, xa2, xb2, xc2, xd2, za2, zb2, zc2, h2⟩ | ⟨z1, z2⟩
      · rw [za2, zb2, bnd, bnd]
        show itR tx L p m ν (if nI x2 = -1 then _ else (fR_takeNumber 0 9 m2).bind _) (mC (if (1 : Int32) = 0 then _ else (fM_takesNumber 0 9 ν2).bind _))
        rw [if_neg (ne x2 xa2), xi1]
        obtain ⟨m3, ν3, f3, g3, e3, z⟩ := num_both (lo := 0) (hi := 9) h2
        have F3 := scH_trans F2 (cH_sc f3)
        have G3 := scM_trans G2 (cM_sc g3)
        rcases z with ⟨x3, p3, xa3, xb3, xc3, xd3, za3, zb3, zc3, h3⟩ | ⟨z1, z2⟩
        · rw [za3, zb3, bnd, bnd]
          show itR tx L p m ν (if nI x3 = -1 then _ else (fR_takeNumber 0 3 m3).bind _) (mC (if (1 : Int32) = 0 then _ else (fM_takesNumber 0 3 ν3).bind _))
          rw [if_neg (ne x3 xa3), xi1]
          obtain ⟨m4, ν4, f4, g4, e4, z⟩ := num_both (lo := 0) (hi := 3) h3
          have F4 := scH_trans F3 (cH_sc f4)
          have G4 := scM_trans G3 (cM_sc g4)
          rcases z with ⟨x4, p4, xa4, xb4, xc4, xd4, za4, zb4, zc4, h4⟩ | ⟨z1, z2⟩
          · have D4 := h4.2.2.2.2.2
            rw [za4, zb4, bnd, bnd]
            show itR tx L p m ν (if nI x4 = -1 then _ else (fB_bring 3 (nI x1) (nI x2) (nI x3) (nI x4) m4).bind _) (mC (if (1 : Int32) = 0 then _ else (fM_adds 1278 (ν1.1 6 3) (ν2.1 6 3) (ν3.1 6 3) (ν4.1 6 3) ν4).bind _))
            rw [if_neg (ne x4 xa4), xi1, H_bring n6 D4.1.2.2.2.2.1, bnd, zc1, zc2, zc3, zc4, M_adds (v := 0) n6 D4.1.2.2.2.2.2.1, bnd, xnb_1, mC_1]
            have D5 := RD_board D4 n6 (a1 := x1) (a2 := x2) (a3 := x3) (a4 := x4) (by have := nI_le5 (by omega) (by decide) (show (5 : Int32) = nI 5 from rfl) xc1; omega) xa2 (nI_le5 (by omega) (by decide) (show (9 : Int32) = nI 9 from rfl) xc3) (by have := nI_le5 (by omega) (by decide) (show (3 : Int32) = nI 3 from rfl) xc4; omega)
            exact itR_from (scH_trans F4 (scH_set (by unfold sH; omega) (scH_set (by unfold sH; omega) (scH_set (by unfold sH; omega) (scH_set (by unfold sH; omega) (scH_set (by unfold sH; omega) (scH_set (by unfold sH; omega) (scH_set (by unfold sH; omega) scH_refl)))))))) (scM_trans G4 (scM_set (by unfold sM; omega) (scM_set (by unfold sM; omega) (scM_set (by unfold sM; omega) (scM_set (by unfold sM; omega) (scM_set (by unfold sM; omega) (scM_set (by unfold sM; omega) (scM_set (by unfold sM; omega) scM_refl)))))))) (by omega) (stop_fin (RS_up h4 (by funext x; simp (disch := omega) only [xset_ne, xset_nj, xset_eq, Nat.add_zero]) (by simp (disch := omega) only [xset_ne, xset_nj, xset_eq, Nat.add_zero]) (by simp (disch := omega) only [xset_ne, xset_nj, xset_eq, Nat.add_zero]) (by funext x; simp (disch := omega) only [xset_ne, xset_nj, xset_eq, Nat.add_zero]) (by funext x; simp (disch := omega) only [xset_ne, xset_nj, xset_eq, Nat.add_zero]) D5))
          · rw [z1, z2, bnd, bnd]
            show itR tx L p m ν (if (-1 : Int32) = -1 then _ else _) (mC (if (0 : Int32) = 0 then _ else _))
            rw [if_pos rfl, xi0, xnb_0, mC_0]
            exact itR_no F4 G4 e4
        · rw [z1, z2, bnd, bnd]
          show itR tx L p m ν (if (-1 : Int32) = -1 then _ else _) (mC (if (0 : Int32) = 0 then _ else _))
          rw [if_pos rfl, if_pos rfl, xi0, xnb_0, mC_0]
          exact itR_no F3 G3 e3
      · rw [z1, z2, bnd, bnd]
        show itR tx L p m ν (if (-1 : Int32) = -1 then _ else _) (mC (if (0 : Int32) = 0 then _ else _))
        rw [if_pos rfl, if_pos rfl, if_pos rfl, xi0, xnb_0, mC_0]
        exact itR_no F2 G2 e2
    · rw [z1, z2, bnd, bnd]
      show itR tx L p m ν (if (-1 : Int32) = -1 then _ else _) (mC (if (0 : Int32) = 0 then _ else _))
      rw [if_pos rfl, if_pos rfl, if_pos rfl, if_pos rfl, xi0, xnb_0, mC_0]
      exact itR_no (cH_sc f1) (cM_sc g1) e1
end ITN
