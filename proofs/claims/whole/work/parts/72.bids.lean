/-! STEPS: bids -/
theorem gb_some {a b c d : Int32} : ∃ x, fM_getsBy a b c d = some x := by
  unfold fM_getsBy
  split
  · exact ⟨_, rfl⟩
  · split
    · split
      · exact ⟨_, rfl⟩
      · exact ⟨_, rfl⟩
    · exact ⟨_, rfl⟩
theorem fg_eq (w i j : Int32) : fH_firstGets w i j = fM_getsBy w i j 1 := by
  unfold fH_firstGets fM_getsBy
  by_cases h1 : j < i
  · rw [if_neg (Int32.not_lt.mpr (Int32.le_of_lt h1)), if_pos h1]
  · rw [if_neg h1]
    by_cases h2 : i = j
    · rw [if_pos h2, if_neg (by rw [h2]; exact Int32.lt_irrefl), if_neg (by decide)]
    · rw [if_neg h2, if_pos (Int32.lt_of_le_of_ne (Int32.not_lt.mp h1) h2)]
theorem sg_eq (w i j : Int32) : fH_secondGets w i j = fM_getsBy w j i 0 := by
  unfold fH_secondGets fM_getsBy
  by_cases h1 : i < j
  · rw [if_neg (Int32.not_le.mpr h1), if_pos h1]
  · rw [if_pos (Int32.not_lt.mp h1), if_neg h1]
    by_cases h2 : j = i
    · rw [if_pos h2, if_pos rfl]
    · rw [if_neg h2]
theorem rests_l {w i j : Int32} : ∀ (f e : Nat), e ≤ 10 → 10 < e + f → (∃ r, fH_rests_l2 f w i j (nI e) = some r ∧ fM_rests_l5 f w i j 1 (nI e) = some r) ∧ fM_rests_l5 f w i j 0 (nI e) = some 0
  | 0, e, h1, h2 => absurd h2 (by omega)
  | f + 1, e, h1, h2 => by
    unfold fH_rests_l2 fM_rests_l5
    by_cases he : e = 10
    · subst he
      rw [if_pos (show (10 : Int32) ≤ nI 10 by decide), if_pos (show (10 : Int32) ≤ nI 10 by decide), if_pos (show (10 : Int32) ≤ nI 10 by decide)]
      exact ⟨⟨_, rfl, rfl⟩, rfl⟩
    · have c : ¬ (10 : Int32) ≤ nI e := nI_ge (b := 10) (by omega) (by decide)
      obtain ⟨⟨r, i1, i2⟩, i3⟩ := rests_l (w := w) (i := i) (j := j) f (e + 1) (by omega) (by omega)
      rw [if_neg c, if_neg c, if_neg c, xi1, if_pos (show (0 : Int32) = 0 from rfl), fg_eq, fg_eq, sg_eq, sg_eq, nI_1]
      obtain ⟨x1, g1⟩ := gb_some (a := w) (b := nI e) (c := j) (d := 1)
      obtain ⟨x2, g2⟩ := gb_some (a := w) (b := i) (c := j) (d := 1)
      obtain ⟨x3, g3⟩ := gb_some (a := w) (b := nI e) (c := i) (d := 0)
      obtain ⟨x4, g4⟩ := gb_some (a := w) (b := j) (c := i) (d := 0)
      rw [g1, g2, g3, g4]
      simp only [bnd]
      unfold fM_rests_b56 fM_rests_b57
      rw [nI_1]
      by_cases d1 : x2 < x1
      · rw [if_pos d1, if_pos d1]
        exact ⟨⟨_, rfl, i3⟩, i3⟩
      · rw [if_neg d1, if_neg d1]
        by_cases d2 : x3 ≤ x4
        · rw [if_pos d2, if_neg (Int32.not_lt.mpr d2)]
          exact ⟨⟨r, i1, i2⟩, i3⟩
        · rw [if_neg d2, if_pos (Int32.not_le.mp d2)]
          exact ⟨⟨_, rfl, i3⟩, i3⟩
theorem rests_both (w i j : Int32) : ∃ r, fH_rests w i j = some r ∧ fM_rests w i j = some r := (rests_l (w := w) (i := i) (j := j) xfu 0 (by decide) (by decide)).1
theorem bids_l {v w : Int32} {m ν : xM} : ∀ (f p : Nat) (c : Int32), p ≤ 100 → 100 < p + f → ∃ r, fH_bids_l44 f v w c (nI p) m = some (r, m) ∧ fM_bids_l48 f v w c (nI p) ν = some (r, ν)
  | 0, p, c, h1, h2 => absurd h2 (by omega)
  | f + 1, p, c, h1, h2 => by
    unfold fH_bids_l44 fM_bids_l48
    by_cases hp : p = 100
    · subst hp
      rw [if_pos (show (100 : Int32) ≤ nI 100 by decide), if_pos (show (100 : Int32) ≤ nI 100 by decide)]
      by_cases d : v = -1
      · rw [if_pos d, if_pos d]
        exact ⟨_, rfl, rfl⟩
      · rw [if_neg d, if_neg d]
        exact ⟨_, rfl, rfl⟩
    · have hn : ¬ (100 : Int32) ≤ nI p := nI_ge (b := 100) (by omega) (by decide)
      obtain ⟨r, g1, g2⟩ := rests_both w (nI p / 10) (nI p - nI p / 10 * 10)
      rw [if_neg hn, if_neg hn, g1, g2, bnd, bnd]
      unfold fH_bids_b80 fM_bids_b85
      rw [nI_1]
      by_cases d : r = 0
      · rw [if_pos d, if_pos d]
        exact bids_l f (p + 1) c (by omega) (by omega)
      · rw [if_neg d, if_neg d]
        by_cases d2 : c = v
        · rw [if_pos d2, if_pos d2]
          exact ⟨_, rfl, rfl⟩
        · rw [if_neg d2, if_neg d2]
          exact bids_l f (p + 1) (c + 1) (by omega) (by omega)
theorem st_bids {μ ν : xM} (h : xRel μ ν) (v1 : Int32) (v2 : Int32) : ∃ (r : Int32) (μ2 ν2 : xM), (fH_bids v1 v2 μ = some (r, μ2)) ∧ (fM_bids v1 v2 ν = some (r, ν2)) ∧ xRel μ2 ν2 := by
  unfold fH_bids fM_bids
  obtain ⟨n, k, y, hh, a, q, u, B, U, W, hC, hW, hI, hH, hN, hM, hP⟩ := rel_op h
  obtain ⟨b1, b2, b3, b4, b5, b6, b7⟩ := id B
  obtain ⟨u0, u1, u2, u3, u4, u5, u6, uy⟩ := U
  obtain ⟨w0, w1, w2, w3, w4, w5, w6⟩ := W
  rcases xin (Nat.le_trans b2 (by decide)) u3 w1 v1 with ⟨i, hi, rfl, e1, e2⟩ | ⟨e1, e2⟩
  · rw [e1, e2, bnd, bnd, xi1, xi1]
    by_cases c1 : -1 ≤ v2
    · rw [if_pos c1, if_pos c1]
      obtain ⟨p, hp, e3, e4⟩ := play_both (bE_0 b1 b2 u0 w0 hC) hi (s := 0) (by decide) (by rw [show 0 + 44 + i = 44 + i by omega]; exact hI i hi)
      have e3' : fW_playOf 0 μ (nI i) 0 = some (nI p) := by
        unfold fW_playOf
        show (fW_playOn 0 0 μ (nI i) (nI 0) 0).bind _ = _
        rw [e3]; rfl
      have e4' : fM_playsIn ν 0 (nI i) 0 = some (nI p) := e4
      obtain ⟨r, g1, g2⟩ := bids_l (v := v2) (w := xmin (nI p) 9) (m := μ) (ν := ν) xfu 0 0 (by decide) (by decide)
      refine ⟨r, μ, ν, ?_, ?_, h⟩
      · rw [e3']
        exact g1
      · rw [e4', bnd]
        unfold fM_bids_b40
        unfold xmin at g2
        by_cases c : nI p ≤ 9
        · rw [if_neg (Int32.not_lt.mpr c)] at g2
          rw [if_pos c]
          exact g2
        · rw [if_pos (Int32.not_le.mp c)] at g2
          rw [if_neg c]
          exact g2
    · rw [if_neg c1, if_neg c1]
      exact ⟨-10, _, _, rfl, rfl, rel_bad h⟩
  · rw [e1, e2, bnd, bnd, xi0, xi0]
    exact ⟨-10, _, _, rfl, rfl, rel_bad h⟩
