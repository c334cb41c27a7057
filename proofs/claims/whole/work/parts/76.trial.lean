/-! STEPS: then, waits, generations -/
theorem M_try2 : ∀ (f i : Nat) (m : xM), i ≤ 48 → 48 < i + f → fM_tries_l2 f (nI i) m = some (xcb m 0 0 (1704 + i) i (48 - i))
  | 0, i, m, h1, h2 => absurd h2 (by omega)
  | f + 1, i, m, h1, h2 => by
    unfold fM_tries_l2
    by_cases hi : i = 48
    · subst hi
      rw [if_pos (by decide), show 48 - 48 = 0 from rfl, xcb_0]
    · rw [if_neg (show ¬ (48 : Int32) ≤ nI i from nI_ge (b := 48) (by omega) (by decide)), show (1704 : Int32) + nI i = nI (1704 + i) from nI_add 1704 i, nI_1, xck_nI (by omega) (by decide), xck_nI (by omega) (by decide), nI_clamp (by omega), nI_clamp (by omega), M_try2 f (i + 1) _ (by omega) (by omega)]
      have e1 : 48 - i = 48 - (i + 1) + 1 := by omega
      rw [e1, ← xcb_step (m := m) (by omega)]
      rfl
theorem M_try {m : xM} : fM_tries m = some (xcb m 0 0 1704 0 48) := M_try2 xfu 0 m (by decide) (by decide)
/-- boards tried: n of them, k instruments, year y -/
def tR (n k y : Nat) (m ν : xM) : Prop := bE n k 4 1704 m ν ∧ m.1 37 4 = nI y ∧ ν.1 0 1706 = nI y ∧ (∀ j, j < 5 → m.1 2 j = ν.1 0 (1707 + j) ∧ ∃ x, x ≤ 4 ∧ m.1 2 j = nI x) ∧ (∀ i, i < k → m.1 3 i = ν.1 0 (1748 + i)) ∧ m.1 36 3 = nI k ∧ ν.1 0 1 = nI k
theorem try_both {μ ν : xM} {n k y hh a q u : Nat} (H : rT n k y hh a q u μ.1 (μ.1 36) (μ.1 37 0) (ν.1 0)) : ∃ m' ν', fB_become 4 0 μ = some m' ∧ fM_tries ν = some ν' ∧ tR n k y m' ν' ∧ scH μ m' ∧ scM ν ν' ∧ (∀ b c, b < n → c < 6 → m'.1 28 (b * 6 + c) = μ.1 0 (b * 6 + c)) ∧ (∀ i, i < 1704 → ν'.1 0 i = ν.1 0 i) ∧ (∀ i, i < 48 → ν'.1 0 (1704 + i) = ν.1 0 i) := by
  obtain ⟨B, U, W, hC, hW, hI, -⟩ := H
  obtain ⟨b1, b2, b3, b4, b5, b6, b7⟩ := id B
  obtain ⟨u0, u1, u2, u3, u4, u5, u6, uy⟩ := U
  obtain ⟨w0, w1, w2, w3, w4, w5, w6⟩ := W
  obtain ⟨m1, s1, s2, s3, s4, s5⟩ := T_bec (t := 28) (t1 := 0) (m := μ) (u := n) (by decide) (by decide) (by decide) (by decide) u0 (by show n ≤ 6; exact b1)
  have cell : ∀ b c, b < n → c < 6 → (xset m1 37 4 (m1.1 37 0)).1 28 (b * 6 + c) = μ.1 0 (b * 6 + c) := fun b c hb hc => by
    rw [xset_ne (by decide)]
    exact s2 _ (by show b * 6 + c < 36; omega)
  have cp : ∀ i, i < 48 → (xcb ν 0 0 1704 0 48).1 0 (1704 + i) = ν.1 0 i := fun i hi => by
    rw [xcb_in (by omega) (by omega), show 0 + (1704 + i - 1704) = i by omega]
  have lo : ∀ i, i < 1704 → (xcb ν 0 0 1704 0 48).1 0 i = ν.1 0 i := fun i hi => xcb_lo (by omega)
  have f : ∀ j x, j ≠ 28 → (j ≠ 36 ∨ x ≠ 28) → (j ≠ 37 ∨ x ≠ 4) → (xset m1 37 4 (m1.1 37 0)).1 j x = μ.1 j x := fun j x z1 z2 z3 => by
    rcases z3 with z3 | z3
    · rw [xset_ne z3, s4 j x z1 z2]
    · rw [xset_nj z3, s4 j x z1 z2]
  refine ⟨xset m1 37 4 (m1.1 37 0), xcb ν 0 0 1704 0 48, ?_, M_try, ⟨⟨by decide, by decide, b1, b2, ?_, ?_, ?_, ?_⟩, ?_, ?_, ?_, ?_, ?_, ?_⟩, ⟨fun j i z => ?_, ?_, ?_⟩, scM_cb (fun x h1 h2 => (by unfold sM; omega)) scM_refl, cell, lo, cp⟩
  · unfold fB_become
    show (fT_become 28 0 μ).bind _ = _
    rw [s1]
    rfl
  · show (xset m1 37 4 (m1.1 37 0)).1 36 28 = _
    rw [xset_ne (by decide), s3, u0]
  · rw [show (1704 : Nat) = 1704 + 0 from rfl, cp 0 (by decide)]
    exact w0
  · intro b c hb hc
    show (xset m1 37 4 (m1.1 37 0)).1 28 (b * 6 + c) = _
    rw [cell b c hb hc, show 1704 + 8 + 6 * c + b = 1704 + (8 + 6 * c + b) by omega, cp _ (by omega)]
    exact hC.1 b c hb hc
  · exact vB_congr (fun b c hb hc => (cell b c hb hc).symm) hC.2
  · rw [xset_eq, s4 37 0 (by decide) (by decide), uy]
  · rw [show (1706 : Nat) = 1704 + 2 from rfl, cp 2 (by decide)]
    exact w2
  · intro j hj
    rw [f 2 j (by omega) (by omega) (by omega), show 1707 + j = 1704 + (3 + j) by omega, cp _ (by omega)]
    exact hW j hj
  · intro i hi
    rw [f 3 i (by omega) (by omega) (by omega), show 1748 + i = 1704 + (44 + i) by omega, cp _ (by omega)]
    exact hI i hi
  · rw [f 36 3 (by decide) (by decide) (by decide)]; exact u3
  · rw [lo 1 (by decide)]; exact w1
  · unfold sH at z
    exact f j i (by omega) (by omega) (by omega)
  · show m1.2 0 = _
    rw [s5]
  · show m1.2 1 = _
    rw [s5]
theorem tR_pass {n k y : Nat} {m ν : xM} (h : tR n k y m ν) (hy : y < 2000) : ∃ m' ν', fB_passYear 4 2 m = some m' ∧ fM_passes 1704 ν = some ν' ∧ tR n k (y + 1) m' ν' ∧ scH m m' ∧ scM ν ν' := by
  obtain ⟨hE, y1, y2, hW, hI, k1, k2⟩ := h
  obtain ⟨m', ν', p1, p2, p3, p4, p5, p6, p7, p8, p9⟩ := pass_both (t1 := 2) hE hy y1 y2 (Or.inl rfl) (fun j hj => by rw [show 1704 + 3 + j = 1707 + j by omega]; exact hW j hj)
  have xt : xtb 4 = 28 := rfl
  rw [xt] at p6
  refine ⟨m', ν', p1, p2, ⟨p3, p4, p5, fun j hj => ?_, fun i hi => ?_, ?_, ?_⟩, ⟨fun j i z => ?_, by rw [p7], by rw [p7]⟩, ⟨fun j i z => ?_, by rw [p9], by rw [p9]⟩⟩
  · rw [p6 2 j (by omega) (by omega), p8 0 _ (by omega)]
    exact hW j hj
  · rw [p6 3 i (by omega) (by omega), p8 0 _ (by have := hE.2.2.2.1; omega)]
    exact hI i hi
  · rw [p6 36 3 (by decide) (by decide)]; exact k1
  · rw [p8 0 1 (by omega)]; exact k2
  · unfold sH at z
    exact p6 j i (by omega) (by omega)
  · unfold sM at z
    exact p8 j i (by omega)
theorem tR_play {n k y : Nat} {m ν : xM} (h : tR n k y m ν) {i s : Nat} (hi : i < k) (hs : s < 4) : ∃ p, p ≤ 1000 ∧ fW_playOn 0 4 m (nI i) (nI s) 0 = some (nI p) ∧ fM_playsIn ν 1704 (nI i) (nI s) = some (nI p) := by
  obtain ⟨hE, y1, y2, hW, hI, k1, k2⟩ := h
  exact play_both hE hi hs (by rw [show 1704 + 44 + i = 1748 + i by omega]; exact hI i hi)
theorem then_l {n k i s M : Nat} (hi : i < k) (hs : s < 4) (hM : M < 1000) : ∀ (f c y : Nat) (m ν : xM), c ≤ M → M < c + f → tR n k y m ν → y + (M - c) < 2000 → ∃ r m' ν', fH_then_l50 f (nI i) (nI s) (nI M) (nI c) m = some (r, m') ∧ fM_then_l41 f (nI i) (nI s) (nI M) (nI c) ν = some (r, ν') ∧ scH m m' ∧ scM ν ν'
  | 0, c, y, m, ν, h1, h2, h, h3 => absurd h2 (by omega)
  | f + 1, c, y, m, ν, h1, h2, h, h3 => by
    unfold fH_then_l50 fM_then_l41
    by_cases hc : c = M
    · subst hc
      obtain ⟨p, hp, e1, e2⟩ := tR_play h hi hs
      rw [if_pos (nI_le (Nat.le_refl _) (by omega)), if_pos (nI_le (Nat.le_refl _) (by omega)), e1, e2]
      exact ⟨_, _, _, rfl, rfl, scH_refl, scM_refl⟩
    · have cc := nI_ge (a := c) (b := M) (by omega) (by omega)
      obtain ⟨m1, ν1, p1, p2, p3, p4, p5⟩ := tR_pass h (by omega)
      rw [if_neg cc, if_neg cc, p1, p2, bnd, bnd, nI_1]
      obtain ⟨r, m2, ν2, q1, q2, q3, q4⟩ := then_l hi hs hM f (c + 1) (y + 1) m1 ν1 (by omega) (by omega) p3 (by omega)
      exact ⟨r, m2, ν2, q1, q2, scH_trans p4 q3, scM_trans p5 q4⟩
theorem st_then {μ ν : xM} (h : xRel μ ν) (v1 : Int32) (v2 : Int32) (v3 : Int32) : ∃ (r : Int32) (μ2 ν2 : xM), (fH_then v1 v2 v3 μ = some (r, μ2)) ∧ (fM_then v1 v2 v3 ν = some (r, ν2)) ∧ xRel μ2 ν2 := by
  unfold fH_then fM_then
  obtain ⟨n, k, y, hh, a, q, u, H⟩ := rel_op h
  obtain ⟨B, U, W, hC, hW, hI, hH, hN, hM, hP⟩ := id H
  obtain ⟨b1, b2, b3, b4, b5, b6, b7⟩ := id B
  obtain ⟨u0, u1, u2, u3, u4, u5, u6, uy⟩ := U
  obtain ⟨w0, w1, w2, w3, w4, w5, w6⟩ := W
  rcases xin (Nat.le_trans b2 (by decide)) u3 w1 v1 with ⟨i, hi, rfl, e1, e2⟩ | ⟨e1, e2⟩
  · rw [e1, e2, bnd, bnd, xi1, xi1, xsgb, xsmb]
    by_cases c1 : 0 ≤ v2 ∧ v2 ≤ 3
    · rw [if_pos c1, if_pos c1, xwb, xib2 (y := 0) (z := 60) (a := 0) (b := 60) rfl rfl]
      obtain ⟨s, hs, rfl⟩ := nI_of2 (M := 3) (n := 3) rfl (Int32.not_lt.mpr c1.1) c1.2
      by_cases c2 : 0 ≤ v3 ∧ v3 ≤ 60
      · rw [if_pos c2, if_pos c2]
        obtain ⟨x, hx, rfl⟩ := nI_of2 (M := 60) (n := 60) rfl (Int32.not_lt.mpr c2.1) c2.2
        obtain ⟨m1, ν1, p1, p2, p3, p4, p5, -⟩ := try_both H
        obtain ⟨r, m2, ν2, q1, q2, q3, q4⟩ := then_l (M := x) hi (s := s) (by omega) (by omega) xfu 0 y m1 ν1 (by omega) (by show x < 0 + 100000; omega) p3 (by omega)
        refine ⟨r, m2, ν2, ?_, ?_, rel_sc h (scH_trans p4 q3) (scM_trans p5 q4)⟩
        · rw [p1, bnd]
          exact q1
        · rw [p2, bnd]
          exact q2
      · rw [if_neg c2, if_neg c2]
        exact ⟨-2, _, _, rfl, rfl, rel_bad h⟩
    · rw [if_neg c1, if_neg c1]
      exact ⟨-2, _, _, rfl, rfl, rel_bad h⟩
  · rw [e1, e2, bnd, bnd, xi0, xi0]
    exact ⟨-2, _, _, rfl, rfl, rel_bad h⟩
theorem waits_l {n k b s : Nat} {x : Int32} (hb : b < n) (hs : s < 4) : ∀ (f c y : Nat) (m ν : xM), c ≤ 61 → 61 < c + f → tR n k y m ν → y + (61 - c) < 2000 → ∃ r m' ν', fH_waits_l53 f (nI b) (nI s) x (nI c) m = some (r, m') ∧ fM_waits_l41 f (nI b) (nI s) x (nI c) ν = some (r, ν') ∧ scH m m' ∧ scM ν ν'
  | 0, c, y, m, ν, h1, h2, h, h3 => absurd h2 (by omega)
  | f + 1, c, y, m, ν, h1, h2, h, h3 => by
    unfold fH_waits_l53 fM_waits_l41
    by_cases hc : c = 61
    · subst hc
      rw [if_pos (by decide), if_pos (by decide)]
      exact ⟨_, _, _, rfl, rfl, scH_refl, scM_refl⟩
    · have cc : ¬ (60 : Int32) < nI c := nI_nlt (b := c) (a := 60) (by omega) (by decide)
      obtain ⟨z, hz, e1, e2⟩ := snd_both h.1 hb hs
      have e2' : fM_soundsIn ν 1704 (nI b) (nI s) = some (nI z) := e2
      rw [if_neg cc, if_neg cc, e1, e2', bnd, bnd]
      by_cases d : nI z < x
      · obtain ⟨m1, ν1, p1, p2, p3, p4, p5⟩ := tR_pass h (by omega)
        rw [if_pos d, if_pos d, p1, p2, bnd, bnd, nI_1]
        obtain ⟨r, m2, ν2, q1, q2, q3, q4⟩ := waits_l (x := x) hb hs f (c + 1) (y + 1) m1 ν1 (by omega) (by omega) p3 (by omega)
        exact ⟨r, m2, ν2, q1, q2, scH_trans p4 q3, scM_trans p5 q4⟩
      · rw [if_neg d, if_neg d]
        exact ⟨_, _, _, rfl, rfl, scH_refl, scM_refl⟩
theorem st_waits {μ ν : xM} (h : xRel μ ν) (v1 : Int32) (v2 : Int32) (v3 : Int32) : ∃ (r : Int32) (μ2 ν2 : xM), (fH_waits v1 v2 v3 μ = some (r, μ2)) ∧ (fM_waits v1 v2 v3 ν = some (r, ν2)) ∧ xRel μ2 ν2 := by
  unfold fH_waits fM_waits
  obtain ⟨n, k, y, hh, a, q, u, H⟩ := rel_op h
  obtain ⟨B, U, W, hC, hW, hI, hH, hN, hM, hP⟩ := id H
  obtain ⟨b1, b2, b3, b4, b5, b6, b7⟩ := id B
  obtain ⟨u0, u1, u2, u3, u4, u5, u6, uy⟩ := U
  obtain ⟨w0, w1, w2, w3, w4, w5, w6⟩ := W
  rcases xbd b1 u0 w0 v1 with ⟨b, hb, rfl, e1, e2⟩ | ⟨e1, e2⟩
  · rw [e1, e2, bnd, bnd, xi1, xi1, xsgb, xsmb]
    by_cases c1 : 0 ≤ v2 ∧ v2 ≤ 3
    · rw [if_pos c1, if_pos c1, xwb, xib2 (y := 1) (z := 60) (a := 1) (b := 60) rfl rfl]
      obtain ⟨s, hs, rfl⟩ := nI_of2 (M := 3) (n := 3) rfl (Int32.not_lt.mpr c1.1) c1.2
      by_cases c2 : 1 ≤ v3 ∧ v3 ≤ 60
      · rw [if_pos c2, if_pos c2]
        obtain ⟨m1, ν1, p1, p2, p3, p4, p5, -⟩ := try_both H
        obtain ⟨r, m2, ν2, q1, q2, q3, q4⟩ := waits_l (x := v3) hb (s := s) (by omega) xfu 0 y m1 ν1 (by decide) (by decide) p3 (by omega)
        refine ⟨r, m2, ν2, ?_, ?_, rel_sc h (scH_trans p4 q3) (scM_trans p5 q4)⟩
        · rw [p1, bnd]
          exact q1
        · rw [p2, bnd]
          exact q2
      · rw [if_neg c2, if_neg c2]
        exact ⟨-2, _, _, rfl, rfl, rel_bad h⟩
    · rw [if_neg c1, if_neg c1]
      exact ⟨-2, _, _, rfl, rfl, rel_bad h⟩
  · rw [e1, e2, bnd, bnd, xi0, xi0]
    exact ⟨-2, _, _, rfl, rfl, rel_bad h⟩
/-- the next number by the seed -/
theorem seed_N {a : Nat} (ha : a < 2147483648) : (lN a * 1103515245 + 12345) - (lN a * 1103515245 + 12345) / 2147483648 * 2147483648 = lN ((a * 1103515245 + 12345) % 2147483648) := by
  rw [show (1103515245 : Int64) = lN 1103515245 from rfl, show (12345 : Int64) = lN 12345 from rfl, show (2147483648 : Int64) = lN 2147483648 from rfl, lN_mul, lN_add]
  exact pk_lRem (by omega) (by decide) (by decide)
theorem seed_i {a d : Nat} (ha : a < 2147483648) (h0 : 0 < d) (hd : d < 2 ^ 63) : ((lN a / lN d - lN a / lN d / 4 * 4)).toInt32 = nI (a / d % 4) := by
  have h1 : a / d ≤ a := Nat.div_le_self a d
  rw [pk_lDiv (by omega) h0 hd, show (4 : Int64) = lN 4 from rfl, pk_lRem (by omega) (by decide) (by decide), lN_i]
theorem gen_l {n k N : Nat} (hN : N < 1000) : ∀ (f c y x : Nat) (A : Int32) (m ν : xM), c ≤ N → N < c + f → tR n k y m ν → y + (N - c) < 2000 → x < 2147483648 → ∃ r m' ν', fH_generations_l49 f (nI N) (lN x) A (nI c) m = some (r, m') ∧ fM_generations_l44 f (nI N) (lN x) A (nI c) ν = some (r, ν') ∧ scH m m' ∧ scM ν ν'
  | 0, c, y, x, A, m, ν, h1, h2, h, h3, h4 => absurd h2 (by omega)
  | f + 1, c, y, x, A, m, ν, h1, h2, h, h3, h4 => by
    unfold fH_generations_l49 fM_generations_l44
    by_cases hc : c = N
    · subst hc
      rw [if_pos (nI_le (Nat.le_refl _) (by omega)), if_pos (nI_le (Nat.le_refl _) (by omega))]
      exact ⟨_, _, _, rfl, rfl, scH_refl, scM_refl⟩
    · have cc := nI_ge (a := c) (b := N) (by omega) (by omega)
      obtain ⟨m1, ν1, p1, p2, p3, p4, p5⟩ := tR_pass h (by omega)
      have hx' : (x * 1103515245 + 12345) % 2147483648 < 2147483648 := Nat.mod_lt _ (by decide)
      rw [if_neg cc, if_neg cc, seed_N h4]
      revert hx'
      generalize (x * 1103515245 + 12345) % 2147483648 = x'
      intro hx'
      have ei := seed_i (d := 65536) hx' (by decide) (by decide)
      have es := seed_i (d := 1048576) hx' (by decide) (by decide)
      have ei : ((lN x' / 65536 - lN x' / 65536 / 4 * 4)).toInt32 = nI (x' / 65536 % 4) := ei
      have es : ((lN x' / 1048576 - lN x' / 1048576 / 4 * 4)).toInt32 = nI (x' / 1048576 % 4) := es
      have hi4 : x' / 65536 % 4 < 4 := Nat.mod_lt _ (by decide)
      have hs4 : x' / 1048576 % 4 < 4 := Nat.mod_lt _ (by decide)
      rw [ei, es]
      revert hi4 hs4
      generalize x' / 65536 % 4 = i
      generalize x' / 1048576 % 4 = s
      intro hi4 hs4
      obtain ⟨hE, y1, y2, hW, hI, k1, k2⟩ := id h
      have hk := hE.2.2.2.1
      have e1 : fW_hasInstrument 0 m (nI i) = some (if i < k then 1 else 0) := by
        unfold fW_hasInstrument
        rw [if_neg (nI_pos (by omega)), T_many, bnd, show 7 * 0 + 3 = 3 from rfl, k1, xnb_0, xnb_1]
        by_cases d : i < k
        · rw [if_neg (nI_ge d (by omega)), if_pos d]
        · rw [if_pos (nI_le (by omega) (by omega)), if_neg d]
      rw [e1, bnd, xk1, xl1, k2]
      unfold fH_generations_b126 fM_generations_b116
      by_cases d : i < k
      · obtain ⟨p, hp, g1, g2⟩ := tR_play h d hs4
        rw [if_pos d, xi1, if_neg (nI_ge d (by omega)), g1, g2, bnd, bnd, p1, p2, bnd, bnd, nI_1]
        obtain ⟨r, m2, ν2, q1, q2, q3, q4⟩ := gen_l hN f (c + 1) (y + 1) x' (A + nI p) m1 ν1 (by omega) (by omega) p3 (by omega) hx'
        exact ⟨r, m2, ν2, q1, q2, scH_trans p4 q3, scM_trans p5 q4⟩
      · rw [if_neg d, xi0, if_pos (nI_le (by omega) (by omega)), p1, p2, bnd, bnd, nI_1, Int32.add_zero]
        obtain ⟨r, m2, ν2, q1, q2, q3, q4⟩ := gen_l hN f (c + 1) (y + 1) x' A m1 ν1 (by omega) (by omega) p3 (by omega) hx'
        exact ⟨r, m2, ν2, q1, q2, scH_trans p4 q3, scM_trans p5 q4⟩
theorem st_generations {μ ν : xM} (h : xRel μ ν) (v1 : Int32) (v2 : Int32) : ∃ (r : Int32) (μ2 ν2 : xM), (fH_generations v1 v2 μ = some (r, μ2)) ∧ (fM_generations v1 v2 ν = some (r, ν2)) ∧ xRel μ2 ν2 := by
  unfold fH_generations fM_generations
  obtain ⟨n, k, y, hh, a, q, u, H⟩ := rel_op h
  rw [xwb, xib2 (y := 0) (z := 999999) (a := 0) (b := 999999) rfl rfl]
  by_cases c1 : 0 ≤ v1 ∧ v1 ≤ 999999
  · rw [if_pos c1, if_pos c1, xwb, xib2 (y := 0) (z := 60) (a := 0) (b := 60) rfl rfl]
    obtain ⟨x, hx, rfl⟩ := nI_of2 (M := 999999) (n := 999999) rfl (Int32.not_lt.mpr c1.1) c1.2
    by_cases c2 : 0 ≤ v2 ∧ v2 ≤ 60
    · rw [if_pos c2, if_pos c2]
      obtain ⟨z, hz, rfl⟩ := nI_of2 (M := 60) (n := 60) rfl (Int32.not_lt.mpr c2.1) c2.2
      obtain ⟨m1, ν1, p1, p2, p3, p4, p5, -⟩ := try_both H
      have b3 := H.1.2.2.1
      obtain ⟨r, m2, ν2, q1, q2, q3, q4⟩ := gen_l (N := z) (by omega) xfu 0 y x 0 m1 ν1 (by omega) (by show z < 0 + 100000; omega) p3 (by omega) (by omega)
      refine ⟨r, m2, ν2, ?_, ?_, rel_sc h (scH_trans p4 q3) (scM_trans p5 q4)⟩
      · rw [p1, bnd, nI_l (by omega)]
        exact q1
      · rw [p2, bnd, nI_l (by omega)]
        exact q2
    · rw [if_neg c2, if_neg c2]
      exact ⟨-2, _, _, rfl, rfl, rel_bad h⟩
  · rw [if_neg c1, if_neg c1]
    exact ⟨-2, _, _, rfl, rfl, rel_bad h⟩
