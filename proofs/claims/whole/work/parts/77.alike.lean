/-! STEPS: tells, look, ask -/
theorem G_alike {m : xM} {k : Nat} {v : Int32} (hk : k < 6) (hv : v = nI k) : fT_get 34 m v 0 = some (m.1 34 k) := by
  rw [T_get (t := 34) (r := k) (c := 0) (v2 := 0) (by decide) hv rfl (by decide) (by show k < 6; exact hk), show k * wN 34 + 0 = k by show k * 1 + 0 = k; omega]
theorem P_alike {m : xM} {k : Nat} {v : Int32} (hk : k < 6) : fT_put 34 (nI k) 0 v m = some (xset m 34 k v) := by
  rw [T_put (t := 34) (r := k) (c := 0) (v2 := 0) (by decide) rfl rfl (by decide) (by show k < 6; exact hk), show k * wN 34 + 0 = k by show k * 1 + 0 = k; omega]
theorem H_ml5 {m : xM} {M v : Int32} : ∀ (f b : Nat), b ≤ 6 → 6 < b + f → fH_manyLike_l5 m f v M (nI (cntB b (fun j => hoB M j && (m.1 34 j == v)))) (nI b) = some (nI (cntB 6 (fun j => hoB M j && (m.1 34 j == v))))
  | 0, b, h1, h2 => absurd h2 (by omega)
  | f + 1, b, h1, h2 => by
    unfold fH_manyLike_l5
    by_cases hb : b = 6
    · subst hb
      rw [if_pos (show xrows 34 ≤ nI 6 by decide)]
    · have E : cntB (b + 1) (fun j => hoB M j && (m.1 34 j == v)) = cntB b (fun j => hoB M j && (m.1 34 j == v)) + (if (hoB M b && (m.1 34 b == v)) = true then 1 else 0) := rfl
      have ih := H_ml5 (m := m) (M := M) (v := v) f (b + 1) (by omega) (by omega)
      rw [if_neg (show ¬ xrows 34 ≤ nI b from nI_ge (b := 6) (by omega) (by decide)), holds_eq]
      unfold fH_manyLike_b43
      rw [nI_1, G_alike (by omega) rfl, bnd, nI_1]
      by_cases c : hoB M b = true
      · by_cases c2 : m.1 34 b = v
        · rw [if_pos c, if_pos c2]
          rw [if_pos (by rw [c, beq_iff_eq.mpr c2]; rfl)] at E
          rw [← E]
          exact ih
        · rw [if_pos c, if_neg c2]
          rw [if_neg (by rw [beq_false_of_ne c2, Bool.and_false]; decide)] at E
          rw [← E.trans (Nat.add_zero _)]
          exact ih
      · rw [if_neg c]
        rw [if_neg (by rw [Bool.eq_false_iff.mpr c, Bool.false_and]; decide)] at E
        rw [← E.trans (Nat.add_zero _)]
        exact ih
theorem M_gr16 {ν : xM} {M v2 : Int32} {a : Nat} (ha : a < 6) (k4 : Int32 → Int32 → Int32 → Option Int32) : ∀ (f b : Nat), b ≤ 6 → 6 < b + f → fM_greatest_l16 ν k4 f M v2 (nI a) (nI (cntB b (fun j => hoB M a && hoB M j && (ν.1 5 j == ν.1 5 a)))) (nI b) = k4 M (if nI (cntB 6 (fun j => hoB M a && hoB M j && (ν.1 5 j == ν.1 5 a))) ≤ v2 then v2 else nI (cntB 6 (fun j => hoB M a && hoB M j && (ν.1 5 j == ν.1 5 a)))) (nI (a + 1))
  | 0, b, h1, h2 => absurd h2 (by omega)
  | f + 1, b, h1, h2 => by
    unfold fM_greatest_l16
    by_cases hb : b = 6
    · subst hb
      unfold fM_greatest_b84
      rw [if_pos (show (6 : Int32) ≤ nI 6 by decide), nI_1]
      by_cases c : nI (cntB 6 (fun j => hoB M a && hoB M j && (ν.1 5 j == ν.1 5 a))) ≤ v2
      · rw [if_pos c, if_pos c]
      · rw [if_neg c, if_neg c]
    · have E : cntB (b + 1) (fun j => hoB M a && hoB M j && (ν.1 5 j == ν.1 5 a)) = cntB b (fun j => hoB M a && hoB M j && (ν.1 5 j == ν.1 5 a)) + (if (hoB M a && hoB M b && (ν.1 5 b == ν.1 5 a)) = true then 1 else 0) := rfl
      have ih := M_gr16 (ν := ν) (M := M) (v2 := v2) ha k4 f (b + 1) (by omega) (by omega)
      rw [if_neg (show ¬ (6 : Int32) ≤ nI b from nI_ge (b := 6) (by omega) (by decide)), M_has_eq, M_has_eq, xck_nI ha (by decide), xck_nI (by omega) (by decide), nI_clamp (by omega), nI_clamp (by omega)]
      unfold fM_greatest_b62 fM_greatest_b63
      rw [nI_1, nI_1, show nI (cntB b (fun j => hoB M a && hoB M j && (ν.1 5 j == ν.1 5 a))) + 0 = nI (cntB b (fun j => hoB M a && hoB M j && (ν.1 5 j == ν.1 5 a)) + 0) from nI_add _ 0, Nat.add_zero]
      by_cases c : hoB M a = true
      · by_cases c1 : hoB M b = true
        · by_cases c2 : ν.1 5 a = ν.1 5 b
          · rw [if_pos c, if_pos c1, if_pos c2]
            rw [if_pos (by rw [c, c1, beq_iff_eq.mpr c2.symm]; rfl)] at E
            rw [← E]
            exact ih
          · rw [if_pos c, if_pos c1, if_neg c2]
            rw [if_neg (by rw [beq_false_of_ne (fun z => c2 z.symm), Bool.and_false]; decide), Nat.add_zero] at E
            rw [← E]
            exact ih
        · rw [if_pos c, if_neg c1]
          rw [if_neg (by rw [Bool.eq_false_iff.mpr c1, Bool.and_false, Bool.false_and]; decide), Nat.add_zero] at E
          rw [← E]
          exact ih
      · rw [if_neg c]
        rw [if_neg (by rw [Bool.eq_false_iff.mpr c, Bool.false_and, Bool.false_and]; decide), Nat.add_zero] at E
        rw [← E]
        exact ih
theorem alike_l {m ν : xM} {M : Int32} (e : ∀ j, j < 6 → hoB M j = true → m.1 34 j = ν.1 5 j) : ∀ (f b g : Nat), b ≤ 6 → 6 < b + f → g ≤ 6 → ∃ r, r ≤ 6 ∧ fH_mostAlike_l4 m f M (nI g) (nI b) = some (nI r) ∧ fM_greatest_l4 ν f M (nI g) (nI b) = some (nI r)
  | 0, b, g, h1, h2, h3 => absurd h2 (by omega)
  | f + 1, b, g, h1, h2, h3 => by
    unfold fH_mostAlike_l4 fM_greatest_l4
    by_cases hb : b = 6
    · subst hb
      rw [if_pos (show xrows 34 ≤ nI 6 by decide), if_pos (show (6 : Int32) ≤ nI 6 by decide)]
      exact ⟨g, h3, rfl, rfl⟩
    · have hb' : b < 6 := by omega
      have g1 := H_ml5 (m := m) (M := M) (v := m.1 34 b) xfu 0 (by decide) (by decide)
      have g1' : fH_manyLike m (m.1 34 b) M = some (nI (cntB 6 (fun j => hoB M j && (m.1 34 j == m.1 34 b)))) := g1
      have g2 := M_gr16 (ν := ν) (M := M) (v2 := nI g) hb' (fM_greatest_l4 ν f) xfu 0 (by decide) (by decide)
      have g2' : fM_greatest_l16 ν (fM_greatest_l4 ν f) xfu M (nI g) (nI b) 0 0 = _ := g2
      rw [if_neg (show ¬ xrows 34 ≤ nI b from nI_ge (b := 6) (by omega) (by decide)), if_neg (show ¬ (6 : Int32) ≤ nI b from nI_ge (b := 6) (by omega) (by decide)), holds_eq, g2', G_alike hb' rfl, bnd, g1', bnd]
      unfold fH_mostAlike_b42
      rw [nI_1]
      by_cases c : hoB M b = true
      · have ec : cntB 6 (fun j => hoB M b && hoB M j && (ν.1 5 j == ν.1 5 b)) = cntB 6 (fun j => hoB M j && (m.1 34 j == m.1 34 b)) := by
          refine cntB_congr (fun j hj => ?_)
          show (hoB M b && hoB M j && (ν.1 5 j == ν.1 5 b)) = (hoB M j && (m.1 34 j == m.1 34 b))
          rw [c, Bool.true_and]
          by_cases cj : hoB M j = true
          · rw [e j hj cj, e b hb' c]
          · rw [Bool.eq_false_iff.mpr cj, Bool.false_and, Bool.false_and]
        rw [if_pos c, ec]
        have le6 : cntB 6 (fun j => hoB M j && (m.1 34 j == m.1 34 b)) ≤ 6 := cntB_le
        revert le6
        generalize cntB 6 (fun j => hoB M j && (m.1 34 j == m.1 34 b)) = q
        intro le6
        unfold xmax
        by_cases c2 : q ≤ g
        · rw [if_neg (nI_nlt c2 (by omega)), if_pos (nI_le c2 (by omega))]
          exact alike_l e f (b + 1) g (by omega) (by omega) h3
        · rw [if_pos (nI_lt (by omega) (by omega)), if_neg (nI_ge (by omega) (by omega))]
          exact alike_l e f (b + 1) q (by omega) (by omega) le6
      · have ec : cntB 6 (fun j => hoB M b && hoB M j && (ν.1 5 j == ν.1 5 b)) = 0 := by
          rw [cntB_congr (g := fun _ => false) (fun j hj => by
            show (hoB M b && hoB M j && (ν.1 5 j == ν.1 5 b)) = false
            rw [Bool.eq_false_iff.mpr c, Bool.false_and, Bool.false_and])]
          decide
        rw [if_neg c, ec, if_pos (nI_le (Nat.zero_le _) (by omega))]
        exact alike_l e f (b + 1) g (by omega) (by omega) h3
/-- the greatest part of a mask that is alike, in both -/
theorem alike_both {m ν : xM} {M : Int32} (e : ∀ j, j < 6 → hoB M j = true → m.1 34 j = ν.1 5 j) : ∃ r, r ≤ 6 ∧ fH_mostAlike m M = some (nI r) ∧ fM_greatest ν M = some (nI r) := alike_l e xfu 0 0 (by decide) (by decide) (by decide)
theorem bE_sc {n k : Nat} {m m' ν ν' : xM} (h : bE n k 0 0 m ν) (F : scH m m') (G : scM ν ν') : bE n k 0 0 m' ν' := by
  obtain ⟨hβ, hR, hn, hk, u0, w0, hE, hV⟩ := h
  have c : ∀ i, m'.1 0 i = m.1 0 i := fun i => F.1 0 i (by unfold sH; omega)
  refine ⟨hβ, hR, hn, hk, ?_, ?_, fun b x hb hx => ?_, vB_congr (fun b x hb hx => (c _).symm) hV⟩
  · show m'.1 36 0 = _
    rw [F.1 36 0 (by unfold sH; omega)]; exact u0
  · rw [G.1 0 0 (by unfold sM; omega)]; exact w0
  · show m'.1 0 _ = _
    rw [c, G.1 0 _ (by unfold sM; omega)]
    exact hE b x hb hx
/-- what is fewest so far: the same, or none yet in both -/
def fwR (x y : Int32) : Prop := (∃ a, a ≤ 6 ∧ x = nI a ∧ y = nI a) ∨ (x = 7 ∧ y = 1000000)
theorem fwR_c {x y : Int32} (h : fwR x y) {r : Nat} (hr : r ≤ 6) : (x ≤ nI r ↔ y ≤ nI r) := by
  rcases h with ⟨a, ha, rfl, rfl⟩ | ⟨rfl, rfl⟩
  · exact Iff.rfl
  · have h1 : ¬ (7 : Int32) ≤ nI r := nI_ge (b := 7) (by omega) (by decide)
    have h2 : ¬ (1000000 : Int32) ≤ nI r := nI_ge (b := 1000000) (by omega) (by decide)
    exact ⟨fun z => absurd z h1, fun z => absurd z h2⟩
theorem tells_f {n k s : Nat} {M v2 x y : Int32} (hs : s < 4) (kH' kM' : Int32 → Int32 → Int32 → Int32 → xM → Option (Int32 × xM)) : ∀ (f b : Nat) (m ν : xM), b ≤ n → n < b + f → bE n k 0 0 m ν → (∀ j, j < b → m.1 34 j = ν.1 5 j) → ∃ m' ν', fH_tells_l29 kH' f M v2 x (nI s) (nI b) m = ((fH_mostAlike m' M).bind fun r => if x ≤ r then kH' M v2 x (nI (s + 1)) m' else kH' M (nI s) r (nI (s + 1)) m') ∧ fM_tells_l26 kM' f M v2 y (nI s) (nI b) ν = ((fM_greatest ν' M).bind fun r => if y ≤ r then kM' M v2 y (nI (s + 1)) ν' else kM' M (nI s) r (nI (s + 1)) ν') ∧ scH m m' ∧ scM ν ν' ∧ (∀ j, j < n → m'.1 34 j = ν'.1 5 j)
  | 0, b, m, ν, h1, h2, h, e => absurd h2 (by omega)
  | f + 1, b, m, ν, h1, h2, h, e => by
    obtain ⟨hβ, hR, hn, hk, u0, w0, hE, hV⟩ := id h
    have gm : fB_many 0 m = some (nI n) := by
      unfold fB_many
      rw [B_many, bnd, u0]
    unfold fH_tells_l29 fM_tells_l26
    rw [gm, bnd, xk0, xl0, w0]
    by_cases hb : b = n
    · subst hb
      rw [if_pos (nI_le (Nat.le_refl _) (by omega)), if_pos (nI_le (Nat.le_refl _) (by omega))]
      unfold fH_tells_b93 fM_tells_b78 fM_tells_b91
      rw [nI_1]
      refine ⟨m, ν, rfl, ?_, scH_refl, scM_refl, e⟩
      congr 1
      funext r
      by_cases c : y ≤ r
      · rw [if_pos c, if_pos c, if_pos c]
      · rw [if_neg c, if_neg c, if_neg c]
    · rw [if_neg (nI_ge (by omega) (by omega)), if_neg (nI_ge (by omega) (by omega))]
      obtain ⟨z, hz, e1, e2⟩ := snd_both h (b := b) (by omega) hs
      have e2' : fM_soundsIn ν 0 (nI b) (nI s) = some (nI z) := e2
      have F : scH m (xset m 34 b (nI z)) := scH_set (by unfold sH; omega) scH_refl
      have G : scM ν (xset ν 5 b (nI z)) := scM_set (by unfold sM; omega) scM_refl
      rw [e1, e2', bnd, bnd, P_alike (by omega), bnd, xck_nI (by omega) (by decide), nI_clamp (by omega), nI_1]
      obtain ⟨m', ν', g1, g2, g3, g4, g5⟩ := tells_f hs kH' kM' f (b + 1) (xset m 34 b (nI z)) (xset ν 5 b (nI z)) (by omega) (by omega) (bE_sc h F G) (fun j hj => by
        by_cases c : j = b
        · subst c; simp (disch := omega) only [xset_ne, xset_nj, xset_eq, Nat.add_zero]
        · simp (disch := omega) only [xset_ne, xset_nj, xset_eq, Nat.add_zero]
          exact e j (by omega))
      exact ⟨m', ν', g1, g2, scH_trans F g3, scM_trans G g4, g5⟩
theorem ho_lt : ∀ n, n < 7 → ∀ M, M < 2 ^ n → ∀ j, j < 6 → hoB (nI M) j = true → j < n := by decide +kernel
theorem tells_l {n k M : Nat} (hn : n ≤ 6) (hM : M < 2 ^ n) : ∀ (f s : Nat) (v2 x y : Int32) (m ν : xM), s ≤ 4 → 4 < s + f → bE n k 0 0 m ν → fwR x y → ∃ r m' ν', fH_tells_l16 f (nI M) v2 x (nI s) m = some (r, m') ∧ fM_tells_l13 f (nI M) v2 y (nI s) ν = some (r, ν') ∧ scH m m' ∧ scM ν ν'
  | 0, s, v2, x, y, m, ν, h1, h2, h, fw => absurd h2 (by omega)
  | f + 1, s, v2, x, y, m, ν, h1, h2, h, fw => by
    have hM64 : M < 64 := Nat.lt_of_lt_of_le hM (Nat.pow_le_pow_right (by decide) hn)
    unfold fH_tells_l16 fM_tells_l13
    by_cases hs : s = 4
    · subst hs
      rw [if_pos (by decide), if_pos (by decide)]
      exact ⟨_, _, _, rfl, rfl, scH_refl, scM_refl⟩
    · have c4 : ¬ (4 : Int32) ≤ nI s := nI_ge (b := 4) (by omega) (by decide)
      rw [if_neg c4, if_neg c4]
      by_cases c : M = 0
      · subst c
        rw [if_pos (show nI 0 = 0 from rfl), if_pos (show nI 0 ≤ 0 by decide)]
        exact ⟨_, _, _, rfl, rfl, scH_refl, scM_refl⟩
      · rw [if_neg (nI_ne0 (by omega) (by omega)), if_neg (nI_nle (by omega) (by omega))]
        obtain ⟨m1, ν1, g1, g2, g3, g4, g5⟩ := tells_f (M := nI M) (v2 := v2) (x := x) (y := y) (s := s) (by omega) (fH_tells_l16 f) (fM_tells_l13 f) xfu 0 m ν (by omega) (by show n < 0 + 100000; omega) h (fun j hj => absurd hj (Nat.not_lt_zero j))
        have g1' : fH_tells_l29 (fH_tells_l16 f) xfu (nI M) v2 x (nI s) 0 m = _ := g1
        have g2' : fM_tells_l26 (fM_tells_l13 f) xfu (nI M) v2 y (nI s) 0 ν = _ := g2
        obtain ⟨r, hr, a1, a2⟩ := alike_both (m := m1) (ν := ν1) (M := nI M) (fun j hj z => g5 j (ho_lt n (by omega) M hM j hj z))
        rw [g1', g2', a1, a2, bnd, bnd]
        by_cases d : x ≤ nI r
        · rw [if_pos d, if_pos ((fwR_c fw hr).mp d)]
          obtain ⟨z, m2, ν2, q1, q2, q3, q4⟩ := tells_l hn hM f (s + 1) v2 x y m1 ν1 (by omega) (by omega) (bE_sc h g3 g4) fw
          exact ⟨z, m2, ν2, q1, q2, scH_trans g3 q3, scM_trans g4 q4⟩
        · rw [if_neg d, if_neg (fun z => d ((fwR_c fw hr).mpr z))]
          obtain ⟨z, m2, ν2, q1, q2, q3, q4⟩ := tells_l hn hM f (s + 1) (nI s) (nI r) (nI r) m1 ν1 (by omega) (by omega) (bE_sc h g3 g4) (Or.inl ⟨r, hr, rfl, rfl⟩)
          exact ⟨z, m2, ν2, q1, q2, scH_trans g3 q3, scM_trans g4 q4⟩
theorem st_tells {μ ν : xM} (h : xRel μ ν)  : ∃ (r : Int32) (μ2 ν2 : xM), (fH_tells  μ = some (r, μ2)) ∧ (fM_tells  ν = some (r, ν2)) ∧ xRel μ2 ν2 := by
  obtain ⟨n, k, y, hh, a, q, u, B, U, W, hC, hW, hI, hH, hN, hM, hP⟩ := rel_op h
  obtain ⟨b1, b2, b3, b4, b5, b6, b7⟩ := id B
  obtain ⟨u0, u1, u2, u3, u4, u5, u6, uy⟩ := U
  obtain ⟨w0, w1, w2, w3, w4, w5, w6⟩ := W
  have hE := bE_0 b1 b2 u0 w0 hC
  obtain ⟨M, hM, e1, e2⟩ := whose_both hE b4 u4 w3 hH xfu 0 0 (by omega) (by show n < 0 + 100000; omega) (by decide)
  obtain ⟨r, m', ν', q1, q2, q3, q4⟩ := tells_l b1 hM xfu 0 (-1) 7 1000000 μ ν (by decide) (by decide) hE (Or.inr ⟨rfl, rfl⟩)
  refine ⟨r, m', ν', ?_, ?_, rel_sc h q3 q4⟩
  · show (fW_heardBoards_l4 0 μ xfu (nI 0) (nI 0)).bind _ = _
    rw [e1]
    exact q1
  · show (fM_whose_l4 ν xfu (nI 0) (nI 0)).bind _ = _
    rw [e2]
    exact q2
