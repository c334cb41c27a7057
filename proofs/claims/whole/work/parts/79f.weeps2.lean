/-! STEPS: weeps, the sums -/
theorem M_wp94 {n g i c : Nat} {v2 : Int32} {v4 v6 : Int64} {N : Nat → Int32} (hn : n ≤ 6) (hc : c ≤ 10) (k71 : Int32 → Int32 → Int32 → Int64 → Int64 → Int32 → xM → Option (Int32 × xM)) : ∀ (f b : Nat) (ν : xM), b ≤ n → n < b + f → ν.1 0 0 = nI n → (∀ b', b' < n → ν.1 0 (38 + b') = N b') → ∃ ν', fM_weeps_l94 k71 f (nI i) v2 (nI c) v4 v6 (nI g) (lN (wW N i c g b)) (nI b) ν = ((fM_playsIn ν' 1704 (nI i) v2).bind fun r => k71 (nI i) v2 (nI c) (v4 + lN (wW N i c g n) * r.toInt64) v6 (nI (g + 1)) ν') ∧ (∀ b', b ≤ b' → b' < n → N b' = nI i → ν'.1 0 (1724 + b') = if hoB (nI g) b' = true then (if ν.1 0 (20 + b') ≤ 6 then ν.1 0 (20 + b') + 3 else 9) else ν.1 0 (20 + b')) ∧ (∀ b', b' < n → ¬ N b' = nI i → ν'.1 0 (1724 + b') = ν.1 0 (1724 + b')) ∧ (∀ j x, (j ≠ 0 ∨ ¬ (1724 + b ≤ x ∧ x < 1724 + n)) → ν'.1 j x = ν.1 j x) ∧ ν'.2 = ν.2
  | 0, b, ν, h1, h2, w0, hN => absurd h2 (by omega)
  | f + 1, b, ν, h1, h2, w0, hN => by
    unfold fM_weeps_l94
    rw [xk0, xl0, w0]
    by_cases hb : b = n
    · subst hb
      rw [if_pos (nI_le (Nat.le_refl _) (by omega)), nI_1]
      exact ⟨ν, rfl, fun b' q1 q2 => absurd q2 (by omega), fun _ _ _ => rfl, fun _ _ _ => rfl, rfl⟩
    · have hb' : b < n := by omega
      have e10 : (10 : Int32) - nI c = nI (10 - c) := nI_sub (a := 10) (b := c) hc
      rw [if_neg (nI_ge hb' (by omega)), show (38 : Int32) + nI b = nI (38 + b) from nI_add 38 b, xck_nI (by omega) (by decide), nI_clamp (by omega), hN b hb', M_has_eq, M_has_eq, e10, nI_l (by omega), nI_l (by omega)]
      unfold fM_weeps_b141 fM_weeps_b209 fM_weeps_b226
      rw [show (20 : Int32) + nI b = nI (20 + b) from nI_add 20 b, show (1724 : Int32) + nI b = nI (1724 + b) from nI_add 1724 b, M_has_eq, M_has_eq, xck_nI (by omega) (by decide), xck_nI (by omega) (by decide), xck_nI (by omega) (by decide), xck_nI (by omega) (by decide), xck_nI (by omega) (by decide), nI_clamp (by omega), nI_clamp (by omega), nI_1, lN_mul, lN_mul]
      have step : ∀ (D : Int32) (w : Nat), N b = nI i → w = wW N i c g (b + 1) → D = (if hoB (nI g) b = true then (if ν.1 0 (20 + b) ≤ 6 then ν.1 0 (20 + b) + 3 else 9) else ν.1 0 (20 + b)) → ∃ ν', fM_weeps_l94 k71 f (nI i) v2 (nI c) v4 v6 (nI g) (lN w) (nI (b + 1)) (xset ν 0 (1724 + b) D) = ((fM_playsIn ν' 1704 (nI i) v2).bind fun r => k71 (nI i) v2 (nI c) (v4 + lN (wW N i c g n) * r.toInt64) v6 (nI (g + 1)) ν') ∧ (∀ b', b ≤ b' → b' < n → N b' = nI i → ν'.1 0 (1724 + b') = if hoB (nI g) b' = true then (if ν.1 0 (20 + b') ≤ 6 then ν.1 0 (20 + b') + 3 else 9) else ν.1 0 (20 + b')) ∧ (∀ b', b' < n → ¬ N b' = nI i → ν'.1 0 (1724 + b') = ν.1 0 (1724 + b')) ∧ (∀ j x, (j ≠ 0 ∨ ¬ (1724 + b ≤ x ∧ x < 1724 + n)) → ν'.1 j x = ν.1 j x) ∧ ν'.2 = ν.2 := by
        intro D w hi hw hD
        subst hw
        obtain ⟨ν', g1, g2, g3, g4, g5⟩ := M_wp94 (g := g) (v2 := v2) (v4 := v4) (v6 := v6) (N := N) hn hc k71 f (b + 1) (xset ν 0 (1724 + b) D) (by omega) (by omega) (by simp (disch := omega) only [xset_ne, xset_nj, xset_eq, Nat.add_zero]; exact w0) (fun b' h => by simp (disch := omega) only [xset_ne, xset_nj, xset_eq, Nat.add_zero]; exact hN b' h)
        refine ⟨ν', g1, fun b' q1 q2 q3 => ?_, fun b' q1 q2 => ?_, fun j x q => ?_, g5⟩
        · by_cases e : b' = b
          · subst e
            rw [g4 0 _ (by omega), xset_eq]
            exact hD
          · rw [g2 b' (by omega) q2 q3]
            simp (disch := omega) only [xset_ne, xset_nj, xset_eq, Nat.add_zero]
        · rw [g3 b' q1 q2]
          have e : b' ≠ b := fun e => q2 (by rw [e]; exact hi)
          simp (disch := omega) only [xset_ne, xset_nj, xset_eq, Nat.add_zero]
        · rw [g4 j x (by omega)]
          by_cases q0 : j = 0
          · subst q0
            simp (disch := omega) only [xset_ne, xset_nj, xset_eq, Nat.add_zero]
          · simp (disch := omega) only [xset_ne, xset_nj, xset_eq, Nat.add_zero]
      have E : wW N i c g (b + 1) = if N b = nI i then wW N i c g b * (if hoB (nI g) b = true then c else 10 - c) else if hoB (nI g) b = true then 0 else wW N i c g b := rfl
      by_cases z : N b = nI i
      · rw [if_pos z]
        rw [if_pos z] at E
        by_cases y : hoB (nI g) b = true
        · rw [if_pos y] at E
          rw [if_pos y, if_pos y]
          by_cases x : ν.1 0 (20 + b) ≤ 6
          · rw [if_pos x]
            exact step _ _ z E.symm (by rw [if_pos y, if_pos x])
          · rw [if_neg x]
            exact step _ _ z E.symm (by rw [if_pos y, if_neg x])
        · rw [if_neg y] at E
          rw [if_neg y, if_neg y, xck_nI (by omega) (by decide), xck_nI (by omega) (by decide)]
          exact step _ _ z E.symm (by rw [if_neg y])
      · rw [if_neg z]
        rw [if_neg z] at E
        have step2 : ∀ w : Nat, w = wW N i c g (b + 1) → ∃ ν', fM_weeps_l94 k71 f (nI i) v2 (nI c) v4 v6 (nI g) (lN w) (nI (b + 1)) ν = ((fM_playsIn ν' 1704 (nI i) v2).bind fun r => k71 (nI i) v2 (nI c) (v4 + lN (wW N i c g n) * r.toInt64) v6 (nI (g + 1)) ν') ∧ (∀ b', b ≤ b' → b' < n → N b' = nI i → ν'.1 0 (1724 + b') = if hoB (nI g) b' = true then (if ν.1 0 (20 + b') ≤ 6 then ν.1 0 (20 + b') + 3 else 9) else ν.1 0 (20 + b')) ∧ (∀ b', b' < n → ¬ N b' = nI i → ν'.1 0 (1724 + b') = ν.1 0 (1724 + b')) ∧ (∀ j x, (j ≠ 0 ∨ ¬ (1724 + b ≤ x ∧ x < 1724 + n)) → ν'.1 j x = ν.1 j x) ∧ ν'.2 = ν.2 := by
          intro w hw
          subst hw
          obtain ⟨ν', g1, g2, g3, g4, g5⟩ := M_wp94 (g := g) (v2 := v2) (v4 := v4) (v6 := v6) (N := N) hn hc k71 f (b + 1) ν (by omega) (by omega) w0 hN
          refine ⟨ν', g1, fun b' q1 q2 q3 => ?_, g3, fun j x q => g4 j x (by omega), g5⟩
          by_cases e : b' = b
          · subst e
            exact absurd q3 z
          · exact g2 b' (by omega) q2 q3
        by_cases y : hoB (nI g) b = true
        · rw [if_pos y] at E
          rw [if_pos y]
          exact step2 0 E.symm
        · rw [if_neg y] at E
          rw [if_neg y]
          exact step2 _ E.symm
/-- what the reference adds for a set; what it tried there -/
theorem M_wstep {n k y hh a q u i s c g f : Nat} {S V : Int64} {μ ν : xM} (hi : i < k) (hs : s < 4) (hc : c ≤ 10) (hg : g < 2 ^ n) (H : rT n k y hh a q u μ.1 (μ.1 36) (μ.1 37 0) (ν.1 0)) : ∃ p ν2, p ≤ 1000 ∧ fM_weeps_l71 (f + 1) (nI i) (nI s) (nI c) S V (nI g) ν = fM_weeps_l71 f (nI i) (nI s) (nI c) (S + lN (wW (fun b => μ.1 0 (b * 6 + 5)) i c g n) * lN p) V (nI (g + 1)) ν2 ∧ scM ν ν2 ∧ fM_playsIn ν2 1704 (nI i) (nI s) = some (nI p) ∧ ν2.1 0 1704 = nI n ∧ (∀ b x, b < n → x < 6 → x ≠ 2 → ν2.1 0 (1712 + 6 * x + b) = μ.1 0 (b * 6 + x)) ∧ (∀ b, b < n → μ.1 0 (b * 6 + 5) = nI i → ν2.1 0 (1712 + 6 * 2 + b) = if hoB (nI g) b = true then xmin (μ.1 0 (b * 6 + 2) + 3) 9 else μ.1 0 (b * 6 + 2)) ∧ vB n k (fun b c => ν2.1 0 (1712 + 6 * c + b)) ∧ (∀ i, i < k → μ.1 3 i = ν2.1 0 (1748 + i)) := by
  obtain ⟨B, U, W, hC, hW, hI, hH, hN, hM, hP⟩ := id H
  obtain ⟨b1, b2, b3, b4, b5, b6, b7⟩ := id B
  obtain ⟨u0, u1, u2, u3, u4, u5, u6, uy⟩ := U
  obtain ⟨w0, w1, w2, w3, w4, w5, w6⟩ := W
  have h64 := pow64 b1
  obtain ⟨m1, ν1, p1, p2, p3, p4, p5, p6, p7, p8⟩ := try_both H
  obtain ⟨hE', y1, y2, hW', hI', k1, k2⟩ := p3
  obtain ⟨ν2, q1, q2, q3, q4, q5⟩ := M_wp94 (g := g) (i := i) (c := c) (v2 := nI s) (v4 := S) (v6 := V) (N := fun b => μ.1 0 (b * 6 + 5)) b1 hc (fM_weeps_l71 f) xfu 0 ν1 (by omega) (by show n < 0 + 100000; omega) (by rw [p7 0 (by decide)]; exact w0) (fun b hb => by rw [p7 _ (by omega), show 38 + b = 8 + 6 * 5 + b by omega, hC.1 b 5 hb (by decide)])
  have G2 : scM ν1 ν2 := ⟨fun j i z => by unfold sM at z; exact q4 j i (by omega), by rw [q5], by rw [q5]⟩
  have t0 : ∀ b x, b < n → x < 6 → x ≠ 2 → ν2.1 0 (1712 + 6 * x + b) = μ.1 0 (b * 6 + x) := fun b x hb hx h2 => by
    rw [q4 0 _ (by omega), show 1712 + 6 * x + b = 1704 + (8 + 6 * x + b) by omega, p8 _ (by omega)]
    exact (hC.1 b x hb hx).symm
  have d20 : ∀ b, b < n → ν1.1 0 (20 + b) = μ.1 0 (b * 6 + 2) := fun b hb => by
    rw [p7 _ (by omega), show 20 + b = 8 + 6 * 2 + b by omega, hC.1 b 2 hb (by decide)]
  have dd : ∀ b, b < n → ∃ d, d ≤ 9 ∧ μ.1 0 (b * 6 + 2) = nI d := fun b hb => (hC.2.1 b hb).2.2.1
  have t2 : ∀ b, b < n → μ.1 0 (b * 6 + 5) = nI i → ν2.1 0 (1712 + 6 * 2 + b) = if hoB (nI g) b = true then xmin (μ.1 0 (b * 6 + 2) + 3) 9 else μ.1 0 (b * 6 + 2) := fun b hb z => by
    obtain ⟨d, hd, ed⟩ := dd b hb
    rw [show 1712 + 6 * 2 + b = 1724 + b by omega, q2 b (by omega) hb z, d20 b hb, ed, (damp3_N d (by omega)).1, (damp3_N d (by omega)).2]
  have t2' : ∀ b, b < n → ¬ μ.1 0 (b * 6 + 5) = nI i → ν2.1 0 (1712 + 6 * 2 + b) = μ.1 0 (b * 6 + 2) := fun b hb z => by
    rw [show 1712 + 6 * 2 + b = 1724 + b by omega, q3 b hb z, show 1724 + b = 1704 + (8 + 6 * 2 + b) by omega, p8 _ (by omega)]
    exact (hC.1 b 2 hb (by decide)).symm
  have vt : vB n k (fun b c => ν2.1 0 (1712 + 6 * c + b)) := by
    refine ⟨fun b hb => ?_, fun i' hi' => ?_⟩
    · obtain ⟨v0, v1, -, v3, v4, v5⟩ := hC.2.1 b hb
      refine ⟨v0.imp (fun x hx => ⟨hx.1, (t0 b 0 hb (by decide) (by decide)).trans hx.2⟩), v1.imp (fun x hx => ⟨hx.1, (t0 b 1 hb (by decide) (by decide)).trans hx.2⟩), ?_, v3.imp (fun x hx => ⟨hx.1, (t0 b 3 hb (by decide) (by decide)).trans hx.2⟩), v4.imp (fun z => (t0 b 4 hb (by decide) (by decide)).trans z) (fun z => (t0 b 4 hb (by decide) (by decide)).trans z), v5.imp (fun z => (t0 b 5 hb (by decide) (by decide)).trans z) (fun ⟨i, i1, i2⟩ => ⟨i, i1, (t0 b 5 hb (by decide) (by decide)).trans i2⟩)⟩
      obtain ⟨d, hd, ed⟩ := dd b hb
      by_cases z : μ.1 0 (b * 6 + 5) = nI i
      · have e2 := t2 b hb z
        by_cases y : hoB (nI g) b = true
        · rw [if_pos y, ed, (damp3_N d (by omega)).1] at e2
          exact ⟨_, Nat.min_le_right _ _, e2⟩
        · rw [if_neg y] at e2
          exact ⟨d, hd, e2.trans ed⟩
      · exact ⟨d, hd, (t2' b hb z).trans ed⟩
    · have e := hC.2.2 i' hi'
      rw [cntB_congr (g := fun b => μ.1 0 (b * 6 + 5) == nI i') (fun b hb => by show (ν2.1 0 (1712 + 6 * 5 + b) == nI i') = _; rw [t0 b 5 hb (by decide) (by decide)])]
      exact e
  have w0' : ν2.1 0 1704 = nI n := by rw [q4 0 _ (by omega)]; exact hE'.2.2.2.2.2.1
  have kk : ∀ i, i < k → μ.1 3 i = ν2.1 0 (1748 + i) := fun i hi => by rw [q4 0 _ (by omega), show 1748 + i = 1704 + (44 + i) by omega, p8 _ (by omega)]; exact hI i hi
  have hEm := mir_bE (m := μ) (ν := ν2) b1 b2 w0' vt
  obtain ⟨p, hp, e1, e2⟩ := play_both hEm hi hs (by rw [mir_o (by decide) (by decide), show 1704 + 44 + i = 1748 + i by omega]; exact kk i hi)
  have e2' : fM_playsIn ν2 1704 (nI i) (nI s) = some (nI p) := e2
  refine ⟨p, ν2, hp, ?_, scM_trans p5 G2, e2', w0', t0, t2, vt, kk⟩
  have q1' : fM_weeps_l94 (fM_weeps_l71 f) xfu (nI i) (nI s) (nI c) S V (nI g) 1 0 ν1 = _ := q1
  conv => lhs; unfold fM_weeps_l71
  rw [xk0, xl0, w0, nI_mask n b1, if_neg (nI_ge hg (by omega)), p2, bnd, q1', e2', bnd, nI_l (by omega)]
theorem weeps_end {n k y hh a q u i s c : Nat} {V : Int64} {μ : xM} (hi : i < k) (hs : s < 4) (hc : c ≤ 10) : ∀ (f g S : Nat) (ν : xM), g ≤ 2 ^ n → 2 ^ n < g + f → (∀ x, g ≤ x → x < 2 ^ n → wW (fun b => μ.1 0 (b * 6 + 5)) i c x n = 0) → rT n k y hh a q u μ.1 (μ.1 36) (μ.1 37 0) (ν.1 0) → ∃ ν', fM_weeps_l71 f (nI i) (nI s) (nI c) (lN S) V (nI g) ν = fM_weeps_l264 xfu (lN S) V (lN S) V ν' ∧ scM ν ν'
  | 0, g, S, ν, h1, h2, hz, H => absurd h2 (by omega)
  | f + 1, g, S, ν, h1, h2, hz, H => by
    have b1 := H.1.1
    have w0 := H.2.2.1.1
    have h64 := pow64 b1
    by_cases hg : g = 2 ^ n
    · subst hg
      refine ⟨ν, ?_, scM_refl⟩
      conv => lhs; unfold fM_weeps_l71
      rw [xk0, xl0, w0, nI_mask n b1, if_pos (nI_le (Nat.le_refl _) (by omega))]
    · obtain ⟨p, ν2, hp, e1, e2, -⟩ := M_wstep (f := f) (g := g) (S := lN S) (V := V) hi hs hc (by omega) H
      rw [e1, hz g (Nat.le_refl _) (by omega), lN_mul, lN_add, Nat.zero_mul, Nat.add_zero]
      obtain ⟨ν3, r1, r2⟩ := weeps_end (V := V) hi hs hc f (g + 1) S ν2 (by omega) (by omega) (fun x h3 h4 => hz x (by omega) h4) (rT_sc scH_refl e2 H)
      exact ⟨ν3, r1, scM_trans e2 r2⟩
theorem wW_sum {n k y hh a q u i s c F C : Nat} {N : Nat → Int32} (hi : i < k) (hs : s < 4) (hc : c ≤ 10) (hF : F = maskN n (fun b => N b == nI i)) (hC : C = cntB n (fun b => N b == nI i)) : ∀ (f g fM S : Nat) (μ ν : xM), (∀ b, b < n → μ.1 0 (b * 6 + 5) = N b) → g ≤ F + 1 → F + 1 < g + f → 2 ^ n < g + fM → S ≤ g * 1000000000 → rT n k y hh a q u μ.1 (μ.1 36) (μ.1 37 0) (ν.1 0) → ∃ d S' μ' ν' ν1, 0 < d ∧ d < 2 ^ 63 ∧ fH_weeps_l52 f (nI i) (nI s) (nI c) (nI F) (lN S) (nI g) μ = some (1, xsel (xsel μ' 0 (lN S' / lN d)) 1 (lN (10 ^ C) / lN d)) ∧ fM_weeps_l71 fM (nI i) (nI s) (nI c) (lN S) (lN (10 ^ C)) (nI g) ν = some (1, xsel (xsel ν' 0 (lN S' / lN d)) 1 (lN (10 ^ C) / lN d)) ∧ scH μ μ' ∧ scM ν ν' ∧ ν1 = ν
  | 0, g, fM, S, μ, ν, hm, h1, h2, h3, h4, H => absurd h2 (by omega)
  | f + 1, g, fM, S, μ, ν, hm, h1, h2, h3, h4, H => by
    obtain ⟨B, U, W, hC', hW, hI, hH, hN, hM, hP⟩ := id H
    obtain ⟨b1, b2, b3, b4, b5, b6, b7⟩ := id B
    have u0 := U.1
    have w0 := W.1
    have h64 := pow64 b1
    have hFn : F < 2 ^ n := by rw [hF]; exact maskN_lt _ _
    have hC6 : C ≤ 6 := by
      have := cntB_le (n := n) (f := fun b => N b == nI i)
      omega
    have pcF : pcN F = C := by rw [hF, hC]; exact pcN_mask b1
    have hoF : ∀ b, b < n → (hoB (nI F) b = true ↔ N b = nI i) := fun b hb => by
      rw [hF, hoB_mask b1 b hb]
      exact beq_iff_eq
    have wc : ∀ x, wW (fun b => μ.1 0 (b * 6 + 5)) i c x n = wW N i c x n := by
      intro x
      have : ∀ j, j ≤ n → wW (fun b => μ.1 0 (b * 6 + 5)) i c x j = wW N i c x j := by
        intro j
        induction j with
        | zero => intro _; rfl
        | succ j ih =>
          intro hj
          unfold wW
          rw [ih (by omega), hm j (by omega)]
      exact this n (Nat.le_refl _)
    by_cases hg : g = F + 1
    · subst hg
      obtain ⟨ν1, r1, r2⟩ := weeps_end (V := lN (10 ^ C)) (μ := μ) hi hs hc fM (F + 1) S ν (by omega) h3 (fun x x1 x2 => by
        rw [wc]
        refine wW_0 n ?_
        by_cases ex : ∃ b, b < n ∧ hoB (nI x) b = true ∧ ¬ N b = nI i
        · exact ex
        · exfalso
          have sub : (nI x &&& (nI F ^^^ (-1 : Int32))) = 0 := (part_64 x (by omega) F (by omega)).1.mpr (fun j hj hx => by
            have hjn := ho_lt n (by omega) x x2 j hj hx
            by_cases e : N j = nI i
            · exact (hoF j hjn).mpr e
            · exact absurd ⟨j, hjn, hx, e⟩ ex)
          have := (part_64 x (by omega) F (by omega)).2 sub
          omega) H
      have v10 : 10 ^ C ≤ 10 ^ 6 := Nat.pow_le_pow_right (by decide) hC6
      have v0 : 0 < 10 ^ C := Nat.pow_pos (by decide)
      have hS : S < 2 ^ 63 := by
        have : (F + 1) * 1000000000 ≤ 64 * 1000000000 := Nat.mul_le_mul_right _ (by omega)
        omega
      obtain ⟨d, d1, d2, d3, d4⟩ := gcd_l (U := lN S) (V := lN (10 ^ C)) (m := ν1) 20 S (10 ^ C) 0 xfu xfu (by
        have : (10 : Nat) ^ 6 < 2 ^ 20 := by decide
        omega) (by decide) (by decide) (Or.inr v0) hS (by omega) (by decide) (by decide)
      refine ⟨d, S, μ, ν1, ν, d1, d2, ?_, ?_, scH_refl, r2, rfl⟩
      · conv => lhs; unfold fH_weeps_l52
        rw [if_pos (nI_lt (by omega) (by omega)), bitCount_N F (by omega), bnd, pcF, show (10 : Int64) = lN 10 from rfl, power_N (by omega), bnd]
        unfold fH_keepFraction
        have d3' : fH_commonDivisor (lN S) (lN (10 ^ C)) = some (lN d) := d3
        rw [d3', bnd, cmp_pos d1 d2, if_neg (by decide)]
        unfold xdl
        rw [if_neg (lN_ne d1 d2), if_neg (lN_ne d1 d2)]
        rfl
      · rw [r1]
        exact d4
    · obtain ⟨fM, rfl⟩ : ∃ g, fM = g + 1 := ⟨fM - 1, by omega⟩
      obtain ⟨p, ν2, hp, e1, e2, e3, w0', t0, t2, vt, kk⟩ := M_wstep (f := fM) (g := g) (S := lN S) (V := lN (10 ^ C)) hi hs hc (by omega) H
      have wl : wW N i c g n ≤ 10 ^ 6 := Nat.le_trans (wW_le hc n) (Nat.pow_le_pow_right (by decide) b1)
      have wp : wW N i c g n * p ≤ 10 ^ 6 * 1000 := Nat.mul_le_mul wl hp
      have wp' : (10 : Nat) ^ 6 * 1000 = 1000000000 := by decide
      rw [e1, wc, lN_mul, lN_add]
      by_cases part : (nI g &&& (nI F ^^^ (-1 : Int32))) = 0
      · have sub : ∀ b, b < n → hoB (nI g) b = true → N b = nI i := fun b hb z => (hoF b hb).mp (((part_64 g (by omega) F (by omega)).1.mp part) b (by omega) z)
        have cg : cntB n (hoB (nI g)) = pcN g := pc_ho n (by omega) g (by omega)
        have own : C = pcN g + cntB n (fun b => (N b == nI i) && !hoB (nI g) b) := by
          rw [hC, ← cg, ← cnt_or (fun b hb z1 z2 => by rw [z1] at z2; simp at z2)]
          refine cntB_congr (fun b hb => ?_)
          show (N b == nI i) = (hoB (nI g) b || ((N b == nI i) && !hoB (nI g) b))
          by_cases z : hoB (nI g) b = true
          · rw [z, sub b hb z, beq_self_eq_true, Bool.true_or]
          · rw [Bool.eq_false_iff.mpr z, Bool.false_or, Bool.not_false, Bool.and_true]
        have W2 : wW N i c g n = c ^ pcN g * (10 - c) ^ (C - pcN g) := by
          rw [wW_in n sub, cg, show C - pcN g = cntB n (fun b => (N b == nI i) && !hoB (nI g) b) by omega]
        obtain ⟨m1, ν1, p1, p2, p3, p4, p5, p6, p7, p8⟩ := try_both H
        obtain ⟨hE', y1, y2, hW', hI', k1, k2⟩ := p3
        obtain ⟨m2, g1, g2, g3, g4⟩ := H_weep (g := g) (v1 := nI i) (v2 := nI s) b1 xfu 0 m1 (by omega) (by show n < 0 + 100000; omega) hE'.2.2.2.2.1
        have m25 : ∀ b, b < n → m2.1 28 (b * 6 + 5) = μ.1 0 (b * 6 + 5) := fun b hb => by
          rw [g2 b 5 hb (by decide), if_neg (by omega), p6 b 5 hb (by decide)]
        obtain ⟨p', hp', f1, f2⟩ := mir_play (β := 4) (M := 0) (m := m2) (ν := ν2) (by decide) b1 b2 hi hs g3 w0' (fun i hi => by rw [g4.1 3 i (by unfold sH; omega), p4.1 3 i (by unfold sH; omega)]; exact kk i hi) vt (fun b hb => by
          show (m2.1 28 (b * 6 + 5) = nI i ∨ _) ↔ _
          rw [m25 b hb, hoB_0 b (by omega), show 1742 + b = 1712 + 6 * 5 + b by omega, t0 b 5 hb (by decide) (by decide)]
          exact ⟨fun z => z.elim id (fun y => absurd y (by decide)), Or.inl⟩) (fun b hb z x hx => by
          show m2.1 28 (b * 6 + x) = _
          rw [show 1742 + b = 1712 + 6 * 5 + b by omega, t0 b 5 hb (by decide) (by decide)] at z
          rw [g2 b x hb (by omega), p6 b x hb (by omega)]
          by_cases c2 : x = 2
          · subst c2
            rw [t2 b hb z]
            by_cases y : hoB (nI g) b = true
            · rw [if_pos ⟨rfl, by omega, y⟩, if_pos y]
            · rw [if_neg (fun w => y w.2.2), if_neg y]
          · rw [if_neg (fun w => c2 w.1), t0 b x hb (by omega) c2])
        have pp : p' = p := by
          rw [e3] at f2
          exact ((nI_eq (by omega) (by omega)).mp (Option.some.inj f2)).symm
        subst pp
        have l17 : fH_playWeeping (nI i) (nI s) (nI g) μ = some (nI p', m2) := by
          unfold fH_playWeeping
          rw [p1, bnd]
          refine g1.trans ?_
          rw [f1]
          rfl
        have step : fH_weeps_l52 (f + 1) (nI i) (nI s) (nI c) (nI F) (lN S) (nI g) μ = fH_weeps_l52 f (nI i) (nI s) (nI c) (nI F) (lN (S + wW N i c g n * p')) (nI (g + 1)) m2 := by
          have pg6 := pcN_6 g (by omega)
          conv => lhs; unfold fH_weeps_l52 fH_isPartOf fH_weeps_b119
          rw [if_neg (nI_nlt (by omega) (by omega)), if_pos part, bnd, xnb_1, xi1, bitCount_N g (by omega), bnd, nI_l (by omega), power_N (by omega), bnd, bitCount_N F (by omega), bnd, pcF, show (10 : Int32) - nI c = nI (10 - c) from nI_sub (a := 10) (b := c) hc, nI_l (by omega), nI_sub (by omega), power_N (by omega), bnd, l17, bnd, nI_1, nI_l (by omega), lN_mul, lN_mul, lN_add, W2]
        rw [step]
        have F2 := scH_trans p4 g4
        obtain ⟨d, S', μ', ν', -, r1, r2, r3, r4, r5, r6, -⟩ := wW_sum (N := N) hi hs hc hF hC f (g + 1) fM (S + wW N i c g n * p') m2 ν2 (fun b hb => (F2.1 0 _ (by unfold sH; omega)).trans (hm b hb)) (by omega) (by omega) (by omega) (by omega) (rT_sc F2 e2 H)
        exact ⟨d, S', μ', ν', ν, r1, r2, r3, r4, scH_trans F2 r5, scM_trans e2 r6, rfl⟩
      · have w0g : wW N i c g n = 0 := by
          refine wW_0 n ?_
          by_cases ex : ∃ b, b < n ∧ hoB (nI g) b = true ∧ ¬ N b = nI i
          · exact ex
          · refine absurd ((part_64 g (by omega) F (by omega)).1.mpr (fun j hj hx => ?_)) part
            have hjn := ho_lt n (by omega) g (by omega) j hj hx
            by_cases e : N j = nI i
            · exact (hoF j hjn).mpr e
            · exact absurd ⟨j, hjn, hx, e⟩ ex
        have step : fH_weeps_l52 (f + 1) (nI i) (nI s) (nI c) (nI F) (lN S) (nI g) μ = fH_weeps_l52 f (nI i) (nI s) (nI c) (nI F) (lN S) (nI (g + 1)) μ := by
          conv => lhs; unfold fH_weeps_l52 fH_isPartOf fH_weeps_b119
          rw [if_neg (nI_nlt (by omega) (by omega)), if_neg part, bnd, xnb_0, xi0, nI_1]
        rw [step, w0g, Nat.zero_mul, Nat.add_zero]
        obtain ⟨d, S', μ', ν', -, r1, r2, r3, r4, r5, r6, -⟩ := wW_sum (N := N) hi hs hc hF hC f (g + 1) fM S μ ν2 hm (by omega) (by omega) (by omega) (Nat.le_trans h4 (Nat.mul_le_mul_right _ (Nat.le_succ g))) (rT_sc scH_refl e2 H)
        exact ⟨d, S', μ', ν', ν, r1, r2, r3, r4, r5, scM_trans e2 r6, rfl⟩
theorem M_wp43 {i C : Nat} {v2 v3 : Int32} {S : Int64} {ν : xM} (hC : fM_boardsOf ν 0 (nI i) = some (nI C)) (hC6 : C ≤ 6) : ∀ (f e : Nat), e ≤ C → C < e + f → fM_weeps_l43 f (nI i) v2 v3 S (lN (10 ^ e)) (nI e) ν = fM_weeps_l71 xfu (nI i) v2 v3 S (lN (10 ^ C)) 0 ν
  | 0, e, h1, h2 => absurd h2 (by omega)
  | f + 1, e, h1, h2 => by
    unfold fM_weeps_l43
    rw [hC, bnd]
    by_cases he : e = C
    · subst he
      rw [if_pos (nI_le (Nat.le_refl _) (by omega))]
    · rw [if_neg (nI_ge (by omega) (by omega)), show (10 : Int64) = lN 10 from rfl, lN_mul, ← Nat.pow_succ, nI_1]
      exact M_wp43 hC hC6 f (e + 1) (by omega) (by omega)
theorem st_weeps {μ ν : xM} (h : xRel μ ν) (v1 : Int32) (v2 : Int32) (v3 : Int32) : ∃ (r : Int32) (μ2 ν2 : xM), (fH_weeps v1 v2 v3 μ = some (r, μ2)) ∧ (fM_weeps v1 v2 v3 ν = some (r, ν2)) ∧ xRel μ2 ν2 := by
  unfold fH_weeps fM_weeps
  obtain ⟨n, k, y, hh, a, q, u, H⟩ := rel_op h
  obtain ⟨B, U, W, hC, -⟩ := id H
  rcases xin (Nat.le_trans B.2.1 (by decide)) U.2.2.2.1 W.2.1 v1 with ⟨i, hi, rfl, e1, e2⟩ | ⟨e1, e2⟩
  · rw [e1, e2, bnd, bnd, xi1, xi1, xsgb, xsmb]
    by_cases c1 : 0 ≤ v2 ∧ v2 ≤ 3
    · rw [if_pos c1, if_pos c1, xwb, xib2 (y := 0) (z := 10) (a := 0) (b := 10) rfl rfl]
      obtain ⟨s, hs, rfl⟩ := nI_of2 (M := 3) (n := 3) rfl (Int32.not_lt.mpr c1.1) c1.2
      by_cases c2 : 0 ≤ v3 ∧ v3 ≤ 10
      · rw [if_pos c2, if_pos c2]
        obtain ⟨c, hc, rfl⟩ := nI_of2 (M := 10) (n := 10) rfl (Int32.not_lt.mpr c2.1) c2.2
        have hE := bE_0 B.1 B.2.1 U.1 W.1 hC
        have hm := H_mask (β := 0) (m := μ) (v := nI i) (by decide) B.1 U.1
        have h64 := pow64 B.1
        have hF : maskN n (fun b => μ.1 0 (b * 6 + 5) == nI i) < 2 ^ n := maskN_lt _ _
        have hb := (cnt_both hE (v := nI i)).2
        have hb' : fM_boardsOf ν 0 (nI i) = some (nI (cntB n (fun b => μ.1 0 (b * 6 + 5) == nI i))) := hb
        have C6 : cntB n (fun b => μ.1 0 (b * 6 + 5) == nI i) ≤ 6 := by
          have := cntB_le (n := n) (f := fun b => μ.1 0 (b * 6 + 5) == nI i)
          have := B.1
          omega
        obtain ⟨d, S', μ', ν', -, r1, r2, r3, r4, r5, r6, -⟩ := wW_sum (N := fun b => μ.1 0 (b * 6 + 5)) hi (s := s) (by omega) hc rfl rfl xfu 0 xfu 0 μ ν (fun b hb => rfl) (by omega) (by show maskN n (fun b => μ.1 0 (b * 6 + 5) == nI i) + 1 < 0 + 100000; omega) (by show 2 ^ n < 0 + 100000; omega) (by decide) H
        have g43 := M_wp43 (v2 := nI s) (v3 := nI c) (S := 0) hb' C6 xfu 0 (by omega) (by show _ < 0 + 100000; omega)
        refine ⟨1, _, _, ?_, ?_, rel_frac (a := lN S' / lN d) (b := lN (10 ^ cntB n (fun b => μ.1 0 (b * 6 + 5) == nI i)) / lN d) (rel_sc h r5 r6)⟩
        · rw [hm]
          exact r3
        · exact g43.trans r4
      · rw [if_neg c2, if_neg c2]
        exact ⟨-2, _, _, rfl, rfl, rel_bad h⟩
    · rw [if_neg c1, if_neg c1]
      exact ⟨-2, _, _, rfl, rfl, rel_bad h⟩
  · rw [e1, e2, bnd, bnd, xi0, xi0]
    exact ⟨-2, _, _, rfl, rfl, rel_bad h⟩
