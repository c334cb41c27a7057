/-! STEPS: look, ask -/
theorem look_f {bb : Nat} {p : Nat} {A M v4 x y : Int32} (hbb : bb < 6) (kH' kM' : Int32 → Int32 → Int32 → Int32 → Int32 → xM → Option (Int32 × xM)) : ∀ (f b : Nat) (m ν : xM), b ≤ 6 → 6 < b + f → ν.1 0 (14 + bb) = A → (∀ j, j < b → m.1 34 j = ν.1 5 j) → ∃ m' ν', fH_look_l65 kH' f M A v4 x (nI p) (nI b) m = ((fH_mostAlike m' M).bind fun r => if x ≤ r then kH' M A v4 x (nI (p + 1)) m' else kH' M A (nI p) r (nI (p + 1)) m') ∧ fM_look_l44 kM' f (nI bb) M v4 y (nI p) (nI b) ν = ((fM_greatest ν' M).bind fun r => if y ≤ r then kM' (nI bb) M v4 y (nI (p + 1)) ν' else kM' (nI bb) M (nI p) r (nI (p + 1)) ν') ∧ scH m m' ∧ scM ν ν' ∧ (∀ j, j < 6 → m'.1 34 j = ν'.1 5 j)
  | 0, b, m, ν, h1, h2, h, e => absurd h2 (by omega)
  | f + 1, b, m, ν, h1, h2, h, e => by
    unfold fH_look_l65 fM_look_l44
    by_cases hb : b = 6
    · subst hb
      rw [if_pos (show (6 : Int32) ≤ nI 6 by decide), if_pos (show (6 : Int32) ≤ nI 6 by decide)]
      unfold fH_look_b126 fM_look_b108 fM_look_b123
      rw [nI_1]
      refine ⟨m, ν, rfl, ?_, scH_refl, scM_refl, e⟩
      congr 1
      funext r
      by_cases c : y ≤ r
      · rw [if_pos c, if_pos c, if_pos c]
      · rw [if_neg c, if_neg c, if_neg c]
    · have c6 : ¬ (6 : Int32) ≤ nI b := nI_ge (b := 6) (by omega) (by decide)
      obtain ⟨z, ez⟩ := sound_tot (nI b) (nI p / 10) A (nI p - nI p / 10 * 10)
      have F : scH m (xset m 34 b z) := scH_set (by unfold sH; omega) scH_refl
      have G : scM ν (xset ν 5 b z) := scM_set (by unfold sM; omega) scM_refl
      rw [if_neg c6, if_neg c6, show (14 : Int32) + nI bb = nI (14 + bb) from nI_add 14 bb, xck_nI (by omega) (by decide), nI_clamp (by omega), h, sound_eq, ez, bnd, bnd, P_alike (by omega), bnd, xck_nI (by omega) (by decide), nI_clamp (by omega), nI_1]
      obtain ⟨m', ν', g1, g2, g3, g4, g5⟩ := look_f (p := p) (M := M) (v4 := v4) (x := x) (y := y) hbb kH' kM' f (b + 1) (xset m 34 b z) (xset ν 5 b z) (by omega) (by omega) (by simp (disch := omega) only [xset_ne, xset_nj, xset_eq, Nat.add_zero]; exact h) (fun j hj => by
        by_cases c : j = b
        · subst c; simp (disch := omega) only [xset_ne, xset_nj, xset_eq, Nat.add_zero]
        · simp (disch := omega) only [xset_ne, xset_nj, xset_eq, Nat.add_zero]
          exact e j (by omega))
      exact ⟨m', ν', g1, g2, scH_trans F g3, scM_trans G g4, g5⟩
theorem look_l {bb M : Nat} {A : Int32} (hbb : bb < 6) (hM : M < 64) : ∀ (f p : Nat) (v4 x y : Int32) (m ν : xM), p ≤ 40 → 40 < p + f → ν.1 0 (14 + bb) = A → fwR x y → ∃ r m' ν', fH_look_l51 f (nI M) A v4 x (nI p) m = some (r, m') ∧ fM_look_l30 f (nI bb) (nI M) v4 y (nI p) ν = some (r, ν') ∧ scH m m' ∧ scM ν ν'
  | 0, p, v4, x, y, m, ν, h1, h2, h, fw => absurd h2 (by omega)
  | f + 1, p, v4, x, y, m, ν, h1, h2, h, fw => by
    unfold fH_look_l51 fM_look_l30
    by_cases hp : p = 40
    · subst hp
      rw [if_pos (by decide), if_pos (by decide)]
      exact ⟨_, _, _, rfl, rfl, scH_refl, scM_refl⟩
    · have c4 : ¬ (40 : Int32) ≤ nI p := nI_ge (b := 40) (by omega) (by decide)
      rw [if_neg c4, if_neg c4]
      by_cases c : M = 0
      · subst c
        rw [if_pos (show nI 0 = 0 from rfl), if_pos (show nI 0 ≤ 0 by decide)]
        exact ⟨_, _, _, rfl, rfl, scH_refl, scM_refl⟩
      · rw [if_neg (nI_ne0 (by omega) (by omega)), if_neg (nI_nle (by omega) (by omega))]
        obtain ⟨m1, ν1, g1, g2, g3, g4, g5⟩ := look_f (M := nI M) (v4 := v4) (x := x) (y := y) (p := p) (A := A) hbb (fH_look_l51 f) (fM_look_l30 f) xfu 0 m ν (by decide) (by decide) h (fun j hj => absurd hj (Nat.not_lt_zero j))
        have g1' : fH_look_l65 (fH_look_l51 f) xfu (nI M) A v4 x (nI p) 0 m = _ := g1
        have g2' : fM_look_l44 (fM_look_l30 f) xfu (nI bb) (nI M) v4 y (nI p) 0 ν = _ := g2
        obtain ⟨r, hr, a1, a2⟩ := alike_both (m := m1) (ν := ν1) (M := nI M) (fun j hj z => g5 j hj)
        have h' : ν1.1 0 (14 + bb) = A := (g4.1 0 _ (by unfold sM; omega)).trans h
        rw [g1', g2', a1, a2, bnd, bnd]
        by_cases d : x ≤ nI r
        · rw [if_pos d, if_pos ((fwR_c fw hr).mp d)]
          obtain ⟨z, m2, ν2, q1, q2, q3, q4⟩ := look_l hbb hM f (p + 1) v4 x y m1 ν1 (by omega) (by omega) h' fw
          exact ⟨z, m2, ν2, q1, q2, scH_trans g3 q3, scM_trans g4 q4⟩
        · rw [if_neg d, if_neg (fun z => d ((fwR_c fw hr).mpr z))]
          obtain ⟨z, m2, ν2, q1, q2, q3, q4⟩ := look_l hbb hM f (p + 1) (nI p) (nI r) (nI r) m1 ν1 (by omega) (by omega) h' (Or.inl ⟨r, hr, rfl, rfl⟩)
          exact ⟨z, m2, ν2, q1, q2, scH_trans g3 q3, scM_trans g4 q4⟩
theorem st_look {μ ν : xM} (h : xRel μ ν) (v1 : Int32) : ∃ (r : Int32) (μ2 ν2 : xM), (fH_look v1 μ = some (r, μ2)) ∧ (fM_look v1 ν = some (r, ν2)) ∧ xRel μ2 ν2 := by
  unfold fH_look fM_look
  obtain ⟨n, k, y, hh, a, q, u, B, U, W, hC, hW, hI, hH, hN, hM, hP⟩ := rel_op h
  obtain ⟨b1, b2, b3, b4, b5, b6, b7⟩ := id B
  obtain ⟨u0, u1, u2, u3, u4, u5, u6, uy⟩ := U
  obtain ⟨w0, w1, w2, w3, w4, w5, w6⟩ := W
  rcases xbd b1 u0 w0 v1 with ⟨b, hb, rfl, e1, e2⟩ | ⟨e1, e2⟩
  · rw [e1, e2, bnd, bnd, xi1, xi1]
    obtain ⟨M, hM', e3, e4⟩ := is_both b5 u5 w4 hN (v := nI b) xfu 0 0 (by decide) (by decide) (by decide)
    have hA : ν.1 0 (14 + b) = μ.1 0 (b * 6 + 1) := (hC.1 b 1 hb (by decide)).symm
    obtain ⟨r, m', ν', q1, q2, q3, q4⟩ := look_l (bb := b) (A := μ.1 0 (b * 6 + 1)) (by omega) hM' xfu 0 (-1) 7 1000000 μ ν (by decide) (by decide) hA (Or.inr ⟨rfl, rfl⟩)
    refine ⟨r, m', ν', ?_, ?_, rel_sc h q3 q4⟩
    · show (fW_notedKinds_l4 0 μ xfu (nI b) (nI 0) (nI 0)).bind _ = _
      rw [e3, bnd]
      unfold fB_cell
      rw [B_get (β := 0) (b := b) (c := 1) (v2 := 1) (by decide) rfl rfl (by decide) (by omega)]
      exact q1
    · show (fM_kindsOf_l4 ν xfu (nI b) (nI 0) (nI 0)).bind _ = _
      rw [e4]
      exact q2
  · rw [e1, e2, bnd, bnd, xi0, xi0]
    exact ⟨-2, _, _, rfl, rfl, rel_bad h⟩
def qn (p : Nat) : Nat := p / 100 * 25 + min (p / 10 % 10) 5 * 5 + (if p / 10 % 10 ≤ 4 then min (p % 10) 5 else 0)
theorem qn_N : ∀ p, p < 400 → (p / 10 % 10 ≤ 4 ∧ p % 10 ≤ 4 → qn (p + 1) = qn p + 1 ∧ qn p < 100 ∧ qn p / 25 = p / 100 ∧ qn p / 5 % 5 = p / 10 % 10 ∧ qn p % 5 = p % 10) ∧ (¬ (p / 10 % 10 ≤ 4 ∧ p % 10 ≤ 4) → qn (p + 1) = qn p) ∧ qn p ≤ 100 := by decide +kernel
def pvI (s h n j : Nat) : Int32 := ((fM_playOf (nI j) (nI s) 20 (nI h) (nI n)).getD 0)
theorem pvI_eq {s h n j : Nat} (hs : s < 4) (hh : h < 5) (hn : n < 5) : fS_playBy (nI j) (nI s) 20 (nI h) (nI n) = some (pvI s h n j) ∧ fM_playOf (nI j) (nI s) 20 (nI h) (nI n) = some (pvI s h n j) := by
  obtain ⟨p, hp, e1, e2⟩ := play_N (kd := nI j) (s := s) (X := 20) (H := h) (K := n) hs (by decide) hh (by omega)
  have e2' : fM_playOf (nI j) (nI s) 20 (nI h) (nI n) = some (nI p) := e2
  have e : pvI s h n j = nI p := by
    unfold pvI
    rw [e2']
    rfl
  rw [e]
  exact ⟨e1, e2'⟩
theorem ask_fH {s h n : Nat} {M : Int32} (hs : s < 4) (hh : h < 5) (hn : n < 5) : ∀ (f b : Nat) (m : xM), b ≤ 6 → 6 < b + f → (∀ j, j < b → m.1 34 j = pvI s h n j) → ∃ m', fH_mostAlikeAsked_l3 f M (nI s) (nI h) (nI n) (nI b) m = ((fH_mostAlike m' M).bind fun r => some (r, m')) ∧ scH m m' ∧ (∀ j, j < 6 → m'.1 34 j = pvI s h n j)
  | 0, b, m, h1, h2, e => absurd h2 (by omega)
  | f + 1, b, m, h1, h2, e => by
    unfold fH_mostAlikeAsked_l3
    by_cases hb : b = 6
    · subst hb
      rw [if_pos (show (6 : Int32) ≤ nI 6 by decide)]
      exact ⟨m, rfl, scH_refl, e⟩
    · have c6 : ¬ (6 : Int32) ≤ nI b := nI_ge (b := 6) (by omega) (by decide)
      have F : scH m (xset m 34 b (pvI s h n b)) := scH_set (by unfold sH; omega) scH_refl
      rw [if_neg c6, (pvI_eq hs hh hn).1, bnd, P_alike (by omega), bnd, nI_1]
      obtain ⟨m', g1, g2, g3⟩ := ask_fH (M := M) hs hh hn f (b + 1) (xset m 34 b (pvI s h n b)) (by omega) (by omega) (fun j hj => by
        by_cases c : j = b
        · subst c; simp (disch := omega) only [xset_ne, xset_nj, xset_eq, Nat.add_zero]
        · simp (disch := omega) only [xset_ne, xset_nj, xset_eq, Nat.add_zero]
          exact e j (by omega))
      exact ⟨m', g1, scH_trans F g2, g3⟩
theorem ask_fM {s h n q : Nat} {M v3 y : Int32} (hs : s < 4) (hh : h < 5) (hn : n < 5) (kM' : Int32 → Int32 → Int32 → Int32 → xM → Option (Int32 × xM)) : ∀ (f b : Nat) (ν : xM), b ≤ 6 → 6 < b + f → (∀ j, j < b → ν.1 5 j = pvI s h n j) → ∃ ν', fM_ask_l65 kM' f M v3 y (nI q) (nI s) (nI h) (nI n) (nI b) ν = ((fM_greatest ν' M).bind fun r => if y ≤ r then kM' M v3 y (nI (q + 1)) ν' else kM' M (nI (100 * s + 10 * h + n)) r (nI (q + 1)) ν') ∧ scM ν ν' ∧ (∀ j, j < 6 → ν'.1 5 j = pvI s h n j)
  | 0, b, ν, h1, h2, e => absurd h2 (by omega)
  | f + 1, b, ν, h1, h2, e => by
    unfold fM_ask_l65
    by_cases hb : b = 6
    · subst hb
      rw [if_pos (show (6 : Int32) ≤ nI 6 by decide)]
      unfold fM_ask_b130 fM_ask_b145
      have ep : (100 : Int32) * nI s + 10 * nI h + nI n = nI (100 * s + 10 * h + n) := by
        rw [show (100 : Int32) = nI 100 from rfl, show (10 : Int32) = nI 10 from rfl, nI_mul, nI_mul, nI_add, nI_add]
      rw [nI_1, ep]
      refine ⟨ν, ?_, scM_refl, e⟩
      congr 1
      funext r
      by_cases c : y ≤ r
      · rw [if_pos c, if_pos c, if_pos c]
      · rw [if_neg c, if_neg c, if_neg c]
    · have c6 : ¬ (6 : Int32) ≤ nI b := nI_ge (b := 6) (by omega) (by decide)
      have G : scM ν (xset ν 5 b (pvI s h n b)) := scM_set (by unfold sM; omega) scM_refl
      rw [if_neg c6, (pvI_eq hs hh hn).2, bnd, xck_nI (by omega) (by decide), nI_clamp (by omega), nI_1]
      obtain ⟨ν', g1, g2, g3⟩ := ask_fM (M := M) (v3 := v3) (y := y) (q := q) hs hh hn kM' f (b + 1) (xset ν 5 b (pvI s h n b)) (by omega) (by omega) (fun j hj => by
        by_cases c : j = b
        · subst c; simp (disch := omega) only [xset_ne, xset_nj, xset_eq, Nat.add_zero]
        · simp (disch := omega) only [xset_ne, xset_nj, xset_eq, Nat.add_zero]
          exact e j (by omega))
      exact ⟨ν', g1, scM_trans G g2, g3⟩
theorem ask_l {M : Nat} (hM : M < 64) : ∀ (f p fM : Nat) (v3 x y : Int32) (m ν : xM), p ≤ 400 → 400 < p + f → 100 < qn p + fM → fwR x y → ∃ r m' ν', fH_ask_l34 f (nI M) v3 x (nI p) m = some (r, m') ∧ fM_ask_l30 fM (nI M) v3 y (nI (qn p)) ν = some (r, ν') ∧ scH m m' ∧ scM ν ν'
  | 0, p, fM, v3, x, y, m, ν, h1, h2, h3, fw => absurd h2 (by omega)
  | f + 1, p, fM, v3, x, y, m, ν, h1, h2, h3, fw => by
    unfold fH_ask_l34
    by_cases hp : p = 400
    · subst hp
      have e : qn 400 = 100 := by decide
      rw [e] at h3 ⊢
      obtain ⟨fM, rfl⟩ : ∃ g, fM = g + 1 := ⟨fM - 1, by omega⟩
      unfold fM_ask_l30
      rw [if_pos (by decide), if_pos (by decide)]
      exact ⟨_, _, _, rfl, rfl, scH_refl, scM_refl⟩
    · have c4 : ¬ (400 : Int32) ≤ nI p := nI_ge (b := 400) (by omega) (by decide)
      obtain ⟨t1, t2, t3⟩ := qn_N p (by omega)
      rw [if_neg c4]
      by_cases c : M = 0
      · subst c
        obtain ⟨fM, rfl⟩ : ∃ g, fM = g + 1 := ⟨fM - 1, by omega⟩
        unfold fM_ask_l30
        rw [if_pos (show nI 0 = 0 from rfl), if_pos (show nI 0 ≤ 0 by decide)]
        refine ⟨v3, m, ν, rfl, ?_, scH_refl, scM_refl⟩
        by_cases d : (100 : Int32) ≤ nI (qn p)
        · rw [if_pos d]
        · rw [if_neg d]
      · rw [if_neg (nI_ne0 (by omega) (by omega)), show (10 : Int32) = nI 10 from rfl, show (100 : Int32) = nI 100 from rfl, nI_mod (a := p) (b := 10) (by omega) (by decide), nI_div (a := p) (b := 10) (by omega) (by decide), nI_mod (a := p / 10) (b := 10) (by omega) (by decide), nI_div (a := p) (b := 100) (by omega) (by decide)]
        unfold fH_ask_b105
        rw [nI_1]
        by_cases v1 : p / 10 % 10 ≤ 4
        · rw [if_neg (show ¬ (4 : Int32) < nI (p / 10 % 10) from nI_nlt (b := p / 10 % 10) (a := 4) v1 (by decide))]
          by_cases v2 : p % 10 ≤ 4
          · rw [if_neg (show ¬ (4 : Int32) < nI (p % 10) from nI_nlt (b := p % 10) (a := 4) v2 (by decide))]
            obtain ⟨s1, s2, s3, s4, s5⟩ := t1 ⟨v1, v2⟩
            obtain ⟨fM, rfl⟩ : ∃ g, fM = g + 1 := ⟨fM - 1, by omega⟩
            have hs : p / 100 < 4 := by omega
            obtain ⟨m1, a1, a2, a3⟩ := ask_fH (M := nI M) (s := p / 100) (h := p / 10 % 10) (n := p % 10) hs (by omega) (by omega) xfu 0 m (by decide) (by decide) (fun j hj => absurd hj (Nat.not_lt_zero j))
            have a1' : fH_mostAlikeAsked (nI M) (nI (p / 100)) (nI (p / 10 % 10)) (nI (p % 10)) m = _ := a1
            obtain ⟨ν1, g1, g2, g3⟩ := ask_fM (M := nI M) (v3 := v3) (y := y) (q := qn p) (s := p / 100) (h := p / 10 % 10) (n := p % 10) hs (by omega) (by omega) (fM_ask_l30 fM) xfu 0 ν (by decide) (by decide) (fun j hj => absurd hj (Nat.not_lt_zero j))
            have g1' : fM_ask_l65 (fM_ask_l30 fM) xfu (nI M) v3 y (nI (qn p)) (nI (p / 100)) (nI (p / 10 % 10)) (nI (p % 10)) 0 ν = _ := g1
            obtain ⟨r, hr, r1, r2⟩ := alike_both (m := m1) (ν := ν1) (M := nI M) (fun j hj z => (a3 j hj).trans (g3 j hj).symm)
            have ep : 100 * (p / 100) + 10 * (p / 10 % 10) + p % 10 = p := by omega
            unfold fM_ask_l30
            rw [if_neg (show ¬ (100 : Int32) ≤ nI (qn p) from nI_ge (b := 100) s2 (by decide)), if_neg (nI_nle (by omega) (by omega)), show (25 : Int32) = nI 25 from rfl, show (5 : Int32) = nI 5 from rfl, nI_mod (a := qn p) (b := 5) (by omega) (by decide), nI_div (a := qn p) (b := 5) (by omega) (by decide), nI_mod (a := qn p / 5) (b := 5) (by omega) (by decide), nI_div (a := qn p) (b := 25) (by omega) (by decide), s3, s4, s5, a1', g1', r1, r2, bnd, bnd, bnd, ep]
            by_cases d : x ≤ nI r
            · rw [if_pos d, if_pos ((fwR_c fw hr).mp d), ← s1]
              obtain ⟨z, m2, ν2, q1, q2, q3, q4⟩ := ask_l hM f (p + 1) fM v3 x y m1 ν1 (by omega) (by omega) (by omega) fw
              exact ⟨z, m2, ν2, q1, q2, scH_trans a2 q3, scM_trans g2 q4⟩
            · rw [if_neg d, if_neg (fun z => d ((fwR_c fw hr).mpr z)), ← s1]
              obtain ⟨z, m2, ν2, q1, q2, q3, q4⟩ := ask_l hM f (p + 1) fM (nI p) (nI r) (nI r) m1 ν1 (by omega) (by omega) (by omega) (Or.inl ⟨r, hr, rfl, rfl⟩)
              exact ⟨z, m2, ν2, q1, q2, scH_trans a2 q3, scM_trans g2 q4⟩
          · have s1 := t2 (fun z => v2 z.2)
            rw [if_pos (show (4 : Int32) < nI (p % 10) from nI_lt (a := 4) (by omega) (by omega)), ← s1]
            exact ask_l hM f (p + 1) fM v3 x y m ν (by omega) (by omega) (by omega) fw
        · have s1 := t2 (fun z => v1 z.1)
          rw [if_pos (show (4 : Int32) < nI (p / 10 % 10) from nI_lt (a := 4) (by omega) (by omega)), ← s1]
          exact ask_l hM f (p + 1) fM v3 x y m ν (by omega) (by omega) (by omega) fw
theorem st_ask {μ ν : xM} (h : xRel μ ν) (v1 : Int32) : ∃ (r : Int32) (μ2 ν2 : xM), (fH_ask v1 μ = some (r, μ2)) ∧ (fM_ask v1 ν = some (r, ν2)) ∧ xRel μ2 ν2 := by
  unfold fH_ask fM_ask
  obtain ⟨n, k, y, hh, a, q, u, B, U, W, hC, hW, hI, hH, hN, hM, hP⟩ := rel_op h
  obtain ⟨b1, b2, b3, b4, b5, b6, b7⟩ := id B
  obtain ⟨u0, u1, u2, u3, u4, u5, u6, uy⟩ := U
  obtain ⟨w0, w1, w2, w3, w4, w5, w6⟩ := W
  rcases xin (Nat.le_trans b2 (by decide)) u3 w1 v1 with ⟨i, hi, rfl, e1, e2⟩ | ⟨e1, e2⟩
  · rw [e1, e2, bnd, bnd, xi1, xi1]
    obtain ⟨M, hM', e3, e4⟩ := kinds_both b6 u6 w5 hM (v := nI i) xfu 0 0 (by decide) (by decide) (by decide)
    obtain ⟨r, m', ν', q1, q2, q3, q4⟩ := ask_l hM' xfu 0 xfu (-1) 7 1000000 μ ν (by decide) (by decide) (by decide) (Or.inr ⟨rfl, rfl⟩)
    refine ⟨r, m', ν', ?_, ?_, rel_sc h q3 q4⟩
    · show (fW_markedKinds_l4 0 μ xfu (nI i) (nI 0) (nI 0)).bind _ = _
      rw [e3]
      exact q1
    · show (fM_instrumentsOf_l4 ν xfu (nI i) (nI 0) (nI 0)).bind _ = _
      rw [e4]
      exact q2
  · rw [e1, e2, bnd, bnd, xi0, xi0]
    exact ⟨-2, _, _, rfl, rfl, rel_bad h⟩
