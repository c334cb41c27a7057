/-! STEPS: tune -/
theorem cnt_or {n : Nat} {f g : Nat → Bool} (dis : ∀ b, b < n → f b = true → g b = true → False) : cntB n (fun b => f b || g b) = cntB n f + cntB n g := by
  induction n with
  | zero => rfl
  | succ n ih =>
    show cntB n (fun b => f b || g b) + (if (f n || g n) = true then 1 else 0) = cntB n f + (if f n = true then 1 else 0) + (cntB n g + (if g n = true then 1 else 0))
    rw [ih (fun b hb => dis b (by omega))]
    by_cases c : f n = true
    · rw [if_pos (by rw [c]; rfl), if_pos c, if_neg (fun z => dis n (by omega) c z)]
      omega
    · rw [Bool.eq_false_iff.mpr c, Bool.false_or, if_neg (show ¬ false = true by decide)]
      omega
theorem cnt_mono {n : Nat} {f g : Nat → Bool} (h : ∀ b, b < n → f b = true → g b = true) : cntB n f ≤ cntB n g := by
  induction n with
  | zero => exact Nat.le_refl _
  | succ n ih =>
    show cntB n f + (if f n = true then 1 else 0) ≤ cntB n g + (if g n = true then 1 else 0)
    have h1 := ih (fun b hb => h b (by omega))
    by_cases c : f n = true
    · rw [if_pos c, if_pos (h n (by omega) c)]
      omega
    · rw [if_neg c]
      omega
theorem pc_ho : ∀ n, n < 7 → ∀ M, M < 2 ^ n → cntB n (hoB (nI M)) = pcN M := by decide +kernel
theorem part_64 : ∀ a, a < 64 → ∀ b, b < 64 → ((nI a &&& (nI b ^^^ (-1 : Int32))) = 0 ↔ ∀ j, j < 6 → hoB (nI a) j = true → hoB (nI b) j = true) ∧ ((nI a &&& (nI b ^^^ (-1 : Int32))) = 0 → a ≤ b) := by decide +kernel
theorem pow64 {n : Nat} (hn : n ≤ 6) : 2 ^ n ≤ 64 := Nat.pow_le_pow_right (n := 2) (by decide) hn
theorem M_tn123 {n g : Nat} {v1 v2 v3 v4 v5 : Int32} (hn : n ≤ 6) (k46 : Int32 → Int32 → Int32 → Int32 → Int32 → Int32 → xM → Option (Int32 × xM)) : ∀ (f b : Nat) (ν : xM), b ≤ n → n < b + f → ν.1 0 0 = nI n → ∃ ν', fM_tune_l123 k46 f v1 v2 v3 v4 v5 (nI g) (nI b) ν = ((fM_playsIn ν' 1704 v1 v2).bind fun r => if r = v3 then k46 v1 v2 v3 (nI g) v5 (nI (g + 1)) ν' else k46 v1 v2 v3 v4 v5 (nI (g + 1)) ν') ∧ (∀ b', b ≤ b' → b' < n → ν'.1 0 (1742 + b') = if hoB (nI g) b' = true then v1 else ν.1 0 (38 + b')) ∧ (∀ j i, (j ≠ 0 ∨ ¬ (1742 + b ≤ i ∧ i < 1742 + n)) → ν'.1 j i = ν.1 j i) ∧ ν'.2 = ν.2
  | 0, b, ν, h1, h2, w0 => absurd h2 (by omega)
  | f + 1, b, ν, h1, h2, w0 => by
    unfold fM_tune_l123
    rw [xk0, xl0, w0]
    by_cases hb : b = n
    · subst hb
      unfold fM_tune_b195 fM_tune_b197
      rw [if_pos (nI_le (Nat.le_refl _) (by omega)), nI_1]
      exact ⟨ν, rfl, fun b' q1 q2 => absurd q2 (by omega), fun _ _ _ => rfl, rfl⟩
    · have hb' : b < n := by omega
      rw [if_neg (nI_ge hb' (by omega)), M_has_eq, show (38 : Int32) + nI b = nI (38 + b) from nI_add 38 b, show (1742 : Int32) + nI b = nI (1742 + b) from nI_add 1742 b, xck_nI (by omega) (by decide), nI_clamp (by omega)]
      unfold fM_tune_b168
      rw [xck_nI (by omega) (by decide), xck_nI (by omega) (by decide), nI_clamp (by omega), nI_1]
      have step : ∀ D : Int32, D = (if hoB (nI g) b = true then v1 else ν.1 0 (38 + b)) → ∃ ν', fM_tune_l123 k46 f v1 v2 v3 v4 v5 (nI g) (nI (b + 1)) (xset ν 0 (1742 + b) D) = ((fM_playsIn ν' 1704 v1 v2).bind fun r => if r = v3 then k46 v1 v2 v3 (nI g) v5 (nI (g + 1)) ν' else k46 v1 v2 v3 v4 v5 (nI (g + 1)) ν') ∧ (∀ b', b ≤ b' → b' < n → ν'.1 0 (1742 + b') = if hoB (nI g) b' = true then v1 else ν.1 0 (38 + b')) ∧ (∀ j i, (j ≠ 0 ∨ ¬ (1742 + b ≤ i ∧ i < 1742 + n)) → ν'.1 j i = ν.1 j i) ∧ ν'.2 = ν.2 := by
        intro D hD
        obtain ⟨ν', g1, g2, g3, g4⟩ := M_tn123 (g := g) (v1 := v1) (v2 := v2) (v3 := v3) (v4 := v4) (v5 := v5) hn k46 f (b + 1) (xset ν 0 (1742 + b) D) (by omega) (by omega) (by simp (disch := omega) only [xset_ne, xset_nj, xset_eq, Nat.add_zero]; exact w0)
        refine ⟨ν', g1, fun b' q1 q2 => ?_, fun j i q => ?_, g4⟩
        · by_cases e : b' = b
          · subst e
            rw [g3 0 _ (by omega), xset_eq]
            exact hD
          · rw [g2 b' (by omega) q2]
            simp (disch := omega) only [xset_ne, xset_nj, xset_eq, Nat.add_zero]
        · rw [g3 j i (by omega)]
          by_cases q0 : j = 0
          · subst q0
            simp (disch := omega) only [xset_ne, xset_nj, xset_eq, Nat.add_zero]
          · simp (disch := omega) only [xset_ne, xset_nj, xset_eq, Nat.add_zero]
      by_cases c : hoB (nI g) b = true
      · rw [if_pos c]
        exact step _ (by rw [if_pos c])
      · rw [if_neg c]
        exact step _ (by rw [if_neg c])
/-- fewer boards than so far -/
def fewP (t : Int32) (g : Nat) : Prop := t = -1 ∨ ¬ nI (pcN t.toNatClampNeg) ≤ nI (pcN g)
def tOK (t : Int32) : Prop := t = -1 ∨ ∃ T, T < 64 ∧ t = nI T
theorem H_tn_yes {f F g i s x : Nat} {t : Int32} {m : xM} (hF : F < 64) (hg : g ≤ F) (ht : tOK t) (h1 : fewP t g) (h2 : (nI g &&& (nI F ^^^ (-1 : Int32))) = 0) : fH_tune_l53 (f + 1) (nI i) (nI s) (nI x) (nI F) t (nI g) m = ((fW_playOn 0 0 m (nI i) (nI s) (nI g)).bind fun r => if r = nI x then fH_tune_l53 f (nI i) (nI s) (nI x) (nI F) (nI g) (nI (g + 1)) m else fH_tune_l53 f (nI i) (nI s) (nI x) (nI F) t (nI (g + 1)) m) := by
  have b79 : fH_tune_b79 (fH_tune_l53 f) (nI i) (nI s) (nI x) (nI F) t (nI g) m = ((fW_playOn 0 0 m (nI i) (nI s) (nI g)).bind fun r => if r = nI x then fH_tune_l53 f (nI i) (nI s) (nI x) (nI F) (nI g) (nI (g + 1)) m else fH_tune_l53 f (nI i) (nI s) (nI x) (nI F) t (nI (g + 1)) m) := by
    unfold fH_tune_b79 fH_tune_b84 fH_tune_b127 fH_isPartOf
    rw [xi1, if_pos h2, xnb_1, bnd, xi1, nI_1]
  conv => lhs; unfold fH_tune_l53
  rw [if_neg (nI_nlt hg (by omega)), b79]
  rcases ht with rfl | ⟨T, hT, rfl⟩
  · rw [if_pos rfl]
  · rcases h1 with h1 | h1
    · exact absurd h1.symm (nI_m1 (by omega))
    · rw [nI_clamp (by omega)] at h1
      rw [if_neg (fun z => nI_m1 (i := T) (by omega) z.symm), bitCount_N g (by omega), bitCount_N T hT, bnd, bnd, if_neg h1]
theorem H_tn_no {f F g i s x : Nat} {t : Int32} {m : xM} (hF : F < 64) (hg : g ≤ F) (ht : tOK t) (h : ¬ (fewP t g ∧ (nI g &&& (nI F ^^^ (-1 : Int32))) = 0)) : fH_tune_l53 (f + 1) (nI i) (nI s) (nI x) (nI F) t (nI g) m = fH_tune_l53 f (nI i) (nI s) (nI x) (nI F) t (nI (g + 1)) m := by
  have b79 : fewP t g → fH_tune_b79 (fH_tune_l53 f) (nI i) (nI s) (nI x) (nI F) t (nI g) m = fH_tune_l53 f (nI i) (nI s) (nI x) (nI F) t (nI (g + 1)) m := by
    intro z
    unfold fH_tune_b79 fH_tune_b84 fH_tune_b127 fH_isPartOf
    rw [xi1, if_neg (fun y => h ⟨z, y⟩), xnb_0, bnd, xi0, nI_1]
  conv => lhs; unfold fH_tune_l53
  rw [if_neg (nI_nlt hg (by omega))]
  rcases ht with rfl | ⟨T, hT, rfl⟩
  · rw [if_pos rfl]
    exact b79 (Or.inl rfl)
  · rw [if_neg (fun z => nI_m1 (i := T) (by omega) z.symm), bitCount_N g (by omega), bitCount_N T hT, bnd, bnd]
    by_cases c : nI (pcN T) ≤ nI (pcN g)
    · rw [if_pos c]
      unfold fH_tune_b84 fH_tune_b127
      rw [xi0, nI_1]
    · rw [if_neg c]
      exact b79 (Or.inr (by rw [nI_clamp (by omega)]; exact c))
theorem M_tn_yes {f F g n i s x C : Nat} {t : Int32} {ν : xM} (hn : n ≤ 6) (w0 : ν.1 0 0 = nI n) (hg : g < 2 ^ n) (hC : fM_boardsOf ν 0 (nI i) = some (nI C)) (hC6 : C ≤ 6) (ht : tOK t) (h1 : fewP t g) (h2 : (nI g &&& (nI F ^^^ (-1 : Int32))) = 0) (h3 : pcN g + C ≤ 4) : fM_tune_l46 (f + 1) (nI i) (nI s) (nI x) t (nI F) (nI g) ν = ((fM_tries ν).bind fun r => fM_tune_l123 (fM_tune_l46 f) xfu (nI i) (nI s) (nI x) t (nI F) (nI g) (nI 0) r) := by
  have h64 := pow64 hn
  have b104 : fM_tune_b104 (fM_tune_l46 f) (nI i) (nI s) (nI x) t (nI F) (nI g) ν = ((fM_tries ν).bind fun r => fM_tune_l123 (fM_tune_l46 f) xfu (nI i) (nI s) (nI x) t (nI F) (nI g) (nI 0) r) := by
    unfold fM_tune_b104 fM_tune_b109
    rw [xi1]
    rfl
  unfold fM_tune_l46
  rw [xk0, xl0, w0, nI_mask n hn, if_neg (nI_ge hg (by omega)), if_pos h2, ones_N g (by omega), bnd, hC, bnd, nI_add, if_neg (show ¬ (4 : Int32) < nI (pcN g + C) from nI_nlt (b := pcN g + C) (a := 4) h3 (by decide)), b104]
  rcases ht with rfl | ⟨T, hT, rfl⟩
  · rw [if_pos rfl]
  · rcases h1 with h1 | h1
    · exact absurd h1.symm (nI_m1 (by omega))
    · rw [nI_clamp (by omega)] at h1
      rw [if_neg (fun z => nI_m1 (i := T) (by omega) z.symm), ones_N T hT, bnd, bnd, if_neg h1]
theorem pcN_6 : ∀ M, M < 64 → pcN M ≤ 6 := by decide +kernel
theorem M_tn_no {f F g n i s x C : Nat} {t : Int32} {ν : xM} (hn : n ≤ 6) (w0 : ν.1 0 0 = nI n) (hg : g < 2 ^ n) (hC : fM_boardsOf ν 0 (nI i) = some (nI C)) (hC6 : C ≤ 6) (ht : tOK t) (h : ¬ (fewP t g ∧ (nI g &&& (nI F ^^^ (-1 : Int32))) = 0 ∧ pcN g + C ≤ 4)) : fM_tune_l46 (f + 1) (nI i) (nI s) (nI x) t (nI F) (nI g) ν = fM_tune_l46 f (nI i) (nI s) (nI x) t (nI F) (nI (g + 1)) ν := by
  have h64 := pow64 hn
  have b108 : fM_tune_b108 (fM_tune_l46 f) (nI i) (nI s) (nI x) t (nI F) (nI g) ν = fM_tune_l46 f (nI i) (nI s) (nI x) t (nI F) (nI (g + 1)) ν := by
    unfold fM_tune_b108 fM_tune_b109 fM_tune_b197
    rw [xi0, nI_1]
  conv => lhs; unfold fM_tune_l46
  rw [xk0, xl0, w0, nI_mask n hn, if_neg (nI_ge hg (by omega)), b108]
  by_cases c2 : (nI g &&& (nI F ^^^ (-1 : Int32))) = 0
  · have p6 := pcN_6 g (by omega)
    rw [if_pos c2, ones_N g (by omega), bnd, hC, bnd, nI_add]
    by_cases c3 : pcN g + C ≤ 4
    · rw [if_neg (show ¬ (4 : Int32) < nI (pcN g + C) from nI_nlt (b := pcN g + C) (a := 4) c3 (by decide))]
      rcases ht with rfl | ⟨T, hT, rfl⟩
      · exact absurd ⟨Or.inl rfl, c2, c3⟩ h
      · rw [if_neg (fun z => nI_m1 (i := T) (by omega) z.symm), ones_N T hT, bnd, bnd]
        by_cases c : nI (pcN T) ≤ nI (pcN g)
        · rw [if_pos c]
        · exact absurd ⟨Or.inr (by rw [nI_clamp (by omega)]; exact c), c2, c3⟩ h
    · rw [if_pos (show (4 : Int32) < nI (pcN g + C) from nI_lt (a := 4) (by omega) (by omega))]
  · rw [if_neg c2]
theorem M_tn_end {F n i s x C : Nat} {t : Int32} {ν : xM} (hn : n ≤ 6) (hF : F < 64) (w0 : ν.1 0 0 = nI n) (hC : fM_boardsOf ν 0 (nI i) = some (nI C)) (hC6 : C ≤ 6) (ht : tOK t) : ∀ (f g : Nat), g ≤ 2 ^ n → 2 ^ n < g + f → F < g → fM_tune_l46 f (nI i) (nI s) (nI x) t (nI F) (nI g) ν = some (t, ν)
  | 0, g, h1, h2, h3 => absurd h2 (by omega)
  | f + 1, g, h1, h2, h3 => by
    have h64 := pow64 hn
    by_cases hg : g = 2 ^ n
    · subst hg
      unfold fM_tune_l46
      rw [xk0, xl0, w0, nI_mask n hn, if_pos (nI_le (Nat.le_refl _) (by omega))]
    · rw [M_tn_no hn w0 (by omega) hC hC6 ht (fun z => absurd ((part_64 g (by omega) F hF).2 z.2.1) (by omega))]
      exact M_tn_end hn hF w0 hC hC6 ht f (g + 1) (by omega) (by omega) (by omega)
theorem tune_l {n k y hh a q u i s x F : Nat} {μ : xM} (hi : i < k) (hs : s < 4) (hF : F = maskN n (fun b => μ.1 0 (b * 6 + 5) == -1)) (hx : x ≤ 200) : ∀ (f g fM : Nat) (t : Int32) (ν : xM), g ≤ F + 1 → F + 1 < g + f → 2 ^ n < g + fM → tOK t → rT n k y hh a q u μ.1 (μ.1 36) (μ.1 37 0) (ν.1 0) → ∃ r ν', fH_tune_l53 f (nI i) (nI s) (nI x) (nI F) t (nI g) μ = some (r, μ) ∧ fM_tune_l46 fM (nI i) (nI s) (nI x) t (nI F) (nI g) ν = some (r, ν') ∧ scM ν ν'
  | 0, g, fM, t, ν, h1, h2, h3, ht, H => absurd h2 (by omega)
  | f + 1, g, fM, t, ν, h1, h2, h3, ht, H => by
    obtain ⟨B, U, W, hC, hW, hI, hH, hN, hM, hP⟩ := id H
    obtain ⟨b1, b2, b3, b4, b5, b6, b7⟩ := id B
    obtain ⟨u0, u1, u2, u3, u4, u5, u6, uy⟩ := U
    obtain ⟨w0, w1, w2, w3, w4, w5, w6⟩ := W
    have h64 := pow64 b1
    have hFn : F < 2 ^ n := by rw [hF]; exact maskN_lt _ _
    have hE := bE_0 b1 b2 u0 w0 hC
    have cC := (cnt_both hE (v := nI i)).2
    have cC' : fM_boardsOf ν 0 (nI i) = some (nI (cntB n (fun b => μ.1 0 (b * 6 + 5) == nI i))) := cC
    have C6 : cntB n (fun b => μ.1 0 (b * 6 + 5) == nI i) ≤ 6 := by
      have := cntB_le (n := n) (f := fun b => μ.1 0 (b * 6 + 5) == nI i)
      omega
    by_cases hg : g = F + 1
    · subst hg
      refine ⟨t, ν, ?_, M_tn_end b1 (by omega) w0 cC' C6 ht fM (F + 1) (by omega) (by omega) (by omega), scM_refl⟩
      unfold fH_tune_l53
      rw [if_pos (nI_lt (by omega) (by omega))]
    · obtain ⟨fM, rfl⟩ : ∃ g, fM = g + 1 := ⟨fM - 1, by omega⟩
      by_cases c : fewP t g ∧ (nI g &&& (nI F ^^^ (-1 : Int32))) = 0
      · have sub : ∀ b, b < n → hoB (nI g) b = true → μ.1 0 (b * 6 + 5) = -1 := fun b hb z => by
          have z2 := ((part_64 g (by omega) F (by omega)).1.mp c.2) b (by omega) z
          rw [hF, hoB_mask b1 b hb] at z2
          exact eq_of_beq z2
        have cnt : cntB n (mbB μ 0 (nI i) (nI g)) = cntB n (fun b => μ.1 0 (b * 6 + 5) == nI i) + pcN g := by
          rw [← pc_ho n (by omega) g (by omega)]
          refine cnt_or (fun b hb z1 z2 => ?_)
          have e1 : μ.1 0 (b * 6 + 5) = nI i := eq_of_beq z1
          exact nI_m1 (i := i) (by omega) ((sub b hb z2).symm.trans e1)
        rw [H_tn_yes (by omega) (by omega) ht c.1 c.2]
        by_cases room : pcN g + cntB n (fun b => μ.1 0 (b * 6 + 5) == nI i) ≤ 4
        · rw [M_tn_yes b1 w0 (by omega) cC' C6 ht c.1 c.2 room]
          obtain ⟨m1, ν1, p1, p2, p3, p4, p5, p6, p7, p8⟩ := try_both H
          obtain ⟨hE', y1, y2, hW', hI', k1, k2⟩ := p3
          obtain ⟨ν2, q1, q2, q3, q4⟩ := M_tn123 (g := g) (v1 := nI i) (v2 := nI s) (v3 := nI x) (v4 := t) (v5 := nI F) b1 (fM_tune_l46 fM) xfu 0 ν1 (by omega) (by show n < 0 + 100000; omega) (by rw [p7 0 (by decide)]; exact w0)
          have G2 : scM ν1 ν2 := ⟨fun j i z => by unfold sM at z; exact q3 j i (by omega), by rw [q4], by rw [q4]⟩
          have t0 : ∀ b c, b < n → c < 5 → ν2.1 0 (1712 + 6 * c + b) = μ.1 0 (b * 6 + c) := fun b c hb hc => by
            rw [q3 0 _ (by omega), show 1712 + 6 * c + b = 1704 + (8 + 6 * c + b) by omega, p8 _ (by omega)]
            exact (hC.1 b c hb (by omega)).symm
          have t5 : ∀ b, b < n → ν2.1 0 (1712 + 6 * 5 + b) = if hoB (nI g) b = true then nI i else μ.1 0 (b * 6 + 5) := fun b hb => by
            rw [show 1712 + 6 * 5 + b = 1742 + b by omega, q2 b (by omega) hb, p7 _ (by omega), show 38 + b = 8 + 6 * 5 + b by omega, hC.1 b 5 hb (by decide)]
          have vt : vB n k (fun b c => ν2.1 0 (1712 + 6 * c + b)) := by
            refine ⟨fun b hb => ?_, fun i' hi' => ?_⟩
            · obtain ⟨v0, v1, v2, v3, v4, v5⟩ := hC.2.1 b hb
              refine ⟨v0.imp (fun x hx => ⟨hx.1, (t0 b 0 hb (by decide)).trans hx.2⟩), v1.imp (fun x hx => ⟨hx.1, (t0 b 1 hb (by decide)).trans hx.2⟩), v2.imp (fun x hx => ⟨hx.1, (t0 b 2 hb (by decide)).trans hx.2⟩), v3.imp (fun x hx => ⟨hx.1, (t0 b 3 hb (by decide)).trans hx.2⟩), v4.imp (fun z => (t0 b 4 hb (by decide)).trans z) (fun z => (t0 b 4 hb (by decide)).trans z), ?_⟩
              have e5 := t5 b hb
              by_cases z : hoB (nI g) b = true
              · rw [if_pos z] at e5
                exact Or.inr ⟨i, hi, e5⟩
              · rw [if_neg z] at e5
                exact v5.imp (fun z => e5.trans z) (fun ⟨i, i1, i2⟩ => ⟨i, i1, e5.trans i2⟩)
            · show cntB n (fun b => ν2.1 0 (1712 + 6 * 5 + b) == nI i') ≤ 4
              by_cases ei : i' = i
              · subst ei
                rw [cntB_congr (g := mbB μ 0 (nI i') (nI g)) (fun b hb => by
                  show (ν2.1 0 (1712 + 6 * 5 + b) == nI i') = ((μ.1 0 (b * 6 + 5) == nI i') || hoB (nI g) b)
                  rw [t5 b hb]
                  by_cases z : hoB (nI g) b = true
                  · rw [if_pos z, z, Bool.or_true, beq_self_eq_true]
                  · rw [if_neg z, Bool.eq_false_iff.mpr z, Bool.or_false]), cnt]
                omega
              · refine Nat.le_trans (cnt_mono (fun b hb z => ?_)) (hC.2.2 i' hi')
                have z1 : ν2.1 0 (1712 + 6 * 5 + b) = nI i' := eq_of_beq z
                rw [t5 b hb] at z1
                by_cases w : hoB (nI g) b = true
                · rw [if_pos w] at z1
                  exact absurd ((nI_eq (by omega) (by omega)).mp z1).symm ei
                · rw [if_neg w] at z1
                  exact beq_iff_eq.mpr z1
          obtain ⟨p, hp, e1, e2⟩ := mir_play (β := 0) (M := nI g) (m := μ) (ν := ν2) (by decide) b1 b2 hi hs u0 (by rw [q3 0 _ (by omega)]; exact hE'.2.2.2.2.2.1) (fun i hi => by rw [q3 0 _ (by omega), show 1748 + i = 1704 + (44 + i) by omega, p8 _ (by omega)]; exact hI i hi) vt (fun b hb => by
            show (μ.1 0 (b * 6 + 5) = nI i ∨ _) ↔ _
            rw [show 1742 + b = 1712 + 6 * 5 + b by omega, t5 b hb]
            by_cases z : hoB (nI g) b = true
            · rw [if_pos z]
              exact ⟨fun _ => rfl, fun _ => Or.inr z⟩
            · rw [if_neg z]
              exact ⟨fun y => y.elim id (fun y => absurd y z), Or.inl⟩) (fun b hb z c hc => (t0 b c hb hc).symm)
          rw [e1, p2, bnd, bnd, q1, e2, bnd]
          have G := scM_trans p5 G2
          by_cases z : nI p = nI x
          · rw [if_pos z, if_pos z]
            obtain ⟨r, ν3, r1, r2, r3⟩ := tune_l hi hs hF hx f (g + 1) fM (nI g) ν2 (by omega) (by omega) (by omega) (Or.inr ⟨g, by omega, rfl⟩) (rT_sc scH_refl G H)
            exact ⟨r, ν3, r1, r2, scM_trans G r3⟩
          · rw [if_neg z, if_neg z]
            obtain ⟨r, ν3, r1, r2, r3⟩ := tune_l hi hs hF hx f (g + 1) fM t ν2 (by omega) (by omega) (by omega) ht (rT_sc scH_refl G H)
            exact ⟨r, ν3, r1, r2, scM_trans G r3⟩
        · have po := H_po (t := 0) (v := nI i) (M := nI g) hE hs xfu 0 (by omega) (by show n < 0 + 100000; omega)
          rw [if_neg (by rw [cnt]; omega)] at po
          have po' : fW_playOn 0 0 μ (nI i) (nI s) (nI g) = some (-1) := po
          rw [M_tn_no b1 w0 (by omega) cC' C6 ht (fun z => room z.2.2), po', bnd, if_neg (nI_m1 (by omega))]
          exact tune_l hi hs hF hx f (g + 1) fM t ν (by omega) (by omega) (by omega) ht H
      · rw [H_tn_no (by omega) (by omega) ht c, M_tn_no b1 w0 (by omega) cC' C6 ht (fun z => c ⟨z.1, z.2.1⟩)]
        exact tune_l hi hs hF hx f (g + 1) fM t ν (by omega) (by omega) (by omega) ht H
theorem st_tune {μ ν : xM} (h : xRel μ ν) (v1 : Int32) (v2 : Int32) (v3 : Int32) : ∃ (r : Int32) (μ2 ν2 : xM), (fH_tune v1 v2 v3 μ = some (r, μ2)) ∧ (fM_tune v1 v2 v3 ν = some (r, ν2)) ∧ xRel μ2 ν2 := by
  unfold fH_tune fM_tune
  obtain ⟨n, k, y, hh, a, q, u, H⟩ := rel_op h
  obtain ⟨B, U, W, hC, -⟩ := id H
  rcases xin (Nat.le_trans B.2.1 (by decide)) U.2.2.2.1 W.2.1 v1 with ⟨i, hi, rfl, e1, e2⟩ | ⟨e1, e2⟩
  · rw [e1, e2, bnd, bnd, xi1, xi1, xsgb, xsmb]
    by_cases c1 : 0 ≤ v2 ∧ v2 ≤ 3
    · rw [if_pos c1, if_pos c1, xwb, xib2 (y := 0) (z := 200) (a := 0) (b := 200) rfl rfl]
      obtain ⟨s, hs, rfl⟩ := nI_of2 (M := 3) (n := 3) rfl (Int32.not_lt.mpr c1.1) c1.2
      by_cases c2 : 0 ≤ v3 ∧ v3 ≤ 200
      · rw [if_pos c2, if_pos c2]
        obtain ⟨x, hx, rfl⟩ := nI_of2 (M := 200) (n := 200) rfl (Int32.not_lt.mpr c2.1) c2.2
        have hE := bE_0 B.1 B.2.1 U.1 W.1 hC
        have hm := H_mask (β := 0) (m := μ) (v := -1) (by decide) B.1 U.1
        have h64 := pow64 B.1
        have hF : maskN n (fun b => μ.1 0 (b * 6 + 5) == -1) < 2 ^ n := maskN_lt _ _
        obtain ⟨r, ν2, q1, q2, q3⟩ := tune_l (μ := μ) hi (s := s) (by omega) rfl hx xfu 0 xfu (-1) ν (by omega) (by show maskN n (fun b => μ.1 0 (b * 6 + 5) == -1) + 1 < 0 + 100000; omega) (by show 2 ^ n < 0 + 100000; omega) (Or.inl rfl) H
        refine ⟨r, μ, ν2, ?_, ?_, rel_sc h scH_refl q3⟩
        · rw [hm]
          exact q1
        · rw [free_both hE]
          exact q2
      · rw [if_neg c2, if_neg c2]
        exact ⟨-2, _, _, rfl, rfl, rel_bad h⟩
    · rw [if_neg c1, if_neg c1]
      exact ⟨-2, _, _, rfl, rfl, rel_bad h⟩
  · rw [e1, e2, bnd, bnd, xi0, xi0]
    exact ⟨-2, _, _, rfl, rfl, rel_bad h⟩
