/-! STEPS: best; what is played with each mask -/
def zI (q : Nat) : Int32 := nI q - 1
theorem zI_t {q : Nat} (h : q < 2 ^ 30) : (zI q).toInt = (q : Int) - 1 := by
  unfold zI
  rw [Int32.toInt_sub, nI_toInt (by omega), show (1 : Int32).toInt = 1 from rfl]
  exact Int.bmod_eq_of_le (by omega) (by omega)
theorem zI_lt {a b : Nat} (ha : a < 2 ^ 30) (hb : b < 2 ^ 30) : zI a < zI b ↔ a < b := by
  rw [Int32.lt_iff_toInt_lt, zI_t ha, zI_t hb]
  omega
theorem zI_le {a b : Nat} (ha : a < 2 ^ 30) (hb : b < 2 ^ 30) : zI a ≤ zI b ↔ a ≤ b := by
  rw [Int32.le_iff_toInt_le, zI_t ha, zI_t hb]
  omega
theorem zI_eq {a b : Nat} (ha : a < 2 ^ 30) (hb : b < 2 ^ 30) : zI a = zI b ↔ a = b := by
  rw [← Int32.toInt_inj, zI_t ha, zI_t hb]
  omega
theorem zI_s (p : Nat) : zI (p + 1) = nI p := by
  unfold zI
  rw [← nI_1, Int32.add_sub_cancel]
theorem zI_p (q : Nat) : zI q + 1 = nI q := by
  unfold zI
  exact Int32.sub_add_cancel _ _
theorem zI_max {a b : Nat} (ha : a < 2 ^ 30) (hb : b < 2 ^ 30) : xmax (zI a) (zI b) = zI (max a b) := by
  unfold xmax
  by_cases c : a < b
  · rw [if_pos ((zI_lt ha hb).mpr c), Nat.max_eq_right (by omega)]
  · rw [if_neg (fun z => c ((zI_lt ha hb).mp z)), Nat.max_eq_left (by omega)]
theorem zI_min {a b : Nat} (ha : a < 2 ^ 30) (hb : b < 2 ^ 30) : xmin (zI a) (zI b) = zI (min a b) := by
  unfold xmin
  by_cases c : b < a
  · rw [if_pos ((zI_lt hb ha).mpr c), Nat.min_eq_right (by omega)]
  · rw [if_neg (fun z => c ((zI_lt hb ha).mp z)), Nat.min_eq_left (by omega)]
/-- a mask is part of another -/
def sb (a b : Nat) : Prop := (nI a &&& (nI b ^^^ (-1 : Int32))) = 0
theorem sb_ho {a b : Nat} (ha : a < 64) (hb : b < 64) : sb a b ↔ ∀ j, j < 6 → hoB (nI a) j = true → hoB (nI b) j = true := (part_64 a ha b hb).1
theorem sb_le {a b : Nat} (ha : a < 64) (hb : b < 64) (h : sb a b) : a ≤ b := (part_64 a ha b hb).2 h
theorem sbH {a b : Nat} {ρ : Type} {A B : Option ρ} : ((fH_isPartOf (nI a) (nI b)).bind fun r => if r = 0 then A else B) = if (nI a &&& (nI b ^^^ (-1 : Int32))) = 0 then B else A := by
  unfold fH_isPartOf
  rw [xnb_1, xnb_0]
  by_cases c : (nI a &&& (nI b ^^^ (-1 : Int32))) = 0
  · rw [if_pos c, if_pos c, bnd, xi1]
  · rw [if_neg c, if_neg c, bnd, xi0]
theorem po_mask {n k y hh a q u i s g : Nat} {μ ν : xM} (hi : i < k) (hs : s < 4) (hg : g < 2 ^ n) (sbg : sb g (maskN n (fun b => μ.1 0 (b * 6 + 5) == -1))) (H : rT n k y hh a q u μ.1 (μ.1 36) (μ.1 37 0) (ν.1 0)) : ∃ z, z ≤ 1001 ∧ fW_playOn 0 0 μ (nI i) (nI s) (nI g) = some (zI z) ∧ (pcN g + cntB n (fun b => μ.1 0 (b * 6 + 5) == nI i) ≤ 4 ↔ 0 < z) := by
  obtain ⟨B, U, W, hC, hW, hI, hH, hN, hM, hP⟩ := id H
  obtain ⟨b1, b2, b3, b4, b5, b6, b7⟩ := id B
  obtain ⟨u0, u1, u2, u3, u4, u5, u6, uy⟩ := U
  obtain ⟨w0, w1, w2, w3, w4, w5, w6⟩ := W
  have h64 := pow64 b1
  have hE := bE_0 b1 b2 u0 w0 hC
  have sub : ∀ b, b < n → hoB (nI g) b = true → μ.1 0 (b * 6 + 5) = -1 := fun b hb z => by
    have z2 := (sb_ho (by omega) (mask_64 b1)).mp sbg b (by omega) z
    rw [hoB_mask b1 b hb] at z2
    exact eq_of_beq z2
  have cnt : cntB n (mbB μ 0 (nI i) (nI g)) = cntB n (fun b => μ.1 0 (b * 6 + 5) == nI i) + pcN g := by
    rw [← pc_ho n (by omega) g (by omega)]
    refine cnt_or (fun b hb z1 z2 => ?_)
    have e1 : μ.1 0 (b * 6 + 5) = nI i := eq_of_beq z1
    exact nI_m1 (i := i) (by omega) ((sub b hb z2).symm.trans e1)
  by_cases room : pcN g + cntB n (fun b => μ.1 0 (b * 6 + 5) == nI i) ≤ 4
  · obtain ⟨m1, ν1, p1, p2, p3, p4, p5, p6, p7, p8⟩ := try_both H
    obtain ⟨hE', y1, y2, hW', hI', k1, k2⟩ := p3
    obtain ⟨ν2, q1, q2, q3, q4⟩ := M_tn123 (g := g) (v1 := nI i) (v2 := nI s) (v3 := 0) (v4 := 0) (v5 := 0) b1 (fun _ _ _ _ _ _ _ => none) xfu 0 ν1 (by omega) (by show n < 0 + 100000; omega) (by rw [p7 0 (by decide)]; exact w0)
    have t0 : ∀ b c, b < n → c < 5 → ν2.1 0 (1712 + 6 * c + b) = μ.1 0 (b * 6 + c) := fun b c hb hc => by
      rw [q3 0 _ (by omega), show 1712 + 6 * c + b = 1704 + (8 + 6 * c + b) by omega, p8 _ (by omega)]
      exact (hC.1 b c hb (by omega)).symm
    have t5 : ∀ b, b < n → ν2.1 0 (1712 + 6 * 5 + b) = if hoB (nI g) b = true then nI i else μ.1 0 (b * 6 + 5) := fun b hb => by
      rw [show 1712 + 6 * 5 + b = 1742 + b by omega, q2 b (by omega) hb, p7 _ (by omega), show 38 + b = 8 + 6 * 5 + b by omega, hC.1 b 5 hb (by decide)]
    have vt : vB n k (fun b c => ν2.1 0 (1712 + 6 * c + b)) := by
      refine ⟨fun b hb => ?_, fun i' hi' => ?_⟩
      · obtain ⟨v0, v1, v2, v3, v4, v5⟩ := hC.2.1 b hb
        refine ⟨v0.imp (fun x hx => ⟨hx.1, (t0 b 0 hb (by decide)).trans hx.2⟩), v1.imp (fun x hx => ⟨hx.1, (t0 b 1 hb (by decide)).trans hx.2⟩), v2.imp (fun x hx => ⟨hx.1, (t0 b 2 hb (by decide)).trans hx.2⟩), v3.imp (fun x hx => ⟨hx.1, (t0 b 3 hb (by decide)).trans hx.2⟩), v4.imp (fun z => (t0 b 4 hb (by decide)).trans z) (fun z => (t0 b 4 hb (by decide)).trans z), ?_⟩
        have e5 := t5 b hb
        by_cases z : hoB (nI g) b = true
        · rw [if_pos z] at e5
          exact Or.inr ⟨i, hi, e5⟩
        · rw [if_neg z] at e5
          exact v5.imp (fun z => e5.trans z) (fun ⟨i, i1, i2⟩ => ⟨i, i1, e5.trans i2⟩)
      · show cntB n (fun b => ν2.1 0 (1712 + 6 * 5 + b) == nI i') ≤ 4
        by_cases ei : i' = i
        · subst ei
          rw [cntB_congr (g := mbB μ 0 (nI i') (nI g)) (fun b hb => by
            show (ν2.1 0 (1712 + 6 * 5 + b) == nI i') = ((μ.1 0 (b * 6 + 5) == nI i') || hoB (nI g) b)
            rw [t5 b hb]
            by_cases z : hoB (nI g) b = true
            · rw [if_pos z, z, Bool.or_true, beq_self_eq_true]
            · rw [if_neg z, Bool.eq_false_iff.mpr z, Bool.or_false]), cnt]
          omega
        · refine Nat.le_trans (cnt_mono (fun b hb z => ?_)) (hC.2.2 i' hi')
          have z1 : ν2.1 0 (1712 + 6 * 5 + b) = nI i' := eq_of_beq z
          rw [t5 b hb] at z1
          by_cases w : hoB (nI g) b = true
          · rw [if_pos w] at z1
            exact absurd ((nI_eq (by omega) (by omega)).mp z1).symm ei
          · rw [if_neg w] at z1
            exact beq_iff_eq.mpr z1
    obtain ⟨p, hp, e1, e2⟩ := mir_play (β := 0) (M := nI g) (m := μ) (ν := ν2) (by decide) b1 b2 hi hs u0 (by rw [q3 0 _ (by omega)]; exact hE'.2.2.2.2.2.1) (fun i hi => by rw [q3 0 _ (by omega), show 1748 + i = 1704 + (44 + i) by omega, p8 _ (by omega)]; exact hI i hi) vt (fun b hb => by
      show (μ.1 0 (b * 6 + 5) = nI i ∨ _) ↔ _
      rw [show 1742 + b = 1712 + 6 * 5 + b by omega, t5 b hb]
      by_cases z : hoB (nI g) b = true
      · rw [if_pos z]
        exact ⟨fun _ => rfl, fun _ => Or.inr z⟩
      · rw [if_neg z]
        exact ⟨fun y => y.elim id (fun y => absurd y z), Or.inl⟩) (fun b hb z c hc => (t0 b c hb hc).symm)
    exact ⟨p + 1, by omega, by rw [e1, zI_s], ⟨fun _ => by omega, fun _ => room⟩⟩
  · have po := H_po (t := 0) (v := nI i) (M := nI g) hE hs xfu 0 (by omega) (by show n < 0 + 100000; omega)
    rw [if_neg (by rw [cnt]; omega)] at po
    exact ⟨0, by decide, po, ⟨fun z => absurd z room, fun z => absurd z (by decide)⟩⟩
def QN (μ : xM) (s i g : Nat) : Nat := match fW_playOn 0 0 μ (nI i) (nI s) (nI g) with
  | some v => (v + 1).toNatClampNeg
  | none => 0
theorem QN_eq {n k y hh a q u i s g : Nat} {μ ν : xM} (hi : i < k) (hs : s < 4) (hg : g < 2 ^ n) (sbg : sb g (maskN n (fun b => μ.1 0 (b * 6 + 5) == -1))) (H : rT n k y hh a q u μ.1 (μ.1 36) (μ.1 37 0) (ν.1 0)) : QN μ s i g ≤ 1001 ∧ fW_playOn 0 0 μ (nI i) (nI s) (nI g) = some (zI (QN μ s i g)) ∧ (pcN g + cntB n (fun b => μ.1 0 (b * 6 + 5) == nI i) ≤ 4 ↔ 0 < QN μ s i g) := by
  obtain ⟨z, z1, z2, z3⟩ := po_mask hi hs hg sbg H
  have e : QN μ s i g = z := by
    unfold QN
    rw [z2]
    show (zI z + 1).toNatClampNeg = z
    rw [zI_p, nI_clamp (by omega)]
  rw [e]
  exact ⟨z1, z2, z3⟩
theorem po_same {n : Nat} {μ m : xM} {v s M : Int32} (hn : n ≤ 6) (u0 : μ.1 36 0 = nI n) (F : scH μ m) : fW_playOn 0 0 m v s M = fW_playOn 0 0 μ v s M := by
  have c0 : ∀ x, m.1 0 x = μ.1 0 x := fun x => F.1 0 x (by unfold sH; omega)
  refine po_congr (β1 := 0) (β2 := 0) (n := n) (by decide) (by decide) hn ((F.1 36 0 (by unfold sH; omega)).trans u0) u0 ?_ (fun b hb => ?_) (fun b hb z c hc => ?_) xfu 0 0 0 0 (by omega) (by show n < 0 + 100000; omega)
  · unfold fT_get
    rw [F.1 3 _ (by unfold sH; omega)]
  · show (m.1 0 (b * 6 + 5) = v ∨ _) ↔ (μ.1 0 (b * 6 + 5) = v ∨ _)
    rw [c0]
  · exact c0 _
theorem K_l46 {n k y hh a q u i s F : Nat} {μ ν : xM} (hi : i < k) (hs : s < 4) (H : rT n k y hh a q u μ.1 (μ.1 36) (μ.1 37 0) (ν.1 0)) (hF : F = maskN n (fun b => μ.1 0 (b * 6 + 5) == -1)) (k25 : Int32 → Int32 → xM → Option xM) : ∀ (f g : Nat) (m : xM), g ≤ F + 1 → F + 1 < g + f → m.1 39 1 = nI F → scH μ m → ∃ m', fK_listen_l46 0 k25 f (nI s) (nI i) (nI g) m = k25 (nI s) (nI (i + 1)) m' ∧ (∀ x, g ≤ x → x ≤ F → sb x F → m'.1 31 (i * 64 + x) = zI (QN μ s i x)) ∧ (∀ j x, (j ≠ 31 ∨ ¬ (i * 64 + g ≤ x ∧ x < i * 64 + 64)) → m'.1 j x = m.1 j x) ∧ m'.2 = m.2
  | 0, g, m, h1, h2, h3, h4 => absurd h2 (by omega)
  | f + 1, g, m, h1, h2, h3, h4 => by
    have b1 := H.1.1
    have b2 := H.1.2.1
    have u0 := H.2.1.1
    have h64 := pow64 b1
    have hFn : F < 2 ^ n := by rw [hF]; exact maskN_lt _ _
    unfold fK_listen_l46
    rw [h3]
    by_cases hg : g = F + 1
    · subst hg
      rw [if_pos (nI_lt (by omega) (by omega)), nI_1]
      exact ⟨m, rfl, fun x q1 q2 => absurd q1 (by omega), fun _ _ _ => rfl, rfl⟩
    · rw [if_neg (nI_nlt (by omega) (by omega)), sbH]
      unfold fK_listen_b89
      rw [nI_1]
      by_cases c : (nI g &&& (nI F ^^^ (-1 : Int32))) = 0
      · obtain ⟨z1, z2, z3⟩ := QN_eq (g := g) hi hs (by omega) (by rw [← hF]; exact c) H
        rw [if_pos c, po_same b1 u0 h4, z2, bnd, T_put (t := 31) (r := i) (c := g) (by decide) rfl rfl (by show g < 64; omega) (by show i < 4; omega), bnd, show i * wN 31 + g = i * 64 + g from rfl]
        obtain ⟨m', g1, g2, g3, g4⟩ := K_l46 hi hs H hF k25 f (g + 1) (xset m 31 (i * 64 + g) (zI (QN μ s i g))) (by omega) (by omega) (by simp (disch := omega) only [xset_ne, xset_nj, xset_eq, Nat.add_zero]; exact h3) (scH_trans h4 (scH_set (by unfold sH; omega) scH_refl))
        refine ⟨m', g1, fun x q1 q2 q3 => ?_, fun j x q1 => ?_, g4⟩
        · by_cases e : x = g
          · subst e
            rw [g3 31 _ (by omega), xset_eq]
          · exact g2 x (by omega) q2 q3
        · rw [g3 j x (by omega)]
          by_cases q0 : j = 31
          · subst q0
            simp (disch := omega) only [xset_ne, xset_nj, xset_eq, Nat.add_zero]
          · simp (disch := omega) only [xset_ne, xset_nj, xset_eq, Nat.add_zero]
      · rw [if_neg c]
        obtain ⟨m', g1, g2, g3, g4⟩ := K_l46 hi hs H hF k25 f (g + 1) m (by omega) (by omega) h3 h4
        refine ⟨m', g1, fun x q1 q2 q3 => ?_, fun j x q1 => g3 j x (by omega), g4⟩
        by_cases e : x = g
        · subst e
          exact absurd q3 c
        · exact g2 x (by omega) q2 q3
theorem K_l25 {n k y hh a q u s F : Nat} {μ ν : xM} (hs : s < 4) (H : rT n k y hh a q u μ.1 (μ.1 36) (μ.1 37 0) (ν.1 0)) (hF : F = maskN n (fun b => μ.1 0 (b * 6 + 5) == -1)) : ∀ (f i : Nat) (m : xM), i ≤ k → k < i + f → m.1 39 0 = nI k → m.1 39 1 = nI F → scH μ m → ∃ m', fK_listen_l25 0 f (nI s) (nI i) m = some m' ∧ (∀ i', i ≤ i' → i' < k → m'.1 33 i' = 0 ∧ ∀ x, x ≤ F → sb x F → m'.1 31 (i' * 64 + x) = zI (QN μ s i' x)) ∧ (∀ j x, j ≠ 31 → j ≠ 33 → m'.1 j x = m.1 j x) ∧ (∀ x, x < i → m'.1 33 x = m.1 33 x) ∧ (∀ x, x < i * 64 → m'.1 31 x = m.1 31 x) ∧ m'.2 = m.2
  | 0, i, m, h1, h2, h3, h4, h5 => absurd h2 (by omega)
  | f + 1, i, m, h1, h2, h3, h4, h5 => by
    have b1 := H.1.1
    have b2 := H.1.2.1
    have h64 := pow64 b1
    have hFn : F < 2 ^ n := by rw [hF]; exact maskN_lt _ _
    unfold fK_listen_l25
    rw [h3]
    by_cases hi : i = k
    · subst hi
      rw [if_pos (nI_le (Nat.le_refl _) (by omega))]
      exact ⟨m, rfl, fun i' q1 q2 => absurd q2 (by omega), fun _ _ _ _ => rfl, fun _ _ => rfl, fun _ _ => rfl, rfl⟩
    · rw [if_neg (nI_ge (by omega) (by omega)), T_put (t := 33) (r := i) (c := 0) (v2 := 0) (by decide) rfl rfl (by decide) (by show i < 4; omega), bnd, show i * wN 33 + 0 = i by show i * 1 + 0 = i; omega]
      have F1 : scH μ (xset m 33 i 0) := scH_trans h5 (scH_set (by unfold sH; omega) scH_refl)
      obtain ⟨m1, g1, g2, g3, g4⟩ := K_l46 (i := i) (by omega) hs H hF (fK_listen_l25 0 f) xfu 0 (xset m 33 i 0) (by omega) (by show F + 1 < 0 + 100000; omega) (by simp (disch := omega) only [xset_ne, xset_nj, xset_eq, Nat.add_zero]; exact h4) F1
      have g1' : fK_listen_l46 0 (fK_listen_l25 0 f) xfu (nI s) (nI i) 0 (xset m 33 i 0) = _ := g1
      have F2 : scH μ m1 := scH_trans F1 ⟨fun j x z => by unfold sH at z; exact g3 j x (by omega), by rw [g4], by rw [g4]⟩
      rw [g1']
      obtain ⟨m2, r1, r2, r3, r4, r5, r6⟩ := K_l25 hs H hF f (i + 1) m1 (by omega) (by omega) (by rw [g3 39 0 (by omega)]; simp (disch := omega) only [xset_ne, xset_nj, xset_eq, Nat.add_zero]; exact h3) (by rw [g3 39 1 (by omega)]; simp (disch := omega) only [xset_ne, xset_nj, xset_eq, Nat.add_zero]; exact h4) F2
      refine ⟨m2, r1, fun i' q1 q2 => ?_, fun j x q1 q2 => ?_, fun x q1 => ?_, fun x q1 => ?_, by rw [r6, g4]; rfl⟩
      · by_cases e : i' = i
        · subst e
          refine ⟨?_, fun x x1 x2 => ?_⟩
          · rw [r4 i' (by omega), g3 33 i' (by omega), xset_eq]
          · rw [r5 _ (by omega)]
            exact g2 x (by omega) x1 x2
        · exact r2 i' (by omega) q2
      · rw [r3 j x q1 q2, g3 j x (by omega)]
        simp (disch := omega) only [xset_ne, xset_nj, xset_eq, Nat.add_zero]
      · rw [r4 x (by omega), g3 33 x (by omega)]
        simp (disch := omega) only [xset_ne, xset_nj, xset_eq, Nat.add_zero]
      · rw [r5 x (by omega), g3 31 x (by omega)]
        simp (disch := omega) only [xset_ne, xset_nj, xset_eq, Nat.add_zero]
/-- the class listens: all that is played -/
theorem K_listen {n k y hh a q u s F : Nat} {μ ν : xM} (hs : s < 4) (H : rT n k y hh a q u μ.1 (μ.1 36) (μ.1 37 0) (ν.1 0)) (hF : F = maskN n (fun b => μ.1 0 (b * 6 + 5) == -1)) : ∃ m, fK_listen 0 (nI s) μ = some m ∧ scH μ m ∧ m.1 39 0 = nI k ∧ m.1 39 1 = nI F ∧ ∀ i, i < k → m.1 33 i = 0 ∧ ∀ x, x ≤ F → sb x F → m.1 31 (i * 64 + x) = zI (QN μ s i x) := by
  have b1 := H.1.1
  have b2 := H.1.2.1
  have u0 := H.2.1.1
  have u3 := H.2.1.2.2.2.1
  have e1 : fB_maskIn 0 μ (-1) = some (nI F) := by rw [hF]; exact H_mask (β := 0) (by decide) b1 u0
  have F1 : scH μ (xset (xset μ 39 1 (nI F)) 39 0 (nI k)) := scH_set (by unfold sH; omega) (scH_set (by unfold sH; omega) scH_refl)
  obtain ⟨m, g1, g2, g3, g4, g5, g6⟩ := K_l25 hs H hF xfu 0 (xset (xset μ 39 1 (nI F)) 39 0 (nI k)) (by omega) (by show k < 0 + 100000; omega) xset_eq (by simp (disch := omega) only [xset_ne, xset_nj, xset_eq, Nat.add_zero]) F1
  refine ⟨m, ?_, scH_trans F1 ⟨fun j x z => by unfold sH at z; exact g3 j x (by omega) (by omega), by rw [g6], by rw [g6]⟩, ?_, ?_, fun i hi => g2 i (by omega) hi⟩
  · unfold fK_listen
    rw [e1, bnd, T_many, bnd, show 7 * 0 + 3 = 3 from rfl, xset_ne (by decide), u3]
    exact g1
  · rw [g3 39 0 (by decide) (by decide), xset_eq]
  · rw [g3 39 1 (by decide) (by decide)]
    simp (disch := omega) only [xset_ne, xset_nj, xset_eq, Nat.add_zero]
