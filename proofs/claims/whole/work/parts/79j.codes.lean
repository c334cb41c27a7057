/-! STEPS: best; the reference's codes -/
def cfd (F : Nat) : Nat → Nat → Nat
  | 0, _ => 0
  | d + 1, b => cfd F d (b + 1) + (if hoB (nI F) b = true then 1 else 0)
/-- how many free boards from b on -/
def cf (F n b : Nat) : Nat := cfd F (n - b) b
theorem cf_s {F n b : Nat} (hb : b < n) : cf F n b = cf F n (b + 1) + (if hoB (nI F) b = true then 1 else 0) := by
  unfold cf
  rw [show n - b = (n - (b + 1)) + 1 by omega]
  rfl
theorem cf_n {F n : Nat} : cf F n n = 0 := by
  unfold cf
  rw [Nat.sub_self]
  rfl
theorem cf_00 : ∀ n, n < 7 → ∀ F, F < 2 ^ n → cfd F n 0 = pcN F := by decide +kernel
theorem cf_0 {F n : Nat} (hn : n ≤ 6) (hF : F < 2 ^ n) : cf F n 0 = pcN F := cf_00 n (by omega) F hF
theorem cf_mono {F n : Nat} : ∀ d b, b + d ≤ n → cf F n (b + d) ≤ cf F n b
  | 0, b, h => Nat.le_refl _
  | d + 1, b, h => by
    have h1 := cf_mono (F := F) (n := n) d (b + 1) (by omega)
    have h2 := cf_s (F := F) (n := n) (b := b) (by omega)
    rw [show b + 1 + d = b + (d + 1) by omega] at h1
    omega
theorem cf_le {F n b b' : Nat} (h : b ≤ b') (h2 : b' ≤ n) : cf F n b' ≤ cf F n b := by
  have := cf_mono (F := F) (n := n) (b' - b) b (by omega)
  rw [show b + (b' - b) = b' by omega] at this
  exact this
def dig (B F n c b : Nat) : Nat := c / B ^ cf F n (b + 1) % B
/-- what an instrument gets by a code -/
def shC (B F n c i : Nat) : Nat := maskN 6 (fun b => hoB (nI F) b && (dig B F n c b == i + 1))
theorem code_s {B F n c b : Nat} (hb : b < n) (h : hoB (nI F) b = true) : c / B ^ cf F n (b + 1) / B = c / B ^ cf F n b := by
  rw [Nat.div_div_eq_div_mul, cf_s hb, if_pos h, Nat.pow_succ]
theorem code_n {B F n c b : Nat} (hb : b < n) (h : ¬ hoB (nI F) b = true) : c / B ^ cf F n (b + 1) = c / B ^ cf F n b := by
  have e := cf_s (F := F) hb
  rw [if_neg h] at e
  rw [e.trans (Nat.add_zero _)]
theorem M_b108 {n k F c : Nat} {v1 v2 v4 v5 v6 : Int32} (hn : n ≤ 6) (hk : k ≤ 4) (hc : c < 100000) (k83 : Int32 → Int32 → Int32 → Int32 → Int32 → Int32 → xM → Option (Int32 × xM)) : ∀ (f b : Nat) (ν : xM), b ≤ n → b < f → ν.1 0 1 = nI k → ∃ ν', fM_best_l108 k83 f v1 v2 (nI F) v4 v5 v6 (nI (c / (k + 1) ^ cf F n b)) (zI b) ν = ((fM_hasRoom ν').bind fun r => if r = 0 then fM_best_b181 k83 v1 v2 (nI F) v4 v5 v6 (-1) ν' else (fM_poorest ν' v1).bind fun r2 => fM_best_b181 k83 v1 v2 (nI F) v4 v5 v6 r2 ν') ∧ (∀ b', b' < b → ν'.1 0 (1742 + b') = if hoB (nI F) b' = true then zI (dig (k + 1) F n c b') else ν.1 0 (1742 + b')) ∧ (∀ j x, (j ≠ 0 ∨ ¬ (1742 ≤ x ∧ x < 1742 + b)) → ν'.1 j x = ν.1 j x) ∧ ν'.2 = ν.2
  | 0, b, ν, h1, h2, w1 => absurd h2 (by omega)
  | f + 1, b, ν, h1, h2, w1 => by
    unfold fM_best_l108
    by_cases hb : b = 0
    · subst hb
      rw [if_pos (show zI 0 < 0 by decide)]
      exact ⟨ν, rfl, fun b' z => absurd z (Nat.not_lt_zero _), fun _ _ _ => rfl, rfl⟩
    · obtain ⟨d, rfl⟩ : ∃ d, b = d + 1 := ⟨b - 1, by omega⟩
      have eT : nI d + -1 = zI d := by
        unfold zI
        rw [Int32.sub_eq_add_neg]
      have hx : c / (k + 1) ^ cf F n (d + 1) ≤ c := Nat.div_le_self _ _
      rw [zI_s, if_neg (nI_pos (by omega)), M_has_eq]
      unfold fM_best_b159
      rw [eT]
      by_cases h : hoB (nI F) d = true
      · have e1742 : (1742 : Int32) + nI d = nI (1742 + d) := nI_add 1742 d
        have w1' : (xset ν 0 (1742 + d) (nI (c / (k + 1) ^ cf F n (d + 1)) - nI (c / (k + 1) ^ cf F n (d + 1)) / (nI k + 1) * (nI k + 1) - 1)).1 0 1 = nI k := by simp (disch := omega) only [xset_ne, xset_nj, xset_eq, Nat.add_zero]; exact w1
        rw [if_pos h, xk1, xl1, w1, e1742, xck_nI (by omega) (by decide), xk1, nI_clamp (by omega), w1']
        unfold xdv
        rw [nI_1, if_neg (nI_ne0 (by omega) (by omega)), if_neg (nI_ne0 (by omega) (by omega)), nI_mod (by omega) (by omega), nI_div (by omega) (by omega), code_s (by omega) h, show nI (c / (k + 1) ^ cf F n (d + 1) % (k + 1)) - 1 = zI (dig (k + 1) F n c d) from rfl]
        obtain ⟨ν', g1, g2, g3, g4⟩ := M_b108 (F := F) (v1 := v1) (v2 := v2) (v4 := v4) (v5 := v5) (v6 := v6) hn hk hc k83 f d (xset ν 0 (1742 + d) (zI (dig (k + 1) F n c d))) (by omega) (by omega) (by simp (disch := omega) only [xset_ne, xset_nj, xset_eq, Nat.add_zero]; exact w1)
        refine ⟨ν', g1, fun b' q1 => ?_, fun j x q1 => ?_, g4⟩
        · by_cases e : b' = d
          · subst e
            rw [g3 0 _ (by omega), xset_eq, if_pos h]
          · rw [g2 b' (by omega)]
            simp (disch := omega) only [xset_ne, xset_nj, xset_eq, Nat.add_zero]
        · rw [g3 j x (by omega)]
          by_cases q0 : j = 0
          · subst q0
            simp (disch := omega) only [xset_ne, xset_nj, xset_eq, Nat.add_zero]
          · simp (disch := omega) only [xset_ne, xset_nj, xset_eq, Nat.add_zero]
      · rw [if_neg h, code_n (by omega) h]
        obtain ⟨ν', g1, g2, g3, g4⟩ := M_b108 (F := F) (v1 := v1) (v2 := v2) (v4 := v4) (v5 := v5) (v6 := v6) hn hk hc k83 f d ν (by omega) (by omega) w1
        refine ⟨ν', g1, fun b' q1 => ?_, fun j x q1 => g3 j x (by omega), g4⟩
        by_cases e : b' = d
        · subst e
          rw [g3 0 _ (by omega), if_neg h]
        · exact g2 b' (by omega)
theorem M_room {n k : Nat} {ν : xM} (hn : n ≤ 6) (hk : k ≤ 4) (w0 : ν.1 0 1704 = nI n) (w1 : ν.1 0 1 = nI k) : ∀ (f i : Nat) (rm : Bool), i ≤ k → k < i + f → ∃ r : Bool, fM_hasRoom_l4 ν f (if rm = true then 1 else 0) (nI i) = some (if r = true then 1 else 0) ∧ (r = true ↔ rm = true ∧ ∀ i', i ≤ i' → i' < k → cntB n (fun b => ν.1 0 (1742 + b) == nI i') ≤ 4)
  | 0, i, rm, h1, h2 => absurd h2 (by omega)
  | f + 1, i, rm, h1, h2 => by
    unfold fM_hasRoom_l4
    rw [xk1, xl1, w1]
    by_cases hi : i = k
    · subst hi
      rw [if_pos (nI_le (Nat.le_refl _) (by omega)), xnb_ite]
      exact ⟨rm, rfl, ⟨fun z => ⟨z, fun i' z1 z2 => absurd z2 (by omega)⟩, fun z => z.1⟩⟩
    · have hb : fM_boardsOf ν 1704 (nI i) = some (nI (cntB n (fun b => ν.1 0 (1742 + b) == nI i))) := M_boardsOf (R := 1704) (v := nI i) (by decide) hn w0
      have c6 : cntB n (fun b => ν.1 0 (1742 + b) == nI i) ≤ n := cntB_le
      rw [if_neg (nI_ge (by omega) (by omega)), hb, bnd]
      unfold fM_hasRoom_b34 fM_hasRoom_b35
      rw [nI_1]
      obtain ⟨r0, a1, a2⟩ := M_room hn hk w0 w1 f (i + 1) false (by omega) (by omega)
      obtain ⟨r1, b1, b2⟩ := M_room hn hk w0 w1 f (i + 1) true (by omega) (by omega)
      rw [if_neg (by decide)] at a1
      rw [if_pos rfl] at b1
      have r0f : r0 = false := by
        cases r0 with
        | false => rfl
        | true => exact absurd (a2.mp rfl).1 (by decide)
      subst r0f
      cases rm with
      | false =>
        rw [if_pos (show (if false = true then (1 : Int32) else 0) = 0 by decide)]
        exact ⟨false, a1, ⟨fun z => absurd z (by decide), fun z => z.1⟩⟩
      | true =>
        rw [if_neg (show ¬ (if true = true then (1 : Int32) else 0) = 0 by decide)]
        by_cases c : cntB n (fun b => ν.1 0 (1742 + b) == nI i) ≤ 4
        · rw [if_neg (show ¬ (4 : Int32) < nI _ from nI_nlt (a := 4) c (by decide))]
          refine ⟨r1, b1, b2.trans ⟨fun z => ⟨rfl, fun i' z1 z2 => ?_⟩, fun z => ⟨rfl, fun i' z1 z2 => z.2 i' (by omega) z2⟩⟩⟩
          by_cases e : i' = i
          · subst e; exact c
          · exact z.2 i' (by omega) z2
        · rw [if_pos (show (4 : Int32) < nI _ from nI_lt (a := 4) (by omega) (by omega))]
          exact ⟨false, a1, ⟨fun z => absurd z (by decide), fun z => absurd (z.2 i (Nat.le_refl _) (by omega)) c⟩⟩
theorem M_poor {k s : Nat} {ν : xM} {pl : Nat → Nat} (hk : k ≤ 4) (w1 : ν.1 0 1 = nI k) (hp : ∀ i, i < k → pl i ≤ 1000 ∧ fM_playsIn ν 1704 (nI i) (nI s) = some (nI (pl i))) : ∀ (f i L : Nat), i ≤ k → k < i + f → L ≤ 1000000 → ∃ r, r ≤ L ∧ fM_poorest_l5 ν f (nI s) (nI L) (nI i) = some (nI r) ∧ ∀ v, (v ≤ r ↔ v ≤ L ∧ ∀ i', i ≤ i' → i' < k → v ≤ pl i')
  | 0, i, L, h1, h2, h3 => absurd h2 (by omega)
  | f + 1, i, L, h1, h2, h3 => by
    unfold fM_poorest_l5
    rw [xk1, xl1, w1]
    by_cases hi : i = k
    · subst hi
      rw [if_pos (nI_le (Nat.le_refl _) (by omega))]
      exact ⟨L, Nat.le_refl _, rfl, fun v => ⟨fun z => ⟨z, fun i' z1 z2 => absurd z2 (by omega)⟩, fun z => z.1⟩⟩
    · obtain ⟨p1, p2⟩ := hp i (by omega)
      rw [if_neg (nI_ge (by omega) (by omega)), p2, bnd]
      unfold fM_poorest_b38
      rw [nI_1]
      by_cases c : L ≤ pl i
      · rw [if_pos (nI_le c (by omega))]
        obtain ⟨r, r1, r2, r3⟩ := M_poor hk w1 hp f (i + 1) L (by omega) (by omega) h3
        refine ⟨r, r1, r2, fun v => (r3 v).trans ⟨fun z => ⟨z.1, fun i' z1 z2 => ?_⟩, fun z => ⟨z.1, fun i' z1 z2 => z.2 i' (by omega) z2⟩⟩⟩
        by_cases e : i' = i
        · subst e
          have := z.1
          omega
        · exact z.2 i' (by omega) z2
      · rw [if_neg (nI_ge (by omega) (by omega))]
        obtain ⟨r, r1, r2, r3⟩ := M_poor hk w1 hp f (i + 1) (pl i) (by omega) (by omega) (by omega)
        refine ⟨r, by omega, r2, fun v => (r3 v).trans ⟨fun z => ⟨by have := z.1; omega, fun i' z1 z2 => ?_⟩, fun z => ⟨z.2 i (Nat.le_refl _) (by omega), fun i' z1 z2 => z.2 i' (by omega) z2⟩⟩⟩
        by_cases e : i' = i
        · subst e; exact z.1
        · exact z.2 i' (by omega) z2
/-- the least of what is played by a code -/
def mnQ (Q : Nat → Nat → Nat) (sh : Nat → Nat) : Nat → Nat
  | 0 => 1000001
  | i + 1 => min (mnQ Q sh i) (Q i (sh i))
theorem mnQ_i {Q : Nat → Nat → Nat} {sh : Nat → Nat} {v : Nat} : ∀ j, (v ≤ mnQ Q sh j ↔ v ≤ 1000001 ∧ ∀ i, i < j → v ≤ Q i (sh i))
  | 0 => ⟨fun z => ⟨z, fun i hi => absurd hi (Nat.not_lt_zero i)⟩, fun z => z.1⟩
  | j + 1 => by
    have ih := mnQ_i (Q := Q) (sh := sh) (v := v) j
    have e : mnQ Q sh (j + 1) = min (mnQ Q sh j) (Q j (sh j)) := rfl
    rw [e, Nat.le_min, ih]
    constructor
    · rintro ⟨⟨z1, z2⟩, z3⟩
      refine ⟨z1, fun i hi => ?_⟩
      by_cases ei : i = j
      · subst ei; exact z3
      · exact z2 i (by omega)
    · rintro ⟨z1, z2⟩
      exact ⟨⟨z1, fun i hi => z2 i (by omega)⟩, z2 j (by omega)⟩
theorem mnQ_eq {Q : Nat → Nat → Nat} {sh : Nat → Nat} {j D : Nat} (h : ∀ v, (v ≤ D ↔ v ≤ 1000001 ∧ ∀ i, i < j → v ≤ Q i (sh i))) : D = mnQ Q sh j :=
  Nat.le_antisymm ((mnQ_i j).mpr ((h D).mp (Nat.le_refl _))) ((h _).mpr ((mnQ_i j).mp (Nat.le_refl _)))
/-- IN which a board is by a code -/
def inC (B F n c : Nat) (μ : xM) (b : Nat) : Int32 := if hoB (nI F) b = true then zI (dig B F n c b) else μ.1 0 (b * 6 + 5)
def vqC (μ : xM) (s k F n c : Nat) : Nat := mnQ (fun i x => QN μ s i x) (shC (k + 1) F n c) k
theorem M_code {n k y hh a q u s F c : Nat} {μ ν : xM} (hs : s < 4) (hk0 : 0 < k) (hc : c < 100000) (H : rT n k y hh a q u μ.1 (μ.1 36) (μ.1 37 0) (ν.1 0)) (hF : F = maskN n (fun b => μ.1 0 (b * 6 + 5) == -1)) {v2 v4 v5 v6 : Int32} (k83 : Int32 → Int32 → Int32 → Int32 → Int32 → Int32 → xM → Option (Int32 × xM)) : ∃ ν1 ν2, fM_tries ν = some ν1 ∧ ν1.1 0 0 = nI n ∧ fM_best_l108 k83 xfu (nI s) v2 (nI F) v4 v5 v6 (nI c) (nI n - 1) ν1 = fM_best_b181 k83 (nI s) v2 (nI F) v4 v5 v6 (zI (vqC μ s k F n c)) ν2 ∧ scM ν ν2 ∧ ν2.1 4 = ν.1 4 ∧ (∀ b, b < n → ν2.1 0 (1742 + b) = inC (k + 1) F n c μ b) := by
  obtain ⟨B, U, W, hC, hW, hI, hH, hN, hM, hP⟩ := id H
  obtain ⟨b1, b2, b3, b4, b5, b6, b7⟩ := id B
  obtain ⟨u0, u1, u2, u3, u4, u5, u6, uy⟩ := U
  obtain ⟨w0, w1, w2, w3, w4, w5, w6⟩ := W
  have h64 := pow64 b1
  have hFn : F < 2 ^ n := by rw [hF]; exact maskN_lt _ _
  have hoF : ∀ b, b < n → (hoB (nI F) b = true ↔ μ.1 0 (b * 6 + 5) = -1) := fun b hb => by
    rw [hF, hoB_mask b1 b hb]
    exact beq_iff_eq
  obtain ⟨m1, ν1, p1, p2, p3, p4, p5, p6, p7, p8⟩ := try_both H
  obtain ⟨hE', y1, y2, hW', hI', k1, k2⟩ := p3
  obtain ⟨ν2, q1, q2, q3, q4⟩ := M_b108 (F := F) (c := c) (v1 := nI s) (v2 := v2) (v4 := v4) (v5 := v5) (v6 := v6) b1 b2 hc k83 xfu n ν1 (Nat.le_refl _) (by show n < 100000; omega) k2
  rw [cf_n, Nat.pow_zero, Nat.div_one] at q1
  have G2 : scM ν1 ν2 := ⟨fun j i z => by unfold sM at z; exact q3 j i (by omega), by rw [q4], by rw [q4]⟩
  have in0 : ∀ b, b < n → ν1.1 0 (1742 + b) = μ.1 0 (b * 6 + 5) := fun b hb => by
    rw [show 1742 + b = 1704 + (8 + 6 * 5 + b) by omega, p8 _ (by omega), hC.1 b 5 hb (by decide)]
  have tin : ∀ b, b < n → ν2.1 0 (1742 + b) = inC (k + 1) F n c μ b := fun b hb => by
    rw [q2 b hb, in0 b hb]
    rfl
  have t0 : ∀ b x, b < n → x < 5 → ν2.1 0 (1712 + 6 * x + b) = μ.1 0 (b * 6 + x) := fun b x hb hx => by
    rw [q3 0 _ (by omega), show 1712 + 6 * x + b = 1704 + (8 + 6 * x + b) by omega, p8 _ (by omega)]
    exact (hC.1 b x hb (by omega)).symm
  have w0' : ν2.1 0 1704 = nI n := by rw [q3 0 _ (by omega)]; exact hE'.2.2.2.2.2.1
  have w1' : ν2.1 0 1 = nI k := by rw [q3 0 _ (by omega)]; exact k2
  have kk : ∀ i, i < k → μ.1 3 i = ν2.1 0 (1748 + i) := fun i hi => by rw [q3 0 _ (by omega), show 1748 + i = 1704 + (44 + i) by omega, p8 _ (by omega)]; exact hI i hi
  have hdig : ∀ b, dig (k + 1) F n c b < k + 1 := fun b => Nat.mod_lt _ (by omega)
  have shB : ∀ i b, b < 6 → hoB (nI (shC (k + 1) F n c i)) b = (hoB (nI F) b && (dig (k + 1) F n c b == i + 1)) := fun i b hb => hoB_mask (n := 6) (by decide) b hb
  have sh64 : ∀ i, shC (k + 1) F n c i < 64 := fun i => mask_64 (n := 6) (by decide)
  have shF : ∀ i, sb (shC (k + 1) F n c i) F := fun i => (sb_ho (sh64 i) (by omega)).mpr (fun b hb z => by
    rw [shB i b hb, Bool.and_eq_true] at z
    exact z.1)
  have shn : ∀ i, shC (k + 1) F n c i < 2 ^ n := fun i => by
    have := sb_le (sh64 i) (by omega) (shF i)
    omega
  -- a board is in an instrument by the code
  have mem : ∀ i, i < k → ∀ b, b < n → (inC (k + 1) F n c μ b = nI i ↔ μ.1 0 (b * 6 + 5) = nI i ∨ hoB (nI (shC (k + 1) F n c i)) b = true) := fun i hi b hb => by
    rw [shB i b (by omega)]
    unfold inC
    by_cases z : hoB (nI F) b = true
    · have e := (hoF b hb).mp z
      have hd := hdig b
      rw [if_pos z, z, Bool.true_and, e, beq_iff_eq, ← zI_s i, zI_eq (by omega) (by omega)]
      exact ⟨Or.inr, fun y => y.elim (fun y => absurd (zI_s i ▸ y) (nI_m1 (by omega))) id⟩
    · rw [if_neg z, Bool.eq_false_iff.mpr z, Bool.false_and]
      exact ⟨Or.inl, fun y => y.elim id (fun y => absurd y (by decide))⟩
  have cnt : ∀ i, i < k → cntB n (fun b => ν2.1 0 (1742 + b) == nI i) = pcN (shC (k + 1) F n c i) + cntB n (fun b => μ.1 0 (b * 6 + 5) == nI i) := fun i hi => by
    rw [← pc_ho n (by omega) _ (shn i), Nat.add_comm, ← cnt_or (fun b hb z1 z2 => by
      have e1 : μ.1 0 (b * 6 + 5) = nI i := eq_of_beq z1
      rw [shB i b (by omega), Bool.and_eq_true] at z2
      exact nI_m1 (i := i) (by omega) (((hoF b hb).mp z2.1).symm.trans e1))]
    refine cntB_congr (fun b hb => ?_)
    show (ν2.1 0 (1742 + b) == nI i) = ((μ.1 0 (b * 6 + 5) == nI i) || hoB (nI (shC (k + 1) F n c i)) b)
    rw [tin b hb, Bool.eq_iff_iff, beq_iff_eq, Bool.or_eq_true, beq_iff_eq]
    exact mem i hi b hb
  have Qe := fun i (hi : i < k) => QN_eq (g := shC (k + 1) F n c i) hi hs (shn i) (by rw [← hF]; exact shF i) H
  obtain ⟨r, r1, r2⟩ := M_room b1 b2 w0' w1' xfu 0 true (by omega) (by show k < 0 + 100000; omega)
  have r1' : fM_hasRoom ν2 = some (if r = true then 1 else 0) := r1
  refine ⟨ν1, ν2, p2, by rw [p7 0 (by decide)]; exact w0, ?_, scM_trans p5 G2, ?_, tin⟩
  · have en : nI n - 1 = zI n := rfl
    rw [en, q1, r1', bnd]
    cases r with
    | false =>
      rw [if_pos (show (if false = true then (1 : Int32) else 0) = 0 by decide)]
      have e0 : vqC μ s k F n c = 0 := by
        have no : ¬ ∀ i', 0 ≤ i' → i' < k → cntB n (fun b => ν2.1 0 (1742 + b) == nI i') ≤ 4 := fun z => absurd (r2.mpr ⟨rfl, z⟩) (by decide)
        by_cases h0 : vqC μ s k F n c = 0
        · exact h0
        · refine absurd (fun i' _ hi' => ?_) no
          have := ((mnQ_i (Q := fun i x => QN μ s i x) (sh := shC (k + 1) F n c) (v := 1) k).mp (by show 1 ≤ vqC μ s k F n c; omega)).2 i' hi'
          rw [cnt i' hi']
          exact (Qe i' hi').2.2.mpr this
      rw [e0]
      rfl
    | true =>
      rw [if_neg (show ¬ (if true = true then (1 : Int32) else 0) = 0 by decide)]
      have room := (r2.mp rfl).2
      have vt : vB n k (fun b c => ν2.1 0 (1712 + 6 * c + b)) := by
        refine ⟨fun b hb => ?_, fun i' hi' => ?_⟩
        · obtain ⟨v0, v1, v2, v3, v4, v5⟩ := hC.2.1 b hb
          refine ⟨v0.imp (fun x hx => ⟨hx.1, (t0 b 0 hb (by decide)).trans hx.2⟩), v1.imp (fun x hx => ⟨hx.1, (t0 b 1 hb (by decide)).trans hx.2⟩), v2.imp (fun x hx => ⟨hx.1, (t0 b 2 hb (by decide)).trans hx.2⟩), v3.imp (fun x hx => ⟨hx.1, (t0 b 3 hb (by decide)).trans hx.2⟩), v4.imp (fun z => (t0 b 4 hb (by decide)).trans z) (fun z => (t0 b 4 hb (by decide)).trans z), ?_⟩
          show ν2.1 0 (1712 + 6 * 5 + b) = -1 ∨ ∃ i, i < k ∧ ν2.1 0 (1712 + 6 * 5 + b) = nI i
          rw [show 1712 + 6 * 5 + b = 1742 + b by omega, tin b hb]
          unfold inC
          by_cases z : hoB (nI F) b = true
          · have hd := hdig b
            rw [if_pos z]
            by_cases d0 : dig (k + 1) F n c b = 0
            · rw [d0]; exact Or.inl rfl
            · refine Or.inr ⟨dig (k + 1) F n c b - 1, by omega, ?_⟩
              rw [← zI_s, show dig (k + 1) F n c b - 1 + 1 = dig (k + 1) F n c b by omega]
          · rw [if_neg z]
            exact v5
        · show cntB n (fun b => ν2.1 0 (1712 + 6 * 5 + b) == nI i') ≤ 4
          rw [cntB_congr (g := fun b => ν2.1 0 (1742 + b) == nI i') (fun b hb => by rw [show 1712 + 6 * 5 + b = 1742 + b by omega])]
          exact room i' (by omega) hi'
      have plays : ∀ i, i < k → QN μ s i (shC (k + 1) F n c i) - 1 ≤ 1000 ∧ fM_playsIn ν2 1704 (nI i) (nI s) = some (nI (QN μ s i (shC (k + 1) F n c i) - 1)) := fun i hi => by
        obtain ⟨z1, z2, z3⟩ := Qe i hi
        have pos := z3.mp (by rw [← cnt i hi]; exact room i (by omega) hi)
        obtain ⟨p, hp, e1, e2⟩ := mir_play (β := 0) (M := nI (shC (k + 1) F n c i)) (m := μ) (ν := ν2) (by decide) b1 b2 hi hs u0 w0' kk vt (fun b hb => by
          show (μ.1 0 (b * 6 + 5) = nI i ∨ _) ↔ _
          rw [tin b hb]
          exact (mem i hi b hb).symm) (fun b hb z x hx => (t0 b x hb hx).symm)
        have ee : zI (QN μ s i (shC (k + 1) F n c i)) = nI p := Option.some.inj (z2.symm.trans e1)
        rw [← zI_s, zI_eq (by omega) (by omega)] at ee
        rw [ee]
        exact ⟨hp, e2⟩
      obtain ⟨r0, s1, s2, s3⟩ := M_poor (s := s) (pl := fun i => QN μ s i (shC (k + 1) F n c i) - 1) b2 w1' plays xfu 0 1000000 (by omega) (by show k < 0 + 100000; omega) (Nat.le_refl _)
      have s2' : fM_poorest ν2 (nI s) = some (nI r0) := s2
      have er : r0 + 1 = vqC μ s k F n c := mnQ_eq (fun v => by
        constructor
        · intro z
          by_cases v0 : v = 0
          · subst v0
            exact ⟨by omega, fun _ _ => Nat.zero_le _⟩
          · obtain ⟨z1, z2⟩ := (s3 (v - 1)).mp (by omega)
            refine ⟨by omega, fun i hi => ?_⟩
            have := z2 i (by omega) hi
            have pos := (Qe i hi).2.2.mp (by rw [← cnt i hi]; exact room i (by omega) hi)
            have this : v - 1 ≤ QN μ s i (shC (k + 1) F n c i) - 1 := this
            show v ≤ QN μ s i (shC (k + 1) F n c i)
            omega
        · rintro ⟨z1, z2⟩
          have : v - 1 ≤ r0 := (s3 (v - 1)).mpr ⟨by omega, fun i _ hi => by
            have := z2 i hi
            have this : v ≤ QN μ s i (shC (k + 1) F n c i) := this
            show v - 1 ≤ QN μ s i (shC (k + 1) F n c i) - 1
            omega⟩
          omega)
      rw [s2', bnd, ← er, zI_s]
  · funext x
    rw [q3 4 x (by omega)]
    have e : ν1 = xcb ν 0 0 1704 0 48 := Option.some.inj (p2.symm.trans M_try)
    rw [e, xcb_nb (by decide)]
