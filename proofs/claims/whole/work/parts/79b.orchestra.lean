/-! STEPS: orchestra -/
theorem and_16 : ∀ a, a < 16 → ∀ b, b < 16 → (nI a &&& nI b) = nI (a &&& b) ∧ (a &&& b) < 16 ∧ ∀ j, j < 4 → hoB (nI (a &&& b)) j = (hoB (nI a) j && hoB (nI b) j) := by decide +kernel
theorem part_16 : ∀ a, a < 16 → ∀ b, b < 16 → ((nI a &&& (nI b ^^^ (-1 : Int32))) = 0 ↔ ∀ j, j < 4 → hoB (nI a) j = true → hoB (nI b) j = true) := by decide +kernel
theorem mask_16 {k : Nat} {f : Nat → Bool} (hk : k ≤ 4) : maskN k f < 16 := by
  have h := maskN_lt k f
  have h2 : 2 ^ k ≤ 2 ^ 4 := Nat.pow_le_pow_right (by decide) hk
  omega
/-- one that is near another on all strings -/
def nrA (ν : xM) (i j : Nat) : Prop := ∀ s, s < 4 → nearB (plM ν i s) (plM ν j s) = true
theorem nrA_comm {ν : xM} {i j : Nat} (h : nrA ν i j) : nrA ν j i := fun s hs => by rw [nearB_comm]; exact h s hs
theorem nrA_self {ν : xM} {i : Nat} : nrA ν i i := fun s _ => nearB_self
def frOK (ν m : xM) (k i : Nat) : Prop := ∃ F, F < 16 ∧ m.1 35 i = nI F ∧ ∀ j, j < k → (hoB (nI F) j = true ↔ nrA ν j i)
theorem H_fr31 {n k : Nat} {m ν : xM} (h : bE n k 0 0 m ν) (u3 : m.1 36 3 = nI k) (hI : ∀ i, i < k → m.1 3 i = ν.1 0 (44 + i)) {i : Nat} (hi : i < k) (k13 : Int32 → Int32 → xM → Option (Int32 × xM)) {v1 : Int32} : ∀ (f s F : Nat), s ≤ 4 → 4 < s + f → F < 16 → (∀ j, j < k → (hoB (nI F) j = true ↔ ∀ s', s' < s → nearB (plM ν j s') (plM ν i s') = true)) → ∃ F', F' < 16 ∧ (∀ j, j < k → (hoB (nI F') j = true ↔ nrA ν j i)) ∧ fH_orchestra_l31 k13 f v1 (nI i) (nI F) (nI s) m = k13 v1 (nI (i + 1)) (xset m 35 i (nI F'))
  | 0, s, F, h1, h2, h3, h4 => absurd h2 (by omega)
  | f + 1, s, F, h1, h2, h3, h4 => by
    have hk := h.2.2.2.1
    unfold fH_orchestra_l31
    by_cases hs : s = 4
    · subst hs
      rw [if_pos (show (4 : Int32) ≤ nI 4 by decide), T_put (t := 35) (r := i) (c := 0) (v2 := 0) (by decide) rfl rfl (by decide) (by show i < 4; omega), bnd, show i * wN 35 + 0 = i by show i * 1 + 0 = i; omega, nI_1]
      exact ⟨F, h3, h4, rfl⟩
    · have c4 : ¬ (4 : Int32) ≤ nI s := nI_ge (b := 4) (by omega) (by decide)
      obtain ⟨a1, a2, a3⟩ := and_16 F h3 (maskN k (fun j => nearB (plM ν j s) (plM ν i s))) (mask_16 hk)
      rw [if_neg c4, H_like h u3 hI hi (by omega), bnd, a1, nI_1]
      refine H_fr31 h u3 hI hi k13 f (s + 1) _ (by omega) (by omega) a2 (fun j hj => ?_)
      rw [a3 j (by omega), hoB_mask (by omega) j hj, Bool.and_eq_true, h4 j hj]
      constructor
      · rintro ⟨z1, z2⟩ s' hs'
        by_cases e : s' = s
        · subst e; exact z2
        · exact z1 s' (by omega)
      · intro z
        exact ⟨fun s' hs' => z s' (by omega), z s (by omega)⟩
theorem H_fr13 {n k : Nat} {ν : xM} : ∀ (f i : Nat) (m : xM), i ≤ k → k < i + f → bE n k 0 0 m ν → m.1 36 3 = nI k → (∀ i, i < k → m.1 3 i = ν.1 0 (44 + i)) → (∀ i', i' < i → frOK ν m k i') → ∃ m', fH_orchestra_l13 f (nI k) (nI i) m = fH_orchestra_l76 xfu (nI k) 0 1 m' ∧ scH m m' ∧ (∀ i', i' < k → frOK ν m' k i')
  | 0, i, m, h1, h2, h, u3, hI, e => absurd h2 (by omega)
  | f + 1, i, m, h1, h2, h, u3, hI, e => by
    have hk := h.2.2.2.1
    unfold fH_orchestra_l13
    by_cases hi : i = k
    · subst hi
      rw [if_pos (nI_le (Nat.le_refl _) (by omega))]
      exact ⟨m, rfl, scH_refl, e⟩
    · have hi' : i < k := by omega
      have g := H_like h u3 hI hi' (s := 0) (by decide)
      have g' : fW_likeOnes 0 m (nI i) 0 = _ := g
      obtain ⟨F', f1, f2, f3⟩ := H_fr31 h u3 hI hi' (fH_orchestra_l13 f) (v1 := nI k) xfu 1 (maskN k (fun j => nearB (plM ν j 0) (plM ν i 0))) (by decide) (by decide) (mask_16 hk) (fun j hj => by
        rw [hoB_mask (by omega) j hj]
        constructor
        · intro z s' hs'
          rw [show s' = 0 by omega]; exact z
        · intro z
          exact z 0 (by decide))
      have f3' : fH_orchestra_l31 (fH_orchestra_l13 f) xfu (nI k) (nI i) (nI (maskN k (fun j => nearB (plM ν j 0) (plM ν i 0)))) 1 m = _ := f3
      have F : scH m (xset m 35 i (nI F')) := scH_set (by unfold sH; omega) scH_refl
      rw [if_neg (nI_ge hi' (by omega)), g', bnd, f3']
      obtain ⟨m', g1, g2, g3⟩ := H_fr13 f (i + 1) (xset m 35 i (nI F')) (by omega) (by omega) (bE_sc h F scM_refl) (by simp (disch := omega) only [xset_ne, xset_nj, xset_eq, Nat.add_zero]; exact u3) (fun i' hi' => by simp (disch := omega) only [xset_ne, xset_nj, xset_eq, Nat.add_zero]; exact hI i' hi') (fun i' hi' => by
        by_cases c : i' = i
        · subst c
          exact ⟨F', f1, by simp (disch := omega) only [xset_ne, xset_nj, xset_eq, Nat.add_zero], f2⟩
        · obtain ⟨F0, z1, z2, z3⟩ := e i' (by omega)
          exact ⟨F0, z1, by simp (disch := omega) only [xset_ne, xset_nj, xset_eq, Nat.add_zero]; exact z2, z3⟩)
      exact ⟨m', g1, scH_trans F g2, g3⟩
/-- a group of friends, in the class -/
theorem H_af {k G : Nat} {m ν : xM} (hk : k ≤ 4) (hG : G < 2 ^ k) (u3 : m.1 36 3 = nI k) (e : ∀ i, i < k → frOK ν m k i) : ∀ (f c : Nat), c ≤ k → k < c + f → ∃ b : Bool, fH_areFriends_l2 m f (nI G) (nI c) = some (if b = true then 1 else 0) ∧ (b = true ↔ ∀ i, c ≤ i → i < k → hoB (nI G) i = true → ∀ j, j < k → hoB (nI G) j = true → nrA ν j i)
  | 0, c, h1, h2 => absurd h2 (by omega)
  | f + 1, c, h1, h2 => by
    have hG16 : G < 16 := Nat.lt_of_lt_of_le hG (Nat.pow_le_pow_right (by decide) hk)
    unfold fH_areFriends_l2
    rw [T_many, bnd, u3, xnb_1, xnb_0]
    by_cases hc : c = k
    · subst hc
      rw [if_pos (nI_le (Nat.le_refl _) (by omega))]
      exact ⟨true, rfl, ⟨fun _ i i1 i2 => absurd i2 (by omega), fun _ => rfl⟩⟩
    · have hc' : c < k := by omega
      obtain ⟨F, f1, f2, f3⟩ := e c hc'
      obtain ⟨b, i1, i2⟩ := H_af hk hG u3 e f (c + 1) (by omega) (by omega)
      rw [if_neg (nI_ge hc' (by omega)), holds_eq, T_get (t := 35) (r := c) (c := 0) (v2 := 0) (by decide) rfl rfl (by decide) (by show c < 4; omega), bnd, show c * wN 35 + 0 = c by show c * 1 + 0 = c; omega, f2]
      unfold fH_areFriends_b42 fH_isPartOf
      rw [nI_1, xnb_1, xnb_0]
      have P := part_16 G hG16 F f1
      have P2 : (nI G &&& (nI F ^^^ (-1 : Int32))) = 0 ↔ ∀ j, j < k → hoB (nI G) j = true → nrA ν j c := by
        rw [P]
        constructor
        · intro z j hj hg
          exact (f3 j hj).mp (z j (by omega) hg)
        · intro z j hj hg
          have hjk := ho_lt k (by omega) G hG j (by omega) hg
          exact (f3 j hjk).mpr (z j hjk hg)
      by_cases hg : hoB (nI G) c = true
      · rw [if_pos hg]
        by_cases q : (nI G &&& (nI F ^^^ (-1 : Int32))) = 0
        · rw [if_pos q, bnd, xi1]
          refine ⟨b, i1, i2.trans ⟨fun z i z1 z2 => ?_, fun z i z1 z2 => z i (by omega) z2⟩⟩
          by_cases ei : i = c
          · subst ei
            exact fun _ => P2.mp q
          · exact z i (by omega) z2
        · rw [if_neg q, bnd, xi0]
          refine ⟨false, rfl, ⟨fun z => absurd z (by decide), fun z => absurd (P2.mpr (z c (Nat.le_refl _) hc' hg)) q⟩⟩
      · rw [if_neg hg]
        refine ⟨b, i1, i2.trans ⟨fun z i z1 z2 z3 => ?_, fun z i z1 z2 => z i (by omega) z2⟩⟩
        by_cases ei : i = c
        · subst ei
          exact absurd z3 hg
        · exact z i (by omega) z2 z3
theorem M_or60 {n k : Nat} {m ν : xM} (h : bE n k 0 0 m ν) (hI : ∀ i, i < k → m.1 3 i = ν.1 0 (44 + i)) {i j G : Nat} (hi : i < k) (hj : j < k) {v1 : Int32} (k4 : Int32 → Int32 → Option Int32) (k36 : Int32 → Int32 → Int32 → Int32 → Option Int32) (k50 : Int32 → Int32 → Int32 → Int32 → Int32 → Option Int32) : ∀ (f s : Nat) (is : Bool), s ≤ 4 → 4 < s + f → ∃ b : Bool, fM_orchestra_l60 ν k4 k36 k50 f v1 (nI G) (if is = true then 1 else 0) (nI i) (nI j) (nI s) = k50 v1 (nI G) (if b = true then 1 else 0) (nI i) (nI (j + 1)) ∧ (b = true ↔ is = true ∧ ∀ s', s ≤ s' → s' < 4 → hoB (nI G) i = true → hoB (nI G) j = true → nearB (plM ν i s') (plM ν j s') = true)
  | 0, s, is, h1, h2 => absurd h2 (by omega)
  | f + 1, s, is, h1, h2 => by
    unfold fM_orchestra_l60 fM_orchestra_b113
    rw [nI_1]
    by_cases hs : s = 4
    · subst hs
      rw [if_pos (show (4 : Int32) ≤ nI 4 by decide)]
      exact ⟨is, rfl, ⟨fun z => ⟨z, fun s' z1 z2 => absurd z2 (by omega)⟩, fun z => z.1⟩⟩
    · have c4 : ¬ (4 : Int32) ≤ nI s := nI_ge (b := 4) (by omega) (by decide)
      rw [if_neg c4]
      cases is with
      | false =>
        rw [if_pos (by decide)]
        exact ⟨false, rfl, ⟨fun z => absurd z (by decide), fun z => z.1⟩⟩
      | true =>
        rw [if_neg (by decide), M_has_eq, M_has_eq, M_near h hI hi hj (by omega), bnd]
        unfold fM_orchestra_b101 fM_orchestra_b106
        rw [nI_1]
        obtain ⟨b, i1, i2⟩ := M_or60 h hI (G := G) (v1 := v1) hi hj k4 k36 k50 f (s + 1) true (by omega) (by omega)
        rw [if_pos rfl] at i1
        have good : (hoB (nI G) i = true → hoB (nI G) j = true → nearB (plM ν i s) (plM ν j s) = true) → (b = true ↔ true = true ∧ ∀ s', s ≤ s' → s' < 4 → hoB (nI G) i = true → hoB (nI G) j = true → nearB (plM ν i s') (plM ν j s') = true) := by
          intro z
          refine i2.trans ⟨fun y => ⟨rfl, fun s' y1 y2 => ?_⟩, fun y => ⟨rfl, fun s' y1 y2 => y.2 s' (by omega) y2⟩⟩
          by_cases es : s' = s
          · subst es; exact z
          · exact y.2 s' (by omega) y2
        by_cases g1 : hoB (nI G) i = true
        · rw [if_pos g1]
          by_cases g2 : hoB (nI G) j = true
          · rw [if_pos g2]
            by_cases g3 : nearB (plM ν i s) (plM ν j s) = true
            · rw [if_pos g3, xi1]
              exact ⟨b, i1, good (fun _ _ => g3)⟩
            · rw [if_neg g3, xi0]
              obtain ⟨b0, j1, j2⟩ := M_or60 h hI (G := G) (v1 := v1) hi hj k4 k36 k50 f (s + 1) false (by omega) (by omega)
              rw [if_neg (by decide)] at j1
              refine ⟨b0, j1, j2.trans ⟨fun z => absurd z.1 (by decide), fun z => absurd (z.2 s (Nat.le_refl _) (by omega) g1 g2) g3⟩⟩
          · rw [if_neg g2]
            exact ⟨b, i1, good (fun _ z => absurd z g2)⟩
        · rw [if_neg g1]
          exact ⟨b, i1, good (fun z => absurd z g1)⟩
theorem M_or50 {n k : Nat} {m ν : xM} (h : bE n k 0 0 m ν) (hI : ∀ i, i < k → m.1 3 i = ν.1 0 (44 + i)) {i G : Nat} (hi : i < k) {v1 : Int32} (k4 : Int32 → Int32 → Option Int32) (k36 : Int32 → Int32 → Int32 → Int32 → Option Int32) : ∀ (f j : Nat) (is : Bool), j ≤ i → i < j + f → ∃ b : Bool, fM_orchestra_l50 ν k4 k36 f v1 (nI G) (if is = true then 1 else 0) (nI i) (nI j) = k36 v1 (nI G) (if b = true then 1 else 0) (nI (i + 1)) ∧ (b = true ↔ is = true ∧ ∀ j', j ≤ j' → j' < i → hoB (nI G) i = true → hoB (nI G) j' = true → nrA ν i j')
  | 0, j, is, h1, h2 => absurd h2 (by omega)
  | f + 1, j, is, h1, h2 => by
    have hk := h.2.2.2.1
    unfold fM_orchestra_l50
    by_cases hj : j = i
    · subst hj
      rw [if_pos (nI_le (Nat.le_refl _) (by omega)), nI_1]
      exact ⟨is, rfl, ⟨fun z => ⟨z, fun s' z1 z2 => absurd z2 (by omega)⟩, fun z => z.1⟩⟩
    · rw [if_neg (nI_ge (by omega) (by omega))]
      obtain ⟨b, i1, i2⟩ := M_or60 h hI (G := G) (v1 := v1) hi (j := j) (by omega) k4 k36 (fM_orchestra_l50 ν k4 k36 f) xfu 0 is (by decide) (by decide)
      have i1' : fM_orchestra_l60 ν k4 k36 (fM_orchestra_l50 ν k4 k36 f) xfu v1 (nI G) (if is = true then 1 else 0) (nI i) (nI j) 0 = _ := i1
      obtain ⟨b2, j1, j2⟩ := M_or50 h hI (G := G) (v1 := v1) hi k4 k36 f (j + 1) b (by omega) (by omega)
      rw [i1']
      refine ⟨b2, j1, j2.trans ?_⟩
      rw [i2]
      constructor
      · rintro ⟨⟨z1, z2⟩, z3⟩
        refine ⟨z1, fun j' y1 y2 y3 y4 => ?_⟩
        by_cases ej : j' = j
        · subst ej
          exact fun s hs => z2 s (by omega) hs y3 y4
        · exact z3 j' (by omega) y2 y3 y4
      · rintro ⟨z1, z2⟩
        exact ⟨⟨z1, fun s _ hs y3 y4 => z2 j (Nat.le_refl _) (by omega) y3 y4 s hs⟩, fun j' y1 y2 => z2 j' (by omega) y2⟩
theorem M_or36 {n k : Nat} {m ν : xM} (h : bE n k 0 0 m ν) (w1 : ν.1 0 1 = nI k) (hI : ∀ i, i < k → m.1 3 i = ν.1 0 (44 + i)) {G : Nat} {v1 : Int32} (k4 : Int32 → Int32 → Option Int32) : ∀ (f i : Nat) (is : Bool), i ≤ k → k < i + f → ∃ b : Bool, fM_orchestra_l36 ν k4 f v1 (nI G) (if is = true then 1 else 0) (nI i) = k4 (if b = true then nI G else v1) (nI (G + 1)) ∧ (b = true ↔ is = true ∧ ∀ i', i ≤ i' → i' < k → ∀ j', j' < i' → hoB (nI G) i' = true → hoB (nI G) j' = true → nrA ν i' j')
  | 0, i, is, h1, h2 => absurd h2 (by omega)
  | f + 1, i, is, h1, h2 => by
    have hk := h.2.2.2.1
    unfold fM_orchestra_l36
    rw [xk1, xl1, w1]
    by_cases hi : i = k
    · subst hi
      rw [if_pos (nI_le (Nat.le_refl _) (by omega))]
      unfold fM_orchestra_b134
      rw [nI_1]
      refine ⟨is, ?_, ⟨fun z => ⟨z, fun s' z1 z2 => absurd z2 (by omega)⟩, fun z => z.1⟩⟩
      cases is with
      | true => rw [if_neg (show ¬ (if true = true then (1 : Int32) else 0) = 0 by decide), if_pos (show true = true from rfl)]
      | false => rw [if_pos (show (if false = true then (1 : Int32) else 0) = 0 by decide), if_neg (show ¬ false = true by decide)]
    · rw [if_neg (nI_ge (by omega) (by omega))]
      obtain ⟨b, i1, i2⟩ := M_or50 h hI (G := G) (v1 := v1) (i := i) (by omega) k4 (fM_orchestra_l36 ν k4 f) xfu 0 is (by omega) (by show i < 0 + 100000; omega)
      have i1' : fM_orchestra_l50 ν k4 (fM_orchestra_l36 ν k4 f) xfu v1 (nI G) (if is = true then 1 else 0) (nI i) 0 = _ := i1
      obtain ⟨b2, j1, j2⟩ := M_or36 h w1 hI (G := G) (v1 := v1) k4 f (i + 1) b (by omega) (by omega)
      rw [i1']
      refine ⟨b2, j1, j2.trans ?_⟩
      rw [i2]
      constructor
      · rintro ⟨⟨z1, z2⟩, z3⟩
        refine ⟨z1, fun i' y1 y2 j' y3 => ?_⟩
        by_cases ei : i' = i
        · subst ei
          exact z2 j' (by omega) y3
        · exact z3 i' (by omega) y2 j' y3
      · rintro ⟨z1, z2⟩
        exact ⟨⟨z1, fun j' _ y => z2 i (Nat.le_refl _) (by omega) j' y⟩, fun i' y1 y2 => z2 i' (by omega) y2⟩
theorem orch_l {n k : Nat} {m ν : xM} (h : bE n k 0 0 m ν) (u3 : m.1 36 3 = nI k) (w1 : ν.1 0 1 = nI k) (hI : ∀ i, i < k → m.1 3 i = ν.1 0 (44 + i)) (e : ∀ i, i < k → frOK ν m k i) : ∀ (f g t : Nat), g ≤ 2 ^ k → 2 ^ k < g + f → t < 16 → ∃ r, fH_orchestra_l76 f (nI k) (nI t) (nI g) m = some (nI r, m) ∧ fM_orchestra_l4 ν f (nI t) (nI g) = some (nI r)
  | 0, g, t, h1, h2, h3 => absurd h2 (by omega)
  | f + 1, g, t, h1, h2, h3 => by
    have hk := h.2.2.2.1
    have h16 : 2 ^ k ≤ 16 := Nat.pow_le_pow_right (n := 2) (by decide) hk
    unfold fH_orchestra_l76 fM_orchestra_l4
    rw [xk1, xl1, w1, nI_mask k (by omega)]
    by_cases hg : g = 2 ^ k
    · subst hg
      rw [if_pos (nI_le (Nat.le_refl _) (by omega)), if_pos (nI_le (Nat.le_refl _) (by omega))]
      exact ⟨t, rfl, rfl⟩
    · have cg := nI_ge (a := g) (b := 2 ^ k) (by omega) (by omega)
      rw [if_neg cg, if_neg cg, bitCount_N g (by omega), bitCount_N t (by omega), ones_N g (by omega), ones_N t (by omega), bnd, bnd, bnd, bnd]
      unfold fH_orchestra_b104 fM_orchestra_b32
      rw [nI_1]
      obtain ⟨x, a1, a2⟩ := H_af hk (G := g) (by omega) u3 e xfu 0 (by omega) (by show k < 0 + 100000; omega)
      have a1' : fH_areFriends m (nI g) = some (if x = true then 1 else 0) := a1
      obtain ⟨y0, c1, c2⟩ := M_or36 h w1 hI (G := g) (v1 := nI t) (fM_orchestra_l4 ν f) xfu 0 false (by omega) (by show k < 0 + 100000; omega)
      obtain ⟨y1, d1, d2⟩ := M_or36 h w1 hI (G := g) (v1 := nI t) (fM_orchestra_l4 ν f) xfu 0 true (by omega) (by show k < 0 + 100000; omega)
      rw [if_neg (by decide)] at c1
      rw [if_pos rfl] at d1
      have c1' : fM_orchestra_l36 ν (fM_orchestra_l4 ν f) xfu (nI t) (nI g) 0 0 = _ := c1
      have d1' : fM_orchestra_l36 ν (fM_orchestra_l4 ν f) xfu (nI t) (nI g) 1 0 = _ := d1
      have xy : x = true ↔ y1 = true := by
        rw [a2, d2]
        constructor
        · intro z
          exact ⟨rfl, fun i _ i2 j j1 g1 g2 => nrA_comm (z i (by omega) i2 g1 j (by omega) g2)⟩
        · rintro ⟨-, z⟩ i - i2 g1 j j1 g2
          rcases (show j < i ∨ j = i ∨ i < j by omega) with q | q | q
          · exact nrA_comm (z i (by omega) i2 j q g1 g2)
          · subst q; exact nrA_self
          · exact z j (by omega) j1 i q g2 g1
      by_cases q : nI (pcN g) ≤ nI (pcN t)
      · rw [if_pos q, if_pos q, c1', if_neg (fun z => absurd (c2.mp z).1 (by decide))]
        exact orch_l h u3 w1 hI e f (g + 1) t (by omega) (by omega) h3
      · rw [if_neg q, if_neg q, a1', bnd, d1']
        cases x with
        | true =>
          rw [if_pos rfl, xi1, if_pos (xy.mp rfl)]
          exact orch_l h u3 w1 hI e f (g + 1) g (by omega) (by omega) (by omega)
        | false =>
          rw [if_pos (show (if false = true then (1 : Int32) else 0) = 0 by decide), if_neg (fun z => absurd (xy.mpr z) (by decide))]
          exact orch_l h u3 w1 hI e f (g + 1) t (by omega) (by omega) h3
theorem st_orchestra {μ ν : xM} (h : xRel μ ν) : ∃ (r : Int32) (μ2 ν2 : xM), (fH_orchestra μ = some (r, μ2)) ∧ (fM_orchestra ν = some r ∧ ν2 = ν) ∧ xRel μ2 ν2 := by
  obtain ⟨n, k, y, hh, a, q, u, B, U, W, hC, hW, hI, hH, hN, hM, hP⟩ := rel_op h
  obtain ⟨b1, b2, b3, b4, b5, b6, b7⟩ := id B
  obtain ⟨u0, u1, u2, u3, u4, u5, u6, uy⟩ := U
  obtain ⟨w0, w1, w2, w3, w4, w5, w6⟩ := W
  have hE := bE_0 b1 b2 u0 w0 hC
  obtain ⟨m', g1, g2, g3⟩ := H_fr13 xfu 0 μ (by omega) (by show k < 0 + 100000; omega) hE u3 (fun i hi => hI i hi) (fun i' z => absurd z (Nat.not_lt_zero _))
  obtain ⟨r, r1, r2⟩ := orch_l (bE_sc hE g2 scM_refl) ((g2.1 36 3 (by unfold sH; omega)).trans u3) w1 (fun i hi => (g2.1 3 i (by unfold sH; omega)).trans (hI i hi)) g3 xfu 1 0 (Nat.one_le_two_pow) (by
    have h16 : 2 ^ k ≤ 16 := Nat.pow_le_pow_right (n := 2) (by decide) b2
    show 2 ^ k < 1 + 100000
    omega) (by decide)
  refine ⟨nI r, m', ν, ?_, ⟨r2, rfl⟩, rel_sc h g2 scM_refl⟩
  unfold fH_orchestra
  rw [T_many, bnd, u3]
  show fH_orchestra_l13 xfu (nI k) (nI 0) μ = _
  rw [g1]
  exact r1
