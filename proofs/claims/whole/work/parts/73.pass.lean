/-! BASE: a year passes, in both -/
def gE (n : Nat) (wf nf : Nat → Int32) (b : Nat) : Bool := (decide (0 < b) && (wf (b - 1) == 1) && (nf (b - 1) == nf b)) || (decide (b + 1 < n) && (wf (b + 1) == 1) && (nf (b + 1) == nf b)) || (wf b == 1)
theorem gE_iff {n : Nat} {wf nf : Nat → Int32} {j : Nat} (hj : j < n) : (∃ i, 0 ≤ i ∧ i < n ∧ wf i = 1 ∧ (j = i ∨ (j + 1 = i ∧ nf j = nf i) ∨ (j = i + 1 ∧ nf j = nf i))) ↔ gE n wf nf j = true := by
  unfold gE
  simp only [Bool.or_eq_true, Bool.and_eq_true, decide_eq_true_eq, beq_iff_eq]
  constructor
  · rintro ⟨i, -, hi, hw, rfl | ⟨rfl, h⟩ | ⟨rfl, h⟩⟩
    · exact Or.inr hw
    · exact Or.inl (Or.inr ⟨⟨hi, hw⟩, h.symm⟩)
    · exact Or.inl (Or.inl ⟨⟨by omega, hw⟩, h.symm⟩)
  · rintro ((⟨⟨h1, h2⟩, h3⟩ | ⟨⟨h1, h2⟩, h3⟩) | h)
    · exact ⟨j - 1, by omega, by omega, h2, Or.inr (Or.inr ⟨by omega, h3.symm⟩)⟩
    · exact ⟨j + 1, by omega, h1, h2, Or.inr (Or.inl ⟨rfl, h3.symm⟩)⟩
    · exact ⟨j, by omega, hj, h, Or.inl rfl⟩
theorem H_wn60 {β n : Nat} {m : xM} {nf : Nat → Int32} (hβ : β < 5) (hn : n ≤ 6) (u0 : m.1 36 (xtb β) = nI n) (hf : ∀ b, b < n → m.1 (xtb β) (b * 6 + 5) = nf b) {b M : Nat} (hb : b < n) (hM : M < 64) (k : Int32 → Int32 → Option Int32) (d : Bool) (hd : d = true → 0 < b) : fB_wormyNext_b60 β m k (nI M) (nI b) (if d = true then 1 else 0) = k (nI (((M ||| 2 ^ b) ||| (if d = true then 2 ^ (b - 1) else 0)) ||| (if b + 1 < n ∧ nf (b + 1) = nf b then 2 ^ (b + 1) else 0))) (nI (b + 1)) := by
  obtain ⟨o1, o2, -⟩ := or_64 M hM b (by omega)
  obtain ⟨o3, o4, -⟩ := or_64 (M ||| 2 ^ b) o2 (b - 1) (by omega)
  have key : ∀ (u : Bool), (u = true → b + 1 < n) → fB_wormyNext_b102 β m k (nI M) (nI b) (if d = true then 1 else 0) (if u = true then 1 else 0) = k (nI (((M ||| 2 ^ b) ||| (if d = true then 2 ^ (b - 1) else 0)) ||| (if u = true then 2 ^ (b + 1) else 0))) (nI (b + 1)) := by
    intro u hu
    unfold fB_wormyNext_b102 fB_wormyNext_b121 fB_wormyNext_b136 fB_wormyNext_b139
    cases d with
    | true =>
      have e1 : nI b - 1 = nI (b - 1) := nI_sub (a := b) (b := 1) (hd rfl)
      cases u with
      | true =>
        obtain ⟨o5, -, -⟩ := or_64 ((M ||| 2 ^ b) ||| 2 ^ (b - 1)) o4 (b + 1) (by have := hu rfl; omega)
        simp only [if_true, xi1]
        rw [e1, nI_1, ← Int32.or_assoc, ← Int32.or_assoc, o1, o3, o5]
      | false =>
        simp only [if_true, xi1, Bool.false_eq_true, if_false]
        rw [Int32.or_zero, e1, nI_1, ← Int32.or_assoc, o1, o3, Nat.or_zero]
    | false =>
      cases u with
      | true =>
        obtain ⟨o5, -, -⟩ := or_64 (M ||| 2 ^ b) o2 (b + 1) (by have := hu rfl; omega)
        simp only [if_true, xi1, Bool.false_eq_true, if_false]
        rw [Int32.or_zero, nI_1, ← Int32.or_assoc, o1, o5, Nat.or_zero]
      | false =>
        simp only [Bool.false_eq_true, if_false, if_true]
        rw [Int32.or_zero, Int32.or_zero, nI_1, o1, Nat.or_zero, Nat.or_zero]
  unfold fB_wormyNext_b60 fB_wormyNext_b101
  have g1 := key true
  have g0 := key false (fun z => absurd z (by decide))
  simp only [if_true, Bool.false_eq_true, if_false] at g1 g0
  rw [B_many, bnd, u0, nI_1]
  by_cases c : b + 1 < n
  · rw [if_neg (nI_ge c (by omega)), B_get (b := b + 1) (c := 5) (v2 := 5) hβ rfl rfl (by decide) (by omega), bnd, B_get (b := b) (c := 5) (v2 := 5) hβ rfl rfl (by decide) (by omega), bnd, hf _ c, hf _ hb]
    by_cases c2 : nf (b + 1) = nf b
    · rw [if_pos c2, if_pos (show b + 1 < n ∧ nf (b + 1) = nf b from ⟨c, c2⟩)]
      exact g1 (fun _ => c)
    · rw [if_neg c2, if_neg (show ¬ (b + 1 < n ∧ nf (b + 1) = nf b) from fun z => c2 z.2)]
      exact g0
  · rw [if_pos (nI_le (by omega) (by omega)), if_neg (show ¬ (b + 1 < n ∧ nf (b + 1) = nf b) from fun z => c z.1)]
    exact g0
theorem H_wn4 {β n : Nat} {m : xM} {wf nf : Nat → Int32} (hβ : β < 5) (hn : n ≤ 6) (u0 : m.1 36 (xtb β) = nI n) (hw : ∀ b, b < n → m.1 (xtb β) (b * 6 + 4) = wf b) (hf : ∀ b, b < n → m.1 (xtb β) (b * 6 + 5) = nf b) : ∀ (f b M : Nat), b ≤ n → n < b + f → M < 64 → ∃ K, K < 64 ∧ fB_wormyNext_l4 β m f (nI M) (nI b) = some (nI K) ∧ ∀ j, j < n → (hoB (nI K) j = true ↔ hoB (nI M) j = true ∨ ∃ i, b ≤ i ∧ i < n ∧ wf i = 1 ∧ (j = i ∨ (j + 1 = i ∧ nf j = nf i) ∨ (j = i + 1 ∧ nf j = nf i)))
  | 0, b, M, h1, h2, h3 => absurd h2 (by omega)
  | f + 1, b, M, h1, h2, h3 => by
    unfold fB_wormyNext_l4
    rw [B_many, bnd, u0]
    by_cases hb : b = n
    · subst hb
      rw [if_pos (nI_le (Nat.le_refl _) (by omega))]
      refine ⟨M, h3, rfl, fun j hj => ⟨Or.inl, fun z => ?_⟩⟩
      rcases z with z | ⟨i, i1, i2, -⟩
      · exact z
      · exact absurd i1 (by omega)
    · have hb' : b < n := by omega
      rw [if_neg (nI_ge hb' (by omega)), B_get (b := b) (c := 4) (v2 := 4) hβ rfl rfl (by decide) (by omega), bnd, hw b hb']
      by_cases c : wf b = 1
      · rw [if_pos c]
        obtain ⟨o1, o2, o2'⟩ := or_64 M h3 b (by omega)
        obtain ⟨o3, o4, o4'⟩ := or_64 (M ||| 2 ^ b) o2 (b - 1) (by omega)
        have main : ∀ d : Bool, (d = true ↔ 0 < b ∧ nf (b - 1) = nf b) → ∃ K, K < 64 ∧ fB_wormyNext_b60 β m (fB_wormyNext_l4 β m f) (nI M) (nI b) (if d = true then 1 else 0) = some (nI K) ∧ ∀ j, j < n → (hoB (nI K) j = true ↔ hoB (nI M) j = true ∨ ∃ i, b ≤ i ∧ i < n ∧ wf i = 1 ∧ (j = i ∨ (j + 1 = i ∧ nf j = nf i) ∨ (j = i + 1 ∧ nf j = nf i))) := by
          intro d hd
          rw [H_wn60 hβ hn u0 hf hb' h3 _ d (fun z => (hd.mp z).1)]
          have A : ((M ||| 2 ^ b) ||| (if d = true then 2 ^ (b - 1) else 0)) < 64 ∧ ∀ j, j < 6 → (hoB (nI ((M ||| 2 ^ b) ||| (if d = true then 2 ^ (b - 1) else 0))) j = true ↔ hoB (nI M) j = true ∨ j = b ∨ (d = true ∧ j = b - 1)) := by
            cases d with
            | true =>
              refine ⟨o4, fun j hj => ?_⟩
              rw [if_pos rfl, o4' j hj, o2' j hj]
              simp only [Bool.or_eq_true, beq_iff_eq, true_and, or_assoc]
            | false =>
              rw [if_neg (by decide), Nat.or_zero]
              refine ⟨o2, fun j hj => ?_⟩
              rw [o2' j hj]
              simp only [Bool.or_eq_true, beq_iff_eq, Bool.false_eq_true, false_and, or_false]
          revert A
          generalize ((M ||| 2 ^ b) ||| (if d = true then 2 ^ (b - 1) else 0)) = M1
          intro ⟨a1, a2⟩
          have A2 : (M1 ||| (if b + 1 < n ∧ nf (b + 1) = nf b then 2 ^ (b + 1) else 0)) < 64 ∧ ∀ j, j < 6 → (hoB (nI (M1 ||| (if b + 1 < n ∧ nf (b + 1) = nf b then 2 ^ (b + 1) else 0))) j = true ↔ hoB (nI M1) j = true ∨ ((b + 1 < n ∧ nf (b + 1) = nf b) ∧ j = b + 1)) := by
            by_cases q : b + 1 < n ∧ nf (b + 1) = nf b
            · obtain ⟨p1, p2, p3⟩ := or_64 M1 a1 (b + 1) (by omega)
              rw [if_pos q]
              refine ⟨p2, fun j hj => ?_⟩
              rw [p3 j hj]
              simp only [Bool.or_eq_true, beq_iff_eq, q, and_self, true_and]
            · rw [if_neg q, Nat.or_zero]
              refine ⟨a1, fun j hj => ⟨Or.inl, fun z => ?_⟩⟩
              rcases z with z | z
              · exact z
              · exact absurd z.1 q
          revert A2
          generalize (M1 ||| (if b + 1 < n ∧ nf (b + 1) = nf b then 2 ^ (b + 1) else 0)) = M2
          intro ⟨a3, a4⟩
          obtain ⟨K, k1, k2, k3⟩ := H_wn4 hβ hn u0 hw hf f (b + 1) M2 (by omega) (by omega) a3
          refine ⟨K, k1, k2, fun j hj => ?_⟩
          rw [k3 j hj, a4 j (by omega), a2 j (by omega)]
          constructor
          · rintro (((z | rfl | ⟨z1, rfl⟩) | ⟨z1, rfl⟩) | ⟨i, i1, i2, i3, i4⟩)
            · exact Or.inl z
            · exact Or.inr ⟨_, Nat.le_refl _, hb', c, Or.inl rfl⟩
            · obtain ⟨z2, z3⟩ := hd.mp z1
              exact Or.inr ⟨b, Nat.le_refl _, hb', c, Or.inr (Or.inl ⟨by omega, z3⟩)⟩
            · exact Or.inr ⟨b, Nat.le_refl _, hb', c, Or.inr (Or.inr ⟨rfl, z1.2⟩)⟩
            · exact Or.inr ⟨i, by omega, i2, i3, i4⟩
          · rintro (z | ⟨i, i1, i2, i3, i4⟩)
            · exact Or.inl (Or.inl (Or.inl z))
            · by_cases q : i = b
              · subst q
                rcases i4 with rfl | ⟨q1, q2⟩ | ⟨q1, q2⟩
                · exact Or.inl (Or.inl (Or.inr (Or.inl rfl)))
                · have ej : j = i - 1 := by omega
                  subst ej
                  exact Or.inl (Or.inl (Or.inr (Or.inr ⟨hd.mpr ⟨by omega, q2⟩, rfl⟩)))
                · subst q1
                  exact Or.inl (Or.inr ⟨⟨hj, q2⟩, rfl⟩)
              · exact Or.inr ⟨i, by omega, i2, i3, i4⟩
        have m0 := main false
        have m1 := main true
        simp only [if_true, Bool.false_eq_true, if_false] at m0 m1
        unfold fB_wormyNext_b59
        by_cases z : b = 0
        · subst z
          rw [if_pos (show nI 0 ≤ 0 by decide)]
          exact m0 ⟨fun q => q.elim, fun q => absurd q.1 (by decide)⟩
        · rw [if_neg (show ¬ nI b ≤ 0 from nI_ge (a := 0) (by omega) (by omega)), show nI b - 1 = nI (b - 1) from nI_sub (b := 1) (by omega), B_get (b := b - 1) (c := 5) (v2 := 5) hβ rfl rfl (by decide) (by omega), bnd, B_get (b := b) (c := 5) (v2 := 5) hβ rfl rfl (by decide) (by omega), bnd, hf _ hb', hf _ (by omega)]
          by_cases c2 : nf (b - 1) = nf b
          · rw [if_pos c2]
            exact m1 ⟨fun _ => ⟨by omega, c2⟩, fun _ => trivial⟩
          · rw [if_neg c2]
            exact m0 ⟨fun q => q.elim, fun q => absurd q.2 c2⟩
      · rw [if_neg c]
        unfold fB_wormyNext_b139
        obtain ⟨K, k1, k2, k3⟩ := H_wn4 hβ hn u0 hw hf f (b + 1) M (by omega) (by omega) h3
        rw [nI_1]
        refine ⟨K, k1, k2, fun j hj => ?_⟩
        rw [k3 j hj]
        constructor
        · rintro (z | ⟨i, i1, i2, i3, i4⟩)
          · exact Or.inl z
          · exact Or.inr ⟨i, by omega, i2, i3, i4⟩
        · rintro (z | ⟨i, i1, i2, i3, i4⟩)
          · exact Or.inl z
          · by_cases q : i = b
            · subst q
              exact absurd i3 c
            · exact Or.inr ⟨i, by omega, i2, i3, i4⟩
/-- the class's mask of the boards that have worm next -/
theorem H_wn {β n : Nat} {m : xM} {wf nf : Nat → Int32} (hβ : β < 5) (hn : n ≤ 6) (u0 : m.1 36 (xtb β) = nI n) (hw : ∀ b, b < n → m.1 (xtb β) (b * 6 + 4) = wf b) (hf : ∀ b, b < n → m.1 (xtb β) (b * 6 + 5) = nf b) : ∃ K, K < 64 ∧ fB_wormyNext β m = some (nI K) ∧ ∀ j, j < n → hoB (nI K) j = gE n wf nf j := by
  obtain ⟨K, k1, k2, k3⟩ := H_wn4 hβ hn u0 hw hf xfu 0 0 (by omega) (by show n < 0 + 100000; omega) (by decide)
  refine ⟨K, k1, k2, fun j hj => ?_⟩
  have e := k3 j hj
  rw [gE_iff hj] at e
  have e0 : hoB (nI 0) j = false := hoB_0 j (by omega)
  rw [e0] at e
  cases hg : gE n wf nf j with
  | true => exact e.mpr (Or.inr hg)
  | false =>
    cases hk : hoB (nI K) j with
    | true =>
      rcases e.mp hk with z | z
      · exact absurd z (by decide)
      · rw [hg] at z; exact absurd z (by decide)
    | false => rfl
/-- the class: all boards in a year -/
theorem H_py20 {β t1 n : Nat} {W K : Int32} (hβ : β < 5) (hn : n ≤ 6) : ∀ (f b : Nat) (m : xM), b ≤ n → n < b + f → m.1 36 (xtb β) = nI n → ∃ m', fB_passYear_l20 β t1 f W K (nI b) m = some m' ∧ (∀ b', b ≤ b' → b' < n → m'.1 (xtb β) (b' * 6 + 1) = xmin (m.1 (xtb β) (b' * 6 + 1) + 1) 99 ∧ m'.1 (xtb β) (b' * 6 + 2) = (if m.1 (xtb β) (b' * 6 + 5) = -1 then xmin (m.1 (xtb β) (b' * 6 + 2) + W) 9 else xmax (m.1 (xtb β) (b' * 6 + 2) - 1) 0) ∧ m'.1 (xtb β) (b' * 6 + 4) = (K >>> (nI b' &&& 31)) &&& 1) ∧ (∀ j i, j ≠ xtb β → (j ≠ 37 ∨ i ≠ β) → m'.1 j i = m.1 j i) ∧ (∀ i, (∀ b', b ≤ b' → b' < n → i ≠ b' * 6 + 1 ∧ i ≠ b' * 6 + 2 ∧ i ≠ b' * 6 + 4) → m'.1 (xtb β) i = m.1 (xtb β) i) ∧ m'.1 37 β = m.1 37 β + 1 ∧ m'.2 = m.2
  | 0, b, m, h1, h2, h3 => absurd h2 (by omega)
  | f + 1, b, m, h1, h2, h3 => by
    have hx := xtb_lt hβ
    unfold fB_passYear_l20
    rw [B_many, bnd, h3]
    by_cases hb : b = n
    · subst hb
      rw [if_pos (nI_le (Nat.le_refl _) (by omega))]
      exact ⟨_, rfl, fun b' q1 q2 => absurd q2 (by omega), fun j i q1 q2 => by rcases q2 with q2 | q2 <;> simp (disch := omega) only [xset_ne, xset_nj, xset_eq, Nat.add_zero], fun i _ => by simp (disch := omega) only [xset_ne, xset_nj, xset_eq, Nat.add_zero], by simp (disch := omega) only [xset_ne, xset_nj, xset_eq, Nat.add_zero], rfl⟩
    · have hb' : b < n := by omega
      rw [if_neg (nI_ge hb' (by omega)), B_get (b := b) (c := 1) (v2 := 1) hβ rfl rfl (by decide) (by omega), bnd, B_put (b := b) (c := 1) (v2 := 1) hβ rfl rfl (by decide) (by omega), bnd]
      have step : ∀ D : Int32, ∃ m', fB_passYear_b85 β t1 (fB_passYear_l20 β t1 f) W K (nI b) (xset (xset m (xtb β) (b * 6 + 1) (xmin (m.1 (xtb β) (b * 6 + 1) + 1) 99)) (xtb β) (b * 6 + 2) D) = some m' ∧ (∀ b', b ≤ b' → b' < n → m'.1 (xtb β) (b' * 6 + 1) = xmin (m.1 (xtb β) (b' * 6 + 1) + 1) 99 ∧ m'.1 (xtb β) (b' * 6 + 2) = (if b' = b then D else (if m.1 (xtb β) (b' * 6 + 5) = -1 then xmin (m.1 (xtb β) (b' * 6 + 2) + W) 9 else xmax (m.1 (xtb β) (b' * 6 + 2) - 1) 0)) ∧ m'.1 (xtb β) (b' * 6 + 4) = (K >>> (nI b' &&& 31)) &&& 1) ∧ (∀ j i, j ≠ xtb β → (j ≠ 37 ∨ i ≠ β) → m'.1 j i = m.1 j i) ∧ (∀ i, (∀ b', b ≤ b' → b' < n → i ≠ b' * 6 + 1 ∧ i ≠ b' * 6 + 2 ∧ i ≠ b' * 6 + 4) → m'.1 (xtb β) i = m.1 (xtb β) i) ∧ m'.1 37 β = m.1 37 β + 1 ∧ m'.2 = m.2 := by
        intro D
        unfold fB_passYear_b85
        rw [B_put (b := b) (c := 4) (v2 := 4) hβ rfl rfl (by decide) (by omega), bnd, nI_1]
        obtain ⟨m', g1, g2, g3, g4, g5, g6⟩ := H_py20 (t1 := t1) (W := W) (K := K) hβ hn f (b + 1) (xset (xset (xset m (xtb β) (b * 6 + 1) (xmin (m.1 (xtb β) (b * 6 + 1) + 1) 99)) (xtb β) (b * 6 + 2) D) (xtb β) (b * 6 + 4) ((K >>> (nI b &&& 31)) &&& 1)) (by omega) (by omega) (by simp (disch := omega) only [xset_ne, xset_nj, xset_eq, Nat.add_zero]; exact h3)
        refine ⟨m', g1, fun b' q1 q2 => ?_, fun j i q1 q2 => ?_, fun i q => ?_, ?_, g6⟩
        · by_cases e : b' = b
          · subst e
            rw [if_pos rfl, g4 _ (by omega), g4 _ (by omega), g4 _ (by omega)]
            simp (disch := omega) only [xset_ne, xset_nj, xset_eq, Nat.add_zero]
            exact ⟨trivial, trivial, trivial⟩
          · obtain ⟨p1, p2, p3⟩ := g2 b' (by omega) q2
            rw [if_neg e, p1, p2, p3]
            simp (disch := omega) only [xset_ne, xset_nj, xset_eq, Nat.add_zero]
            exact ⟨trivial, trivial, trivial⟩
        · rw [g3 j i q1 q2]
          simp (disch := omega) only [xset_ne, xset_nj, xset_eq, Nat.add_zero]
        · have qb := q b (Nat.le_refl _) hb'
          rw [g4 i (fun b' z1 z2 => q b' (by omega) z2)]
          simp (disch := omega) only [xset_ne, xset_nj, xset_eq, Nat.add_zero]
        · rw [g5]
          simp (disch := omega) only [xset_ne, xset_nj, xset_eq, Nat.add_zero]
      unfold fB_isFree
      rw [B_get (b := b) (c := 5) (v2 := 5) hβ rfl rfl (by decide) (by omega), bnd]
      unfold fB_lessDamp fB_moreDamp
      rw [B_get (b := b) (c := 2) (v2 := 2) hβ rfl rfl (by decide) (by omega)]
      simp only [bnd]
      rw [B_put (b := b) (c := 2) (v2 := 2) hβ rfl rfl (by decide) (by omega), B_put (b := b) (c := 2) (v2 := 2) hβ rfl rfl (by decide) (by omega)]
      simp only [bnd]
      have E2 : (xset m (xtb β) (b * 6 + 1) (xmin (m.1 (xtb β) (b * 6 + 1) + 1) 99)).1 (xtb β) (b * 6 + 2) = m.1 (xtb β) (b * 6 + 2) := by simp (disch := omega) only [xset_ne, xset_nj, xset_eq, Nat.add_zero]
      have E5 : (xset m (xtb β) (b * 6 + 1) (xmin (m.1 (xtb β) (b * 6 + 1) + 1) 99)).1 (xtb β) (b * 6 + 5) = m.1 (xtb β) (b * 6 + 5) := by simp (disch := omega) only [xset_ne, xset_nj, xset_eq, Nat.add_zero]
      rw [E2, E5, xnb_1, xnb_0]
      by_cases c : m.1 (xtb β) (b * 6 + 5) = -1
      · rw [if_pos c, bnd, xi1]
        obtain ⟨m', g1, g2, g3⟩ := step (xmin (m.1 (xtb β) (b * 6 + 2) + W) 9)
        refine ⟨m', g1, fun b' q1 q2 => ?_, g3⟩
        obtain ⟨p1, p2, p3⟩ := g2 b' q1 q2
        refine ⟨p1, ?_, p3⟩
        rw [p2]
        by_cases e : b' = b
        · subst e
          rw [if_pos rfl, if_pos c]
        · rw [if_neg e]
      · rw [if_neg c, bnd, xi0]
        obtain ⟨m', g1, g2, g3⟩ := step (xmax (m.1 (xtb β) (b * 6 + 2) - 1) 0)
        refine ⟨m', g1, fun b' q1 q2 => ?_, g3⟩
        obtain ⟨p1, p2, p3⟩ := g2 b' q1 q2
        refine ⟨p1, ?_, p3⟩
        rw [p2]
        by_cases e : b' = b
        · subst e
          rw [if_pos rfl, if_neg c]
        · rw [if_neg e]
