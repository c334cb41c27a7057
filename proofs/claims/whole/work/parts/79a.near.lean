/-! STEPS: together, orchestra -/
def nearB (a b : Nat) : Bool := decide (a ≤ b + 4) && decide (b ≤ a + 4)
theorem nearB_i {a b : Nat} : nearB a b = true ↔ a ≤ b + 4 ∧ b ≤ a + 4 := by
  unfold nearB
  rw [Bool.and_eq_true, decide_eq_true_eq, decide_eq_true_eq]
theorem nearB_comm {a b : Nat} : nearB a b = nearB b a := by
  unfold nearB
  rw [Bool.and_comm]
theorem nearB_self {a : Nat} : nearB a a = true := nearB_i.mpr ⟨by omega, by omega⟩
theorem near_N : ∀ c, c < 1001 → ((-4 : Int32) ≤ nI c ∧ nI c ≤ 4 ↔ c ≤ 4) ∧ ((-4 : Int32) ≤ -(nI c) ∧ -(nI c) ≤ 4 ↔ c ≤ 4) ∧ (4 < xabs (nI c) ↔ 4 < c) ∧ (4 < xabs (-(nI c)) ↔ 4 < c) := by decide +kernel
theorem near_sub {a b : Nat} (ha : a ≤ 1000) (hb : b ≤ 1000) : ((-4 : Int32) ≤ nI a - nI b ∧ nI a - nI b ≤ 4 ↔ nearB a b = true) ∧ (4 < xabs (nI a - nI b) ↔ ¬ nearB a b = true) := by
  rw [nearB_i]
  by_cases c : b ≤ a
  · obtain ⟨n1, n2, n3, n4⟩ := near_N (a - b) (by omega)
    rw [nI_sub c, n1, n3]
    constructor
    · omega
    · omega
  · obtain ⟨n1, n2, n3, n4⟩ := near_N (b - a) (by omega)
    rw [← Int32.neg_sub, nI_sub (by omega), n2, n4]
    constructor
    · omega
    · omega
def plM (ν : xM) (i s : Nat) : Nat := sdN (fM_playsIn ν 0 (nI i) (nI s))
theorem pl_eq {n k : Nat} {m ν : xM} (h : bE n k 0 0 m ν) (hI : ∀ i, i < k → m.1 3 i = ν.1 0 (44 + i)) {i s : Nat} (hi : i < k) (hs : s < 4) : plM ν i s ≤ 1000 ∧ fW_playOf 0 m (nI i) (nI s) = some (nI (plM ν i s)) ∧ fM_playsIn ν 0 (nI i) (nI s) = some (nI (plM ν i s)) := by
  obtain ⟨p, hp, e3, e4⟩ := play_both h hi hs (by rw [show 0 + 44 + i = 44 + i by omega]; exact hI i hi)
  have e4' : fM_playsIn ν 0 (nI i) (nI s) = some (nI p) := e4
  have e : plM ν i s = p := by
    unfold plM
    rw [e4']
    exact nI_clamp (by omega)
  rw [e]
  refine ⟨hp, ?_, e4'⟩
  unfold fW_playOf
  rw [e3]
  rfl
theorem H_like13 {n k : Nat} {m ν : xM} (h : bE n k 0 0 m ν) (u3 : m.1 36 3 = nI k) (hI : ∀ i, i < k → m.1 3 i = ν.1 0 (44 + i)) {s P : Nat} (hs : s < 4) (hP : P ≤ 1000) : ∀ (f b : Nat), b ≤ k → k < b + f → fW_likeOnes_l13 0 m f (nI s) (nI P) (nI (maskN b (fun j => nearB (plM ν j s) P))) (nI b) = some (nI (maskN k (fun j => nearB (plM ν j s) P)))
  | 0, b, h1, h2 => absurd h2 (by omega)
  | f + 1, b, h1, h2 => by
    have hk := h.2.2.2.1
    unfold fW_likeOnes_l13
    rw [T_many, bnd, show 7 * 0 + 3 = 3 from rfl, u3]
    by_cases hb : b = k
    · subst hb
      rw [if_pos (nI_le (Nat.le_refl _) (by omega))]
    · obtain ⟨p1, p2, p3⟩ := pl_eq h hI (i := b) (by omega) hs
      have ih := H_like13 h u3 hI hs hP f (b + 1) (by omega) (by omega)
      have E : maskN (b + 1) (fun j => nearB (plM ν j s) P) = maskN b (fun j => nearB (plM ν j s) P) + (if nearB (plM ν b s) P = true then 2 ^ b else 0) := rfl
      rw [if_neg (nI_ge (by omega) (by omega)), p2, bnd]
      unfold fW_likeOnes_b50
      rw [nI_1]
      have q := (near_sub p1 hP).2
      by_cases c : nearB (plM ν b s) P = true
      · rw [if_pos c] at E
        rw [if_neg (fun z => q.mp z c), or_bit b (by omega) _ (maskN_lt _ _), ← E]
        exact ih
      · rw [if_neg c] at E
        rw [if_pos (q.mpr c), ← E.trans (Nat.add_zero _)]
        exact ih
theorem H_like {n k : Nat} {m ν : xM} (h : bE n k 0 0 m ν) (u3 : m.1 36 3 = nI k) (hI : ∀ i, i < k → m.1 3 i = ν.1 0 (44 + i)) {i s : Nat} (hi : i < k) (hs : s < 4) : fW_likeOnes 0 m (nI i) (nI s) = some (nI (maskN k (fun j => nearB (plM ν j s) (plM ν i s)))) := by
  have hk := h.2.2.2.1
  obtain ⟨p1, p2, p3⟩ := pl_eq h hI hi hs
  unfold fW_likeOnes
  rw [p2, bnd]
  exact H_like13 h u3 hI hs p1 xfu 0 (by omega) (by show k < 0 + 100000; omega)
theorem M_near {n k : Nat} {m ν : xM} (h : bE n k 0 0 m ν) (hI : ∀ i, i < k → m.1 3 i = ν.1 0 (44 + i)) {i j s : Nat} (hi : i < k) (hj : j < k) (hs : s < 4) : fM_areNear ν (nI i) (nI j) (nI s) = some (if nearB (plM ν i s) (plM ν j s) = true then 1 else 0) := by
  obtain ⟨p1, p2, p3⟩ := pl_eq h hI hi hs
  obtain ⟨q1, q2, q3⟩ := pl_eq h hI hj hs
  unfold fM_areNear
  rw [p3, q3, bnd, bnd, fM_in_i (y := -4) (z := 4) (a := -4) (b := 4) rfl rfl, bnd, xnb_ite]
  have q := (near_sub p1 q1).1
  by_cases c : nearB (plM ν i s) (plM ν j s) = true
  · rw [if_pos c, if_pos (q.mpr c)]
  · rw [if_neg c, if_neg (fun z => c (q.mp z))]
theorem M_tog {n k : Nat} {m ν : xM} (h : bE n k 0 0 m ν) (w1 : ν.1 0 1 = nI k) (hI : ∀ i, i < k → m.1 3 i = ν.1 0 (44 + i)) {i s : Nat} (hi : i < k) (hs : s < 4) : ∀ (f b : Nat), b ≤ k → k < b + f → fM_together_l27 f (nI i) (nI s) (nI (maskN b (fun j => nearB (plM ν j s) (plM ν i s)))) (nI b) ν = some (nI (maskN k (fun j => nearB (plM ν j s) (plM ν i s))), ν)
  | 0, b, h1, h2 => absurd h2 (by omega)
  | f + 1, b, h1, h2 => by
    have hk := h.2.2.2.1
    unfold fM_together_l27
    rw [xk1, xl1, w1]
    by_cases hb : b = k
    · subst hb
      rw [if_pos (nI_le (Nat.le_refl _) (by omega))]
    · have ih := M_tog h w1 hI hi hs f (b + 1) (by omega) (by omega)
      have E : maskN (b + 1) (fun j => nearB (plM ν j s) (plM ν i s)) = maskN b (fun j => nearB (plM ν j s) (plM ν i s)) + (if nearB (plM ν b s) (plM ν i s) = true then 2 ^ b else 0) := rfl
      rw [if_neg (nI_ge (by omega) (by omega)), M_near h hI hi (by omega) hs, bnd, nearB_comm]
      unfold fM_together_b58
      rw [nI_1]
      by_cases c : nearB (plM ν b s) (plM ν i s) = true
      · rw [if_pos c] at E
        rw [if_pos c, xi1, or_bit b (by omega) _ (maskN_lt _ _), ← E]
        exact ih
      · rw [if_neg c] at E
        rw [if_neg c, xi0, Int32.or_zero, ← E.trans (Nat.add_zero _)]
        exact ih
theorem st_together {μ ν : xM} (h : xRel μ ν) (v1 : Int32) (v2 : Int32) : ∃ (r : Int32) (μ2 ν2 : xM), (fH_together v1 v2 μ = some (r, μ2)) ∧ (fM_together v1 v2 ν = some (r, ν2)) ∧ xRel μ2 ν2 := by
  unfold fH_together fM_together
  obtain ⟨n, k, y, hh, a, q, u, B, U, W, hC, hW, hI, hH, hN, hM, hP⟩ := rel_op h
  obtain ⟨b1, b2, b3, b4, b5, b6, b7⟩ := id B
  obtain ⟨u0, u1, u2, u3, u4, u5, u6, uy⟩ := U
  obtain ⟨w0, w1, w2, w3, w4, w5, w6⟩ := W
  rcases xin (Nat.le_trans b2 (by decide)) u3 w1 v1 with ⟨i, hi, rfl, e1, e2⟩ | ⟨e1, e2⟩
  · rw [e1, e2, bnd, bnd, xi1, xi1, xsgb, xsmb]
    by_cases c1 : 0 ≤ v2 ∧ v2 ≤ 3
    · rw [if_pos c1, if_pos c1]
      obtain ⟨s, hs, rfl⟩ := nI_of2 (M := 3) (n := 3) rfl (Int32.not_lt.mpr c1.1) c1.2
      have hE := bE_0 b1 b2 u0 w0 hC
      refine ⟨nI (maskN k (fun j => nearB (plM ν j s) (plM ν i s))), μ, ν, ?_, ?_, h⟩
      · rw [H_like hE u3 hI hi (by omega)]
        rfl
      · exact M_tog hE w1 hI hi (by omega) xfu 0 (by omega) (by show k < 0 + 100000; omega)
    · rw [if_neg c1, if_neg c1]
      exact ⟨-2, _, _, rfl, rfl, rel_bad h⟩
  · rw [e1, e2, bnd, bnd, xi0, xi0]
    exact ⟨-2, _, _, rfl, rfl, rel_bad h⟩
