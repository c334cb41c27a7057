/-! BASE: the reference's year -/
def clp (x : Int32) : Int32 := if x ≤ 9 then (if 0 ≤ x then x else 0) else 9
def ag1 (x : Int32) : Int32 := if 99 ≤ x then x + 0 else x + 1
theorem ixR {R c b : Nat} {v : Int32} (h : v = nI c) : nI R + v + nI b = nI (R + c + b) := by rw [h, nI_add, nI_add]
theorem M_ps267 {R n b : Nat} {m : xM} {wf : Nat → Int32} (hR : R ≤ 1704) (hn : n ≤ 6) (hb : b < n) (hw : m.1 0 (R + 32 + b) = wf b) (k : Int32 → Int32 → Int32 → xM → Option xM) (M : Int32) (l r : Bool) : fM_passes_b267 k (nI R) M (nI b) (if l = true then 1 else 0) (if r = true then 1 else 0) m = k (nI R) (M ||| (if (l || r || (wf b == 1)) = true then (1 : Int32) <<< (nI b &&& 31) else 0)) (nI (b + 1)) m := by
  unfold fM_passes_b267 fM_passes_b295 fM_passes_b302
  rw [nI_1, ixR (c := 32) (v := 32) rfl, xck_nI (by omega) (by decide), nI_clamp (by omega), hw]
  cases l with
  | true => simp only [if_true, xi1, Bool.true_or]
  | false =>
    cases r with
    | true => simp only [if_true, xi1, Bool.true_or, Bool.or_true, Bool.false_eq_true, if_false]
    | false =>
      simp only [if_true, Bool.false_eq_true, if_false, Bool.false_or, beq_iff_eq]
      by_cases c : wf b = 1
      · rw [if_pos c, if_pos c]
      · rw [if_neg c, if_neg c]
theorem M_ps202 {R n b : Nat} {m : xM} {wf nf : Nat → Int32} (hR : R ≤ 1704) (hn : n ≤ 6) (hb : b < n) (w0 : m.1 0 R = nI n) (hw : ∀ b, b < n → m.1 0 (R + 32 + b) = wf b) (hf : ∀ b, b < n → m.1 0 (R + 38 + b) = nf b) (k : Int32 → Int32 → Int32 → xM → Option xM) (M : Int32) (l : Bool) : fM_passes_b202 k (nI R) M (nI b) (if l = true then 1 else 0) m = k (nI R) (M ||| (if (l || (decide (b + 1 < n) && (wf (b + 1) == 1) && (nf (b + 1) == nf b)) || (wf b == 1)) = true then (1 : Int32) <<< (nI b &&& 31) else 0)) (nI (b + 1)) m := by
  unfold fM_passes_b202 fM_passes_b266
  have g0 := M_ps267 hR hn hb (hw b hb) k M l false
  have g1 := M_ps267 hR hn hb (hw b hb) k M l true
  simp only [if_true, Bool.false_eq_true, if_false] at g0 g1
  rw [show nI R + 0 = nI (R + 0) from nI_add R 0, Nat.add_zero R, ixR (c := 32) (v := 32) rfl, ixR (c := 38) (v := 38) rfl, nI_1, nI_1, nI_1, xck_nI (by omega) (by decide), nI_clamp (by omega), w0]
  by_cases c : b + 1 < n
  · rw [if_neg (nI_ge c (by omega)), xck_nI (by omega) (by decide), xck_nI (by omega) (by decide), xck_nI (by omega) (by decide), nI_clamp (by omega), nI_clamp (by omega), nI_clamp (by omega), hf b hb, show R + 32 + b + 1 = R + 32 + (b + 1) by omega, show R + 38 + b + 1 = R + 38 + (b + 1) by omega, hw _ c, hf _ c]
    by_cases c2 : wf (b + 1) = 1
    · rw [if_pos c2]
      by_cases c3 : nf (b + 1) = nf b
      · rw [if_pos c3, g1, decide_eq_true c, beq_iff_eq.mpr c2, beq_iff_eq.mpr c3]
        rfl
      · rw [if_neg c3, g0, beq_false_of_ne c3, Bool.and_false]
    · rw [if_neg c2, g0, beq_false_of_ne c2, Bool.and_false, Bool.false_and]
  · rw [if_pos (nI_le (by omega) (by omega)), g0, decide_eq_false c, Bool.false_and, Bool.false_and]
theorem M_ps147 {R n b : Nat} {m : xM} {wf nf : Nat → Int32} {s0 s1 : Int32} (hR : R ≤ 1704) (hn : n ≤ 6) (hb : b < n) (w0 : m.1 0 R = nI n) (hw : ∀ b, b < n → m.1 0 (R + 32 + b) = wf b) (hf : ∀ b, b < n → m.1 0 (R + 38 + b) = nf b) (k : Int32 → Int32 → Int32 → xM → Option xM) (M : Int32) : fM_passes_b147 k (nI R) M (nI b) s0 s1 (nI (R + 14 + b)) m = k (nI R) (M ||| (if gE n wf nf b = true then (1 : Int32) <<< (nI b &&& 31) else 0)) (nI (b + 1)) (xset m 0 (R + 14 + b) (s1 + s0)) := by
  unfold fM_passes_b147 fM_passes_b201
  rw [xck_nI (by omega) (by decide), nI_clamp (by omega)]
  have w0' : (xset m 0 (R + 14 + b) (s1 + s0)).1 0 R = nI n := by simp (disch := omega) only [xset_ne, xset_nj, xset_eq, Nat.add_zero]; exact w0
  have hw' : ∀ b', b' < n → (xset m 0 (R + 14 + b) (s1 + s0)).1 0 (R + 32 + b') = wf b' := fun b' h => by simp (disch := omega) only [xset_ne, xset_nj, xset_eq, Nat.add_zero]; exact hw b' h
  have hf' : ∀ b', b' < n → (xset m 0 (R + 14 + b) (s1 + s0)).1 0 (R + 38 + b') = nf b' := fun b' h => by simp (disch := omega) only [xset_ne, xset_nj, xset_eq, Nat.add_zero]; exact hf b' h
  revert w0' hw' hf'
  generalize xset m 0 (R + 14 + b) (s1 + s0) = m2
  intro w0' hw' hf'
  have g0 := M_ps202 hR hn hb w0' hw' hf' k M false
  have g1 := M_ps202 hR hn hb w0' hw' hf' k M true
  simp only [if_true, Bool.false_eq_true, if_false] at g0 g1
  unfold gE
  by_cases z : b = 0
  · subst z
    rw [if_pos (show nI 0 ≤ 0 by decide), g0, decide_eq_false (show ¬ 0 < 0 by decide), Bool.false_and, Bool.false_and]
  · rw [if_neg (show ¬ nI b ≤ 0 from nI_ge (a := 0) (by omega) (by omega)), ixR (c := 32) (v := 32) rfl, ixR (c := 38) (v := 38) rfl, show nI (R + 32 + b) - 1 = nI (R + 32 + b - 1) from nI_sub (b := 1) (by omega), show nI (R + 38 + b) - 1 = nI (R + 38 + b - 1) from nI_sub (b := 1) (by omega), xck_nI (by omega) (by decide), xck_nI (by omega) (by decide), xck_nI (by omega) (by decide), nI_clamp (by omega), nI_clamp (by omega), nI_clamp (by omega), hf' b hb, show R + 32 + b - 1 = R + 32 + (b - 1) by omega, show R + 38 + b - 1 = R + 38 + (b - 1) by omega, hw' _ (by omega), hf' _ (by omega), decide_eq_true (show 0 < b by omega)]
    by_cases c2 : wf (b - 1) = 1
    · rw [if_pos c2, beq_iff_eq.mpr c2]
      by_cases c3 : nf (b - 1) = nf b
      · rw [if_pos c3, g1, beq_iff_eq.mpr c3]
        rfl
      · rw [if_neg c3, g0, beq_false_of_ne c3]
        rfl
    · rw [if_neg c2, g0, beq_false_of_ne c2]
      rfl
theorem M_ps78 {R n b : Nat} {m : xM} {wf nf : Nat → Int32} {s0 : Int32} (hR : R ≤ 1704) (hn : n ≤ 6) (hb : b < n) (w0 : m.1 0 R = nI n) (hw : ∀ b, b < n → m.1 0 (R + 32 + b) = wf b) (hf : ∀ b, b < n → m.1 0 (R + 38 + b) = nf b) (k : Int32 → Int32 → Int32 → xM → Option xM) (M : Int32) : fM_passes_b78 k (nI R) M (nI b) s0 m = k (nI R) (M ||| (if gE n wf nf b = true then (1 : Int32) <<< (nI b &&& 31) else 0)) (nI (b + 1)) (xset (xset m 0 (R + 20 + b) (clp s0)) 0 (R + 14 + b) (ag1 (m.1 0 (R + 14 + b)))) := by
  have key : ∀ x : Int32, fM_passes_b113 k (nI R) M (nI b) x (nI (R + 20 + b)) m = k (nI R) (M ||| (if gE n wf nf b = true then (1 : Int32) <<< (nI b &&& 31) else 0)) (nI (b + 1)) (xset (xset m 0 (R + 20 + b) x) 0 (R + 14 + b) (ag1 (m.1 0 (R + 14 + b)))) := by
    intro x
    unfold fM_passes_b113 ag1
    have w0' : (xset m 0 (R + 20 + b) x).1 0 R = nI n := by simp (disch := omega) only [xset_ne, xset_nj, xset_eq, Nat.add_zero]; exact w0
    have hw' : ∀ b', b' < n → (xset m 0 (R + 20 + b) x).1 0 (R + 32 + b') = wf b' := fun b' h => by simp (disch := omega) only [xset_ne, xset_nj, xset_eq, Nat.add_zero]; exact hw b' h
    have hf' : ∀ b', b' < n → (xset m 0 (R + 20 + b) x).1 0 (R + 38 + b') = nf b' := fun b' h => by simp (disch := omega) only [xset_ne, xset_nj, xset_eq, Nat.add_zero]; exact hf b' h
    have ea : (xset m 0 (R + 20 + b) x).1 0 (R + 14 + b) = m.1 0 (R + 14 + b) := by simp (disch := omega) only [xset_ne, xset_nj, xset_eq, Nat.add_zero]
    rw [ixR (c := 14) (v := 14) rfl, xck_nI (by omega) (by decide), xck_nI (by omega) (by decide), xck_nI (by omega) (by decide), nI_clamp (by omega), nI_clamp (by omega), ea, M_ps147 hR hn hb w0' hw' hf', M_ps147 hR hn hb w0' hw' hf']
    by_cases c : 99 ≤ m.1 0 (R + 14 + b)
    · rw [if_pos c, if_pos c]
    · rw [if_neg c, if_neg c]
  unfold fM_passes_b78 clp
  rw [ixR (c := 20) (v := 20) rfl, key, key, key]
  by_cases c : s0 ≤ 9
  · rw [if_pos c, if_pos c]
    by_cases c2 : 0 ≤ s0
    · rw [if_pos c2, if_pos c2]
    · rw [if_neg c2, if_neg c2]
  · rw [if_neg c, if_neg c]
theorem M_ps4 {R n y : Nat} {wf nf : Nat → Int32} (hR : R ≤ 1704) (hn : n ≤ 6) (hy : y < 2 ^ 31) : ∀ (f b : Nat) (m : xM), b ≤ n → n < b + f → m.1 0 R = nI n → m.1 0 (R + 2) = nI y → (∀ b, b < n → m.1 0 (R + 32 + b) = wf b) → (∀ b, b < n → m.1 0 (R + 38 + b) = nf b) → ∃ m', fM_passes_l4 f (nI R) (nI (maskN b (gE n wf nf))) (nI b) m = fM_passes_l312 xfu (nI R) (nI (maskN n (gE n wf nf))) 0 m' ∧ (∀ b', b ≤ b' → b' < n → m'.1 0 (R + 20 + b') = clp (if nf b' = -1 then m.1 0 (R + 20 + b') + m.1 0 (R + 3 + y % 5) else m.1 0 (R + 20 + b') - 1) ∧ m'.1 0 (R + 14 + b') = ag1 (m.1 0 (R + 14 + b'))) ∧ (∀ j i, (j ≠ 0 ∨ ¬ (R + 14 + b ≤ i ∧ i < R + 14 + n ∨ R + 20 + b ≤ i ∧ i < R + 20 + n)) → m'.1 j i = m.1 j i) ∧ m'.2 = m.2
  | 0, b, m, h1, h2, w0, w2, hw, hf => absurd h2 (by omega)
  | f + 1, b, m, h1, h2, w0, w2, hw, hf => by
    unfold fM_passes_l4
    rw [show nI R + 0 = nI (R + 0) from nI_add R 0, Nat.add_zero R, xck_nI (by omega) (by decide), nI_clamp (by omega), w0]
    by_cases hb : b = n
    · subst hb
      rw [if_pos (nI_le (Nat.le_refl _) (by omega))]
      exact ⟨m, rfl, fun b' q1 q2 => absurd q2 (by omega), fun _ _ _ => rfl, rfl⟩
    · have hb' : b < n := by omega
      have h5 : y % 5 < 5 := Nat.mod_lt _ (by decide)
      have E : maskN (b + 1) (gE n wf nf) = maskN b (gE n wf nf) + (if gE n wf nf b = true then 2 ^ b else 0) := rfl
      have em : (nI (maskN b (gE n wf nf)) ||| (if gE n wf nf b = true then (1 : Int32) <<< (nI b &&& 31) else 0)) = nI (maskN (b + 1) (gE n wf nf)) := by
        rw [E]
        by_cases c : gE n wf nf b = true
        · rw [if_pos c, if_pos c, or_bit b (by omega) _ (maskN_lt _ _)]
        · rw [if_neg c, if_neg c, Int32.or_zero, Nat.add_zero]
      have e2 : nI R + 2 = nI (R + 2) := nI_add R 2
      have em5 : nI R + 3 + nI (y % 5) = nI (R + 3 + y % 5) := ixR rfl
      rw [if_neg (nI_ge hb' (by omega)), ixR (c := 38) (v := 38) rfl, ixR (c := 20) (v := 20) rfl, e2, xck_nI (by omega) (by decide), xck_nI (by omega) (by decide), xck_nI (by omega) (by decide), nI_clamp (by omega), nI_clamp (by omega), nI_clamp (by omega), w2, show (5 : Int32) = nI 5 from rfl, nI_mod hy (by decide), em5, xck_nI (by omega) (by decide), nI_clamp (by omega), hf b hb', M_ps78 hR hn hb' w0 hw hf, M_ps78 hR hn hb' w0 hw hf, em]
      have step : ∀ D : Int32, ∃ m', fM_passes_l4 f (nI R) (nI (maskN (b + 1) (gE n wf nf))) (nI (b + 1)) (xset (xset m 0 (R + 20 + b) D) 0 (R + 14 + b) (ag1 (m.1 0 (R + 14 + b)))) = fM_passes_l312 xfu (nI R) (nI (maskN n (gE n wf nf))) 0 m' ∧ (∀ b', b ≤ b' → b' < n → m'.1 0 (R + 20 + b') = (if b' = b then D else clp (if nf b' = -1 then m.1 0 (R + 20 + b') + m.1 0 (R + 3 + y % 5) else m.1 0 (R + 20 + b') - 1)) ∧ m'.1 0 (R + 14 + b') = ag1 (m.1 0 (R + 14 + b'))) ∧ (∀ j i, (j ≠ 0 ∨ ¬ (R + 14 + b ≤ i ∧ i < R + 14 + n ∨ R + 20 + b ≤ i ∧ i < R + 20 + n)) → m'.1 j i = m.1 j i) ∧ m'.2 = m.2 := by
        intro D
        obtain ⟨m', g1, g2, g3, g4⟩ := M_ps4 (wf := wf) (nf := nf) hR hn hy f (b + 1) (xset (xset m 0 (R + 20 + b) D) 0 (R + 14 + b) (ag1 (m.1 0 (R + 14 + b)))) (by omega) (by omega) (by simp (disch := omega) only [xset_ne, xset_nj, xset_eq, Nat.add_zero]; exact w0) (by simp (disch := omega) only [xset_ne, xset_nj, xset_eq, Nat.add_zero]; exact w2) (fun b' h => by simp (disch := omega) only [xset_ne, xset_nj, xset_eq, Nat.add_zero]; exact hw b' h) (fun b' h => by simp (disch := omega) only [xset_ne, xset_nj, xset_eq, Nat.add_zero]; exact hf b' h)
        refine ⟨m', g1, fun b' q1 q2 => ?_, fun j i q => ?_, g4⟩
        · by_cases e : b' = b
          · subst e
            rw [if_pos rfl, g3 0 _ (by omega), g3 0 _ (by omega)]
            simp (disch := omega) only [xset_ne, xset_nj, xset_eq, Nat.add_zero]
            exact ⟨trivial, trivial⟩
          · obtain ⟨p1, p2⟩ := g2 b' (by omega) q2
            rw [if_neg e, p1, p2]
            simp (disch := omega) only [xset_ne, xset_nj, xset_eq, Nat.add_zero]
            exact ⟨trivial, trivial⟩
        · rw [g3 j i (by omega)]
          by_cases q0 : j = 0
          · subst q0
            simp (disch := omega) only [xset_ne, xset_nj, xset_eq, Nat.add_zero]
          · simp (disch := omega) only [xset_ne, xset_nj, xset_eq, Nat.add_zero]
      by_cases c : nf b = -1
      · rw [if_pos c]
        obtain ⟨m', g1, g2, g3⟩ := step (clp (m.1 0 (R + 20 + b) + m.1 0 (R + 3 + y % 5)))
        refine ⟨m', g1, fun b' q1 q2 => ?_, g3⟩
        obtain ⟨p1, p2⟩ := g2 b' q1 q2
        refine ⟨?_, p2⟩
        rw [p1]
        by_cases e : b' = b
        · subst e
          rw [if_pos rfl, if_pos c]
        · rw [if_neg e]
      · rw [if_neg c, xck_nI (by omega) (by decide)]
        obtain ⟨m', g1, g2, g3⟩ := step (clp (m.1 0 (R + 20 + b) - 1))
        refine ⟨m', g1, fun b' q1 q2 => ?_, g3⟩
        obtain ⟨p1, p2⟩ := g2 b' q1 q2
        refine ⟨?_, p2⟩
        rw [p1]
        by_cases e : b' = b
        · subst e
          rw [if_pos rfl, if_neg c]
        · rw [if_neg e]
theorem M_ps312 {R n : Nat} {K : Int32} (hR : R ≤ 1704) (hn : n ≤ 6) : ∀ (f b : Nat) (m : xM), b ≤ n → n < b + f → m.1 0 R = nI n → ∃ m', fM_passes_l312 f (nI R) K (nI b) m = some m' ∧ (∀ b', b ≤ b' → b' < n → m'.1 0 (R + 32 + b') = (K >>> (nI b' &&& 31)) &&& 1) ∧ m'.1 0 (R + 2) = m.1 0 (R + 2) + 1 ∧ (∀ j i, (j ≠ 0 ∨ (i ≠ R + 2 ∧ ¬ (R + 32 + b ≤ i ∧ i < R + 32 + n))) → m'.1 j i = m.1 j i) ∧ m'.2 = m.2
  | 0, b, m, h1, h2, w0 => absurd h2 (by omega)
  | f + 1, b, m, h1, h2, w0 => by
    unfold fM_passes_l312
    rw [show nI R + 0 = nI (R + 0) from nI_add R 0, Nat.add_zero R, xck_nI (by omega) (by decide), nI_clamp (by omega), w0]
    by_cases hb : b = n
    · subst hb
      rw [if_pos (nI_le (Nat.le_refl _) (by omega)), show nI R + 2 = nI (R + 2) from nI_add R 2, xck_nI (by omega) (by decide), xck_nI (by omega) (by decide), nI_clamp (by omega)]
      refine ⟨_, rfl, fun b' q1 q2 => absurd q2 (by omega), by simp (disch := omega) only [xset_ne, xset_nj, xset_eq, Nat.add_zero], fun j i q => ?_, rfl⟩
      by_cases q0 : j = 0
      · subst q0
        simp (disch := omega) only [xset_ne, xset_nj, xset_eq, Nat.add_zero]
      · simp (disch := omega) only [xset_ne, xset_nj, xset_eq, Nat.add_zero]
    · have hb' : b < n := by omega
      rw [if_neg (nI_ge hb' (by omega)), ixR (c := 32) (v := 32) rfl, xck_nI (by omega) (by decide), nI_clamp (by omega), nI_1]
      obtain ⟨m', g1, g2, g3, g4, g5⟩ := M_ps312 (K := K) hR hn f (b + 1) (xset m 0 (R + 32 + b) ((K >>> (nI b &&& 31)) &&& 1)) (by omega) (by omega) (by simp (disch := omega) only [xset_ne, xset_nj, xset_eq, Nat.add_zero]; exact w0)
      refine ⟨m', g1, fun b' q1 q2 => ?_, ?_, fun j i q => ?_, g5⟩
      · by_cases e : b' = b
        · subst e
          rw [g4 0 _ (by omega)]
          simp (disch := omega) only [xset_ne, xset_nj, xset_eq, Nat.add_zero]
        · exact g2 b' (by omega) q2
      · rw [g3]
        simp (disch := omega) only [xset_ne, xset_nj, xset_eq, Nat.add_zero]
      · rw [g4 j i (by omega)]
        by_cases q0 : j = 0
        · subst q0
          simp (disch := omega) only [xset_ne, xset_nj, xset_eq, Nat.add_zero]
        · simp (disch := omega) only [xset_ne, xset_nj, xset_eq, Nat.add_zero]
theorem age_N : ∀ a, a < 100 → xmin (nI a + 1) 99 = nI (min (a + 1) 99) ∧ ag1 (nI a) = nI (min (a + 1) 99) := by decide +kernel
theorem dampF_N : ∀ d, d < 10 → ∀ w, w < 5 → xmin (nI d + nI w) 9 = nI (min (d + w) 9) ∧ clp (nI d + nI w) = nI (min (d + w) 9) := by decide +kernel
theorem dampI_N : ∀ d, d < 10 → xmax (nI d - 1) 0 = nI (d - 1) ∧ clp (nI d - 1) = nI (d - 1) := by decide +kernel
theorem xtb_ne : ∀ b, b < 5 → xtb b ≠ 36 ∧ xtb b ≠ 37 ∧ xtb b ≠ 2 ∧ xtb b ≠ 3 ∧ xtb b ≠ 23 ∧ xtb b ≠ 24 ∧ xtb b ≠ 29 ∧ xtb b ≠ 38 := by decide +kernel
/-- a year of boards β of the class, by wets t1, and of region R of the reference -/
theorem pass_both {n k β R y t1 : Nat} {m ν : xM} (h : bE n k β R m ν) (hy : y < 2000) (ym : m.1 37 β = nI y) (yv : ν.1 0 (R + 2) = nI y) (ht : t1 = 2 ∨ t1 = 23) (hW : ∀ j, j < 5 → m.1 t1 j = ν.1 0 (R + 3 + j) ∧ ∃ x, x ≤ 4 ∧ m.1 t1 j = nI x) : ∃ m' ν', fB_passYear β t1 m = some m' ∧ fM_passes (nI R) ν = some ν' ∧ bE n k β R m' ν' ∧ m'.1 37 β = nI (y + 1) ∧ ν'.1 0 (R + 2) = nI (y + 1) ∧ (∀ j i, j ≠ xtb β → (j ≠ 37 ∨ i ≠ β) → m'.1 j i = m.1 j i) ∧ m'.2 = m.2 ∧ (∀ j i, (j ≠ 0 ∨ (i ≠ R + 2 ∧ ¬ (R + 14 ≤ i ∧ i < R + 38))) → ν'.1 j i = ν.1 j i) ∧ ν'.2 = ν.2 := by
  obtain ⟨hβ, hR, hn, hk, u0, w0, hE, hV⟩ := id h
  obtain ⟨z1, z2, z3, -, z4, -⟩ := xtb_ne β hβ
  have hx := xtb_lt hβ
  have h5 : y % 5 < 5 := Nat.mod_lt _ (by decide)
  obtain ⟨eW, W, hWx, eWx⟩ := hW (y % 5) h5
  obtain ⟨K, hK, k1, k2⟩ := H_wn (wf := fun b => m.1 (xtb β) (b * 6 + 4)) (nf := fun b => m.1 (xtb β) (b * 6 + 5)) hβ hn u0 (fun _ _ => rfl) (fun _ _ => rfl)
  obtain ⟨m', p1, p2, p3, p4, p5, p6⟩ := H_py20 (t1 := t1) (W := nI W) (K := nI K) hβ hn xfu 0 m (by omega) (by show n < 0 + 100000; omega) u0
  have cw : ∀ b c, b < n → c < 6 → ν.1 0 (R + 8 + 6 * c + b) = m.1 (xtb β) (b * 6 + c) := fun b c hb hc => (hE b c hb hc).symm
  obtain ⟨ν1, q1, q2, q3, q4⟩ := M_ps4 (wf := fun b => m.1 (xtb β) (b * 6 + 4)) (nf := fun b => m.1 (xtb β) (b * 6 + 5)) hR hn (y := y) (by omega) xfu 0 ν (by omega) (by show n < 0 + 100000; omega) w0 yv (fun b hb => by rw [show R + 32 + b = R + 8 + 6 * 4 + b by omega]; exact cw b 4 hb (by decide)) (fun b hb => by rw [show R + 38 + b = R + 8 + 6 * 5 + b by omega]; exact cw b 5 hb (by decide))
  obtain ⟨ν2, r1, r2, r3, r4, r5⟩ := M_ps312 (K := nI (maskN n (gE n (fun b => m.1 (xtb β) (b * 6 + 4)) (fun b => m.1 (xtb β) (b * 6 + 5))))) hR hn xfu 0 ν1 (by omega) (by show n < 0 + 100000; omega) (by rw [q3 0 _ (by omega)]; exact w0)
  have e1 : fB_passYear β t1 m = some m' := by
    unfold fB_passYear
    have g : fT_get t1 m (nI (y % 5)) 0 = some (nI W) := by
      rcases ht with rfl | rfl
      · rw [T_get (t := 2) (r := y % 5) (c := 0) (v2 := 0) (by decide) rfl rfl (by decide) (by show y % 5 < 5; omega), show y % 5 * wN 2 + 0 = y % 5 by show y % 5 * 1 + 0 = _; omega, eWx]
      · rw [T_get (t := 23) (r := y % 5) (c := 0) (v2 := 0) (by decide) rfl rfl (by decide) (by show y % 5 < 5; omega), show y % 5 * wN 23 + 0 = y % 5 by show y % 5 * 1 + 0 = _; omega, eWx]
    rw [ym, show (5 : Int32) = nI 5 from rfl, nI_mod (by omega) (by decide), g, bnd, k1, bnd]
    exact p1
  have e2 : fM_passes (nI R) ν = some ν2 := q1.trans r1
  -- the boards then
  have cell : ∀ b, b < n → ∀ c, c < 6 → m'.1 (xtb β) (b * 6 + c) = ν2.1 0 (R + 8 + 6 * c + b) ∧ (c = 0 ∨ c = 3 ∨ c = 5 → m'.1 (xtb β) (b * 6 + c) = m.1 (xtb β) (b * 6 + c)) ∧ (c = 1 → ∃ x, x ≤ 99 ∧ m'.1 (xtb β) (b * 6 + c) = nI x) ∧ (c = 2 → ∃ x, x ≤ 9 ∧ m'.1 (xtb β) (b * 6 + c) = nI x) ∧ (c = 4 → m'.1 (xtb β) (b * 6 + c) = 0 ∨ m'.1 (xtb β) (b * 6 + c) = 1) := by
    intro b hb c hc
    obtain ⟨-, ⟨a, ha, ea⟩, ⟨d, hd, ed⟩, -, ew, -⟩ := hV.1 b hb
    have ea : m.1 (xtb β) (b * 6 + 1) = nI a := ea
    have ed : m.1 (xtb β) (b * 6 + 2) = nI d := ed
    obtain ⟨s1, s2, s3⟩ := p2 b (by omega) hb
    obtain ⟨t1, t2⟩ := q2 b (by omega) hb
    have same : ∀ c, c = 0 ∨ c = 3 ∨ c = 5 → m'.1 (xtb β) (b * 6 + c) = m.1 (xtb β) (b * 6 + c) := fun c hc => p4 _ (fun b' _ _ => by omega)
    have sameM : ∀ c, c = 0 ∨ c = 3 ∨ c = 5 → ν2.1 0 (R + 8 + 6 * c + b) = m.1 (xtb β) (b * 6 + c) := fun c hc => by
      rw [r4 0 _ (by omega), q3 0 _ (by omega)]
      exact cw b c hb (by omega)
    rcases (show (c = 0 ∨ c = 3 ∨ c = 5) ∨ c = 1 ∨ c = 2 ∨ c = 4 by omega) with hc | rfl | rfl | rfl
    · exact ⟨(same c hc).trans (sameM c hc).symm, fun _ => same c hc, fun z => by omega, fun z => by omega, fun z => by omega⟩
    · obtain ⟨n1, n2⟩ := age_N a (by omega)
      have l : m'.1 (xtb β) (b * 6 + 1) = nI (min (a + 1) 99) := by rw [s1, ea, n1]
      refine ⟨?_, fun z => by omega, fun _ => ⟨_, Nat.min_le_right _ _, l⟩, fun z => by omega, fun z => by omega⟩
      rw [l, r4 0 _ (by omega), show R + 8 + 6 * 1 + b = R + 14 + b by omega, t2, show R + 14 + b = R + 8 + 6 * 1 + b by omega, cw b 1 hb (by decide), ea, n2]
    · have fin : ∃ x, x ≤ 9 ∧ m'.1 (xtb β) (b * 6 + 2) = nI x ∧ ν2.1 0 (R + 8 + 6 * 2 + b) = nI x := by
        rw [s2, r4 0 _ (by omega), show R + 8 + 6 * 2 + b = R + 20 + b by omega, t1, show R + 20 + b = R + 8 + 6 * 2 + b by omega, cw b 2 hb (by decide), ed, ← eW, eWx]
        by_cases z : m.1 (xtb β) (b * 6 + 5) = -1
        · obtain ⟨n1, n2⟩ := dampF_N d (by omega) W (by omega)
          rw [if_pos z, if_pos z]
          exact ⟨_, Nat.min_le_right _ _, n1, n2⟩
        · obtain ⟨n1, n2⟩ := dampI_N d (by omega)
          rw [if_neg z, if_neg z]
          exact ⟨d - 1, by omega, n1, n2⟩
      obtain ⟨x, x1, x2, x3⟩ := fin
      exact ⟨x2.trans x3.symm, fun z => by omega, fun z => by omega, fun _ => ⟨x, x1, x2⟩, fun z => by omega⟩
    · have l1 : m'.1 (xtb β) (b * 6 + 4) = if gE n (fun b => m.1 (xtb β) (b * 6 + 4)) (fun b => m.1 (xtb β) (b * 6 + 5)) b = true then 1 else 0 := by
        rw [s3, bit_N K hK b (by omega), k2 b hb]
      have l2 : ν2.1 0 (R + 8 + 6 * 4 + b) = if gE n (fun b => m.1 (xtb β) (b * 6 + 4)) (fun b => m.1 (xtb β) (b * 6 + 5)) b = true then 1 else 0 := by
        rw [show R + 8 + 6 * 4 + b = R + 32 + b by omega, r2 b (by omega) hb, bit_N _ (mask_64 hn) b (by omega), hoB_mask hn b hb]
      refine ⟨l1.trans l2.symm, fun z => by omega, fun z => by omega, fun z => by omega, fun _ => ?_⟩
      rw [l1]
      by_cases z : gE n (fun b => m.1 (xtb β) (b * 6 + 4)) (fun b => m.1 (xtb β) (b * 6 + 5)) b = true
      · rw [if_pos z]; exact Or.inr rfl
      · rw [if_neg z]; exact Or.inl rfl
  refine ⟨m', ν2, e1, e2, ⟨hβ, hR, hn, hk, ?_, ?_, fun b c hb hc => (cell b hb c hc).1, fun b hb => ?_, fun i hi => ?_⟩, ?_, ?_, p3, p6, fun j i z => ?_, r5.trans q4⟩
  · rw [p3 36 _ (by omega) (by omega)]
    exact u0
  · rw [r4 0 _ (by omega), q3 0 _ (by omega)]
    exact w0
  · obtain ⟨v0, v1, v2, v3, v4, v5⟩ := hV.1 b hb
    refine ⟨?_, (cell b hb 1 (by decide)).2.2.1 rfl, (cell b hb 2 (by decide)).2.2.2.1 rfl, ?_, (cell b hb 4 (by decide)).2.2.2.2 rfl, ?_⟩
    · exact v0.imp (fun x hx => ⟨hx.1, ((cell b hb 0 (by decide)).2.1 (by decide)).trans hx.2⟩)
    · exact v3.imp (fun x hx => ⟨hx.1, ((cell b hb 3 (by decide)).2.1 (by decide)).trans hx.2⟩)
    · exact v5.imp (fun z => ((cell b hb 5 (by decide)).2.1 (by decide)).trans z) (fun ⟨i, i1, i2⟩ => ⟨i, i1, ((cell b hb 5 (by decide)).2.1 (by decide)).trans i2⟩)
  · have e := hV.2 i hi
    rw [cntB_congr (g := fun b => m.1 (xtb β) (b * 6 + 5) == nI i) (fun b hb => by show (m'.1 (xtb β) (b * 6 + 5) == nI i) = _; rw [(cell b hb 5 (by decide)).2.1 (by decide)])]
    exact e
  · rw [p5, ym, nI_1]
  · rw [r3, q3 0 _ (by omega), yv, nI_1]
  · rw [r4 j i (by omega), q3 j i (by omega)]
