/-! STEPS: weeps -/
theorem pow_l {c d : Nat} (hd : d < 1000) : ∀ (f e : Nat), e ≤ d → d < e + f → fH_power_l5 f (lN c) (nI d) (lN (c ^ e)) (nI e) = some (lN (c ^ d))
  | 0, e, h1, h2 => absurd h2 (by omega)
  | f + 1, e, h1, h2 => by
    unfold fH_power_l5
    by_cases he : e = d
    · subst he
      rw [if_pos (nI_le (Nat.le_refl _) (by omega))]
    · rw [if_neg (nI_ge (by omega) (by omega)), lN_mul, ← Nat.pow_succ, nI_1]
      exact pow_l hd f (e + 1) (by omega) (by omega)
theorem power_N {c d : Nat} (hd : d < 1000) : fH_power (lN c) (nI d) = some (lN (c ^ d)) := pow_l hd xfu 0 (by omega) (by show d < 0 + 100000; omega)
theorem cmp_pos {b : Nat} (h0 : 0 < b) (hb : b < 2 ^ 63) : lg_cmp (lN b) 0 = 1 := by
  unfold lg_cmp
  rw [if_pos (show lN b > 0 from (pk_lLT (a := 0) (b := b) (by decide) hb).mpr h0)]
theorem cmp_0 : lg_cmp (lN 0) 0 = 0 := by decide
theorem lN_ne {b : Nat} (h0 : 0 < b) (hb : b < 2 ^ 63) : ¬ lN b = 0 := fun e => absurd ((pk_lEQ hb (by decide) (b := 0)).mp e) (by omega)
theorem gcd_step {a b t f g : Nat} {U V : Int64} {m : xM} (ha : a < 2 ^ 63) (h0 : 0 < b) (hb : b < 2 ^ 63) (ht : t < 100) : fH_commonDivisor_l9 (f + 1) (lN a) (lN b) (nI t) = fH_commonDivisor_l9 f (lN b) (lN (a % b)) (nI (t + 1)) ∧ fM_weeps_l264 (g + 1) U V (lN a) (lN b) m = fM_weeps_l264 g U V (lN b) (lN (a % b)) m := by
  constructor
  · conv => lhs; unfold fH_commonDivisor_l9
    rw [if_neg (show ¬ (100 : Int32) ≤ nI t from nI_ge (b := 100) ht (by decide)), cmp_pos h0 hb, if_neg (by decide), pk_lRem ha h0 hb, nI_1]
    unfold xdl
    rw [if_neg (lN_ne h0 hb)]
  · conv => lhs; unfold fM_weeps_l264
    rw [cmp_pos h0 hb, if_neg (by decide), pk_lRem ha h0 hb]
    unfold xdl
    rw [if_neg (lN_ne h0 hb)]
theorem gcd_done {a t f g : Nat} {U V : Int64} {m : xM} (h0 : 0 < a) (ha : a < 2 ^ 63) : fH_commonDivisor_l9 (f + 1) (lN a) (lN 0) (nI t) = some (lN a) ∧ fM_weeps_l264 (g + 1) U V (lN a) (lN 0) m = some (1, xsel (xsel m 0 (U / lN a)) 1 (V / lN a)) := by
  constructor
  · unfold fH_commonDivisor_l9
    rw [cmp_0, if_pos (show (0 : Int32) ≤ 0 by decide)]
    by_cases c : (100 : Int32) ≤ nI t
    · rw [if_pos c]
    · rw [if_neg c]
  · unfold fM_weeps_l264
    rw [cmp_0, if_pos rfl]
    unfold xdl
    rw [if_neg (lN_ne h0 ha), if_neg (lN_ne h0 ha)]
theorem mod_half {a b : Nat} (hb : 0 < b) (h0 : 0 < a % b) : 2 * (b % (a % b)) < b := by
  have h1 : a % b < b := Nat.mod_lt _ hb
  have h2 : b % (a % b) < a % b := Nat.mod_lt _ h0
  have h3 := Nat.div_add_mod b (a % b)
  have h4 : 1 ≤ b / (a % b) := (Nat.le_div_iff_mul_le h0).mpr (by omega)
  have h5 : a % b ≤ a % b * (b / (a % b)) := Nat.le_mul_of_pos_right _ h4
  omega
theorem gcd_l {U V : Int64} {m : xM} : ∀ (T a b t f g : Nat), b < 2 ^ T → T ≤ 40 → t + 2 * T < 100 → 0 < a ∨ 0 < b → a < 2 ^ 63 → b < 2 ^ 63 → 2 * T + 1 < f → 2 * T + 1 < g → ∃ d, 0 < d ∧ d < 2 ^ 63 ∧ fH_commonDivisor_l9 f (lN a) (lN b) (nI t) = some (lN d) ∧ fM_weeps_l264 g U V (lN a) (lN b) m = some (1, xsel (xsel m 0 (U / lN d)) 1 (V / lN d))
  | 0, a, b, t, f, g, h1, hT, h2, h3, h4, h5, h6, h7 => by
    have hb : b = 0 := by omega
    subst hb
    obtain ⟨f, rfl⟩ : ∃ x, f = x + 1 := ⟨f - 1, by omega⟩
    obtain ⟨g, rfl⟩ : ∃ x, g = x + 1 := ⟨g - 1, by omega⟩
    have ha : 0 < a := by omega
    obtain ⟨e1, e2⟩ := gcd_done (t := t) (f := f) (g := g) (U := U) (V := V) (m := m) ha h4
    exact ⟨a, ha, h4, e1, e2⟩
  | T + 1, a, b, t, f, g, h1, hT, h2, h3, h4, h5, h6, h7 => by
    obtain ⟨f, rfl⟩ : ∃ x, f = x + 2 := ⟨f - 2, by omega⟩
    obtain ⟨g, rfl⟩ : ∃ x, g = x + 2 := ⟨g - 2, by omega⟩
    by_cases hb : b = 0
    · subst hb
      have ha : 0 < a := by omega
      obtain ⟨e1, e2⟩ := gcd_done (t := t) (f := f + 1) (g := g + 1) (U := U) (V := V) (m := m) ha h4
      exact ⟨a, ha, h4, e1, e2⟩
    · have hb0 : 0 < b := by omega
      have hm : a % b < b := Nat.mod_lt _ hb0
      obtain ⟨s1, s2⟩ := gcd_step (t := t) (f := f + 1) (g := g + 1) (U := U) (V := V) (m := m) h4 hb0 h5 (by omega)
      by_cases hc : a % b = 0
      · rw [s1, s2, hc]
        obtain ⟨e1, e2⟩ := gcd_done (t := t + 1) (f := f) (g := g) (U := U) (V := V) (m := m) hb0 h5
        exact ⟨b, hb0, h5, e1, e2⟩
      · have hc0 : 0 < a % b := by omega
        have hh := mod_half (a := a) (b := b) hb0 hc0
        obtain ⟨s3, s4⟩ := gcd_step (t := t + 1) (f := f) (g := g) (U := U) (V := V) (m := m) h5 hc0 (by omega) (by omega)
        rw [s1, s2, s3, s4]
        have hp : 2 ^ (T + 1) = 2 ^ T + 2 ^ T := by rw [Nat.pow_succ]; omega
        exact gcd_l T (a % b) (b % (a % b)) (t + 2) f g (by omega) (by omega) (by omega) (Or.inl hc0) (by omega) (by omega) (by omega) (by omega)
theorem rel_frac {μ ν : xM} {a b : Int64} (h : xRel μ ν) : xRel (xsel (xsel μ 0 a) 1 b) (xsel (xsel ν 0 a) 1 b) := ⟨h.1, h.2.1, h.2.2.1, h.2.2.2.1, ⟨rfl, rfl⟩, h.2.2.2.2.2⟩
theorem damp3_N : ∀ d, d < 10 → xmin (nI d + 3) 9 = nI (min (d + 3) 9) ∧ (if nI d ≤ 6 then nI d + 3 else 9) = nI (min (d + 3) 9) := by decide +kernel
theorem H_weep {n g : Nat} {v1 v2 : Int32} (hn : n ≤ 6) : ∀ (f b : Nat) (m : xM), b ≤ n → n < b + f → m.1 36 28 = nI n → ∃ m', fH_playWeeping_l17 f v1 v2 (nI g) (nI b) m = ((fW_playOn 0 4 m' v1 v2 0).bind fun r => some (r, m')) ∧ (∀ b' c, b' < n → c < 6 → m'.1 28 (b' * 6 + c) = if c = 2 ∧ b ≤ b' ∧ hoB (nI g) b' = true then xmin (m.1 28 (b' * 6 + c) + 3) 9 else m.1 28 (b' * 6 + c)) ∧ m'.1 36 28 = nI n ∧ scH m m'
  | 0, b, m, h1, h2, u0 => absurd h2 (by omega)
  | f + 1, b, m, h1, h2, u0 => by
    have g1 : fB_many 4 m = some (nI n) := by
      unfold fB_many
      rw [B_many, bnd]
      show some (m.1 36 28) = _
      rw [u0]
    unfold fH_playWeeping_l17
    rw [g1, bnd]
    by_cases hb : b = n
    · subst hb
      rw [if_pos (nI_le (Nat.le_refl _) (by omega))]
      exact ⟨m, rfl, fun b' c hb' hc => by rw [if_neg (by omega)], u0, scH_refl⟩
    · have hb' : b < n := by omega
      rw [if_neg (nI_ge hb' (by omega)), holds_eq]
      unfold fB_moreDamp fH_playWeeping_b48
      rw [B_get (β := 4) (b := b) (c := 2) (v2 := 2) (by decide) rfl rfl (by decide) (by omega), bnd, B_put (β := 4) (b := b) (c := 2) (v2 := 2) (by decide) rfl rfl (by decide) (by omega), bnd, bnd, nI_1, show xtb 4 = 28 from rfl]
      by_cases hg : hoB (nI g) b = true
      · rw [if_pos hg]
        have F : scH m (xset m 28 (b * 6 + 2) (xmin (m.1 28 (b * 6 + 2) + 3) 9)) := scH_set (by unfold sH; omega) scH_refl
        obtain ⟨m', g1, g2, g3, g4⟩ := H_weep (g := g) (v1 := v1) (v2 := v2) hn f (b + 1) (xset m 28 (b * 6 + 2) (xmin (m.1 28 (b * 6 + 2) + 3) 9)) (by omega) (by omega) (by simp (disch := omega) only [xset_ne, xset_nj, xset_eq, Nat.add_zero]; exact u0)
        refine ⟨m', g1, fun b' c q1 q2 => ?_, g3, scH_trans F g4⟩
        rw [g2 b' c q1 q2]
        by_cases e : b' = b ∧ c = 2
        · obtain ⟨rfl, rfl⟩ := e
          rw [if_neg (by omega), if_pos ⟨rfl, Nat.le_refl _, hg⟩]
          simp (disch := omega) only [xset_ne, xset_nj, xset_eq, Nat.add_zero]
        · rw [xset_nj (by omega)]
          by_cases z : c = 2 ∧ b + 1 ≤ b' ∧ hoB (nI g) b' = true
          · rw [if_pos z, if_pos ⟨z.1, by omega, z.2.2⟩]
          · rw [if_neg z, if_neg (fun y => z ⟨y.1, by omega, y.2.2⟩)]
      · rw [if_neg hg]
        obtain ⟨m', g1, g2, g3, g4⟩ := H_weep (g := g) (v1 := v1) (v2 := v2) hn f (b + 1) m (by omega) (by omega) u0
        refine ⟨m', g1, fun b' c q1 q2 => ?_, g3, g4⟩
        rw [g2 b' c q1 q2]
        by_cases e : b' = b
        · subst e
          rw [if_neg (by omega), if_neg (fun y => hg y.2.2)]
        · by_cases z : c = 2 ∧ b + 1 ≤ b' ∧ hoB (nI g) b' = true
          · rw [if_pos z, if_pos ⟨z.1, by omega, z.2.2⟩]
          · rw [if_neg z, if_neg (fun y => z ⟨y.1, by omega, y.2.2⟩)]
/-- how many ways of ten, over the boards below b -/
def wW (N : Nat → Int32) (i c g : Nat) : Nat → Nat
  | 0 => 1
  | b + 1 => if N b = nI i then wW N i c g b * (if hoB (nI g) b = true then c else 10 - c) else if hoB (nI g) b = true then 0 else wW N i c g b
theorem wW_le {N : Nat → Int32} {i c g : Nat} (hc : c ≤ 10) : ∀ b, wW N i c g b ≤ 10 ^ b
  | 0 => Nat.le_refl _
  | b + 1 => by
    have ih := wW_le (N := N) (i := i) (g := g) hc b
    have e : 10 ^ (b + 1) = 10 ^ b * 10 := by rw [Nat.pow_succ]
    unfold wW
    by_cases z : N b = nI i
    · rw [if_pos z, e]
      by_cases y : hoB (nI g) b = true
      · rw [if_pos y]
        exact Nat.mul_le_mul ih hc
      · rw [if_neg y]
        exact Nat.mul_le_mul ih (by omega)
    · rw [if_neg z]
      by_cases y : hoB (nI g) b = true
      · rw [if_pos y]; exact Nat.zero_le _
      · rw [if_neg y, e]
        omega
theorem wW_0 {N : Nat → Int32} {i c g : Nat} : ∀ j, (∃ b, b < j ∧ hoB (nI g) b = true ∧ ¬ N b = nI i) → wW N i c g j = 0
  | 0, h => absurd h (fun ⟨b, h1, _⟩ => absurd h1 (Nat.not_lt_zero _))
  | j + 1, ⟨b, h1, h2, h3⟩ => by
    unfold wW
    by_cases e : b = j
    · subst e
      rw [if_neg h3, if_pos h2]
    · have ih := wW_0 (N := N) (i := i) (c := c) (g := g) j ⟨b, by omega, h2, h3⟩
      by_cases z : N j = nI i
      · rw [if_pos z, ih, Nat.zero_mul]
      · rw [if_neg z]
        by_cases y : hoB (nI g) j = true
        · rw [if_pos y]
        · rw [if_neg y, ih]
theorem wW_in {N : Nat → Int32} {i c g : Nat} : ∀ j, (∀ b, b < j → hoB (nI g) b = true → N b = nI i) → wW N i c g j = c ^ cntB j (hoB (nI g)) * (10 - c) ^ cntB j (fun b => (N b == nI i) && !hoB (nI g) b)
  | 0, h => rfl
  | j + 1, h => by
    have ih := wW_in (N := N) (i := i) (c := c) (g := g) j (fun b hb => h b (by omega))
    have E1 : cntB (j + 1) (hoB (nI g)) = cntB j (hoB (nI g)) + (if hoB (nI g) j = true then 1 else 0) := rfl
    have E2 : cntB (j + 1) (fun b => (N b == nI i) && !hoB (nI g) b) = cntB j (fun b => (N b == nI i) && !hoB (nI g) b) + (if ((N j == nI i) && !hoB (nI g) j) = true then 1 else 0) := rfl
    rw [E1, E2]
    unfold wW
    by_cases y : hoB (nI g) j = true
    · rw [if_pos (h j (by omega) y), if_pos y, if_pos y, if_neg (by rw [y, Bool.not_true, Bool.and_false]; decide), ih, Nat.pow_succ, Nat.add_zero, Nat.mul_assoc, Nat.mul_assoc, Nat.mul_comm ((10 - c) ^ _) c]
    · rw [if_neg y, if_neg y, if_neg y, Nat.add_zero]
      by_cases z : N j = nI i
      · rw [if_pos z, if_pos (by rw [beq_iff_eq.mpr z, Bool.eq_false_iff.mpr y]; rfl), ih, Nat.pow_succ, Nat.mul_assoc]
      · rw [if_neg z, if_neg (by rw [beq_false_of_ne z, Bool.false_and]; decide), ih, Nat.add_zero]
