/-! STEPS: best; how much the least plays at most -/
theorem mask_id : ∀ x, x < 64 → maskN 6 (hoB (nI x)) = x := by decide +kernel
theorem dif_64 : ∀ T, T < 64 → ∀ x, x < 64 → (nI x &&& (nI T ^^^ (-1 : Int32))) = 0 → x ≤ T ∧ ∀ b, b < 6 → hoB (nI (T - x)) b = (hoB (nI T) b && !hoB (nI x) b) := by decide +kernel
theorem or_m64 : ∀ a, a < 64 → ∀ b, b < 64 → (nI a ||| nI b) = nI (a ||| b) ∧ (a ||| b) < 64 ∧ ∀ j, j < 6 → hoB (nI (a ||| b)) j = (hoB (nI a) j || hoB (nI b) j) := by decide +kernel
def allN : Nat → (Nat → Bool) → Bool
  | 0, _ => true
  | n + 1, f => f n && allN n f
theorem allN_i {f : Nat → Bool} : ∀ n, allN n f = true → ∀ y, y < n → f y = true
  | 0, _, y, hy => absurd hy (Nat.not_lt_zero y)
  | n + 1, h, y, hy => by
    have h' : (f n && allN n f) = true := h
    rw [Bool.and_eq_true] at h'
    by_cases e : y = n
    · subst e; exact h'.1
    · exact allN_i n h'.2 y (by omega)
theorem some_bit : ∀ T, T < 64 → T ≠ 0 → ∃ b, b < 6 ∧ hoB (nI T) b = true := by decide +kernel
def shM (T i : Nat) (w : Nat → Nat) : Nat := maskN 6 (fun b => hoB (nI T) b && (w b == i + 1))
def PR (Q : Nat → Nat → Nat) (g : Nat → Nat) (j v T : Nat) : Prop := ∃ w : Nat → Nat, (∀ b, b < 6 → hoB (nI T) b = true → 1 ≤ w b ∧ w b ≤ j) ∧ ∀ i, i < j → v ≤ Q i (g i ||| shM T i w)
def PW (Q : Nat → Nat → Nat) (g : Nat → Nat) (k v op : Nat) : Prop := ∃ w : Nat → Nat, (∀ b, b < 6 → hoB (nI op) b = true → w b ≤ k) ∧ ∀ i, i < k → v ≤ Q i (g i ||| shM op i w)
section PRS
variable {Q : Nat → Nat → Nat} {g : Nat → Nat}
theorem PR_0 {v T : Nat} (hT : T < 64) : PR Q g 0 v T ↔ T = 0 := by
  constructor
  · rintro ⟨w, w1, -⟩
    by_cases e : T = 0
    · exact e
    · obtain ⟨b, hb, z⟩ := some_bit T hT e
      have := w1 b hb z
      omega
  · rintro rfl
    exact ⟨fun _ => 0, fun b hb z => absurd ((hoB_0 b hb).symm.trans z) (by decide), fun i hi => absurd hi (Nat.not_lt_zero i)⟩
theorem PR_step {j v T : Nat} (hT : T < 64) : PR Q g (j + 1) v T ↔ ∃ y, y < 64 ∧ sb y T ∧ PR Q g j v (T - y) ∧ v ≤ Q j (g j ||| y) := by
  constructor
  · rintro ⟨w, w1, w2⟩
    have hy : shM T j w < 64 := mask_64 (n := 6) (by decide)
    have by' : ∀ b, b < 6 → hoB (nI (shM T j w)) b = (hoB (nI T) b && (w b == j + 1)) := fun b hb => hoB_mask (n := 6) (by decide) b hb
    have sby : sb (shM T j w) T := (sb_ho hy hT).mpr (fun b hb z => by
      rw [by' b hb, Bool.and_eq_true] at z
      exact z.1)
    obtain ⟨d1, d2⟩ := dif_64 T hT _ hy sby
    refine ⟨shM T j w, hy, sby, ⟨w, fun b hb z => ?_, fun i hi => ?_⟩, w2 j (by omega)⟩
    · rw [d2 b hb, by' b hb, Bool.and_eq_true] at z
      obtain ⟨z1, z2⟩ := z
      rw [z1, Bool.true_and] at z2
      have w3 := w1 b hb z1
      have w4 : w b ≠ j + 1 := fun e => by rw [e, beq_self_eq_true] at z2; exact absurd z2 (by decide)
      omega
    · have e : shM (T - shM T j w) i w = shM T i w := by
        refine maskN_congr (fun b hb => ?_)
        show (hoB (nI (T - shM T j w)) b && (w b == i + 1)) = (hoB (nI T) b && (w b == i + 1))
        rw [d2 b hb, by' b hb]
        by_cases c : w b = i + 1
        · rw [c, beq_false_of_ne (show i + 1 ≠ j + 1 by omega), Bool.and_false, Bool.not_false, Bool.and_true]
        · rw [beq_false_of_ne c, Bool.and_false, Bool.and_false]
      rw [e]
      exact w2 i (by omega)
  · rintro ⟨y, hy, sby, ⟨w, w1, w2⟩, hq⟩
    obtain ⟨d1, d2⟩ := dif_64 T hT y hy sby
    have yT := (sb_ho hy hT).mp sby
    have eT : ∀ b, b < 6 → hoB (nI T) b = true → hoB (nI y) b = true ∨ hoB (nI (T - y)) b = true := fun b hb z => by
      by_cases c : hoB (nI y) b = true
      · exact Or.inl c
      · refine Or.inr ?_
        rw [d2 b hb, z, Bool.eq_false_iff.mpr c]
        rfl
    refine ⟨fun b => if hoB (nI y) b = true then j + 1 else w b, fun b hb z => ?_, fun i hi => ?_⟩
    · show 1 ≤ (if hoB (nI y) b = true then j + 1 else w b) ∧ (if hoB (nI y) b = true then j + 1 else w b) ≤ j + 1
      by_cases c : hoB (nI y) b = true
      · rw [if_pos c]; omega
      · rw [if_neg c]
        have := w1 b hb ((eT b hb z).resolve_left c)
        omega
    · by_cases ei : i = j
      · subst ei
        have e : shM T i (fun b => if hoB (nI y) b = true then i + 1 else w b) = y := by
          refine (maskN_congr (g := hoB (nI y)) (fun b hb => ?_)).trans (mask_id y hy)
          show (hoB (nI T) b && ((if hoB (nI y) b = true then i + 1 else w b) == i + 1)) = hoB (nI y) b
          by_cases c : hoB (nI y) b = true
          · rw [if_pos c, c, yT b hb c, beq_self_eq_true]
            rfl
          · rw [if_neg c, Bool.eq_false_iff.mpr c]
            by_cases t : hoB (nI T) b = true
            · have := w1 b hb ((eT b hb t).resolve_left c)
              rw [beq_false_of_ne (show w b ≠ i + 1 by omega), Bool.and_false]
            · rw [Bool.eq_false_iff.mpr t, Bool.false_and]
        rw [e]
        exact hq
      · have e : shM T i (fun b => if hoB (nI y) b = true then j + 1 else w b) = shM (T - y) i w := by
          refine maskN_congr (fun b hb => ?_)
          show (hoB (nI T) b && ((if hoB (nI y) b = true then j + 1 else w b) == i + 1)) = (hoB (nI (T - y)) b && (w b == i + 1))
          rw [d2 b hb]
          by_cases c : hoB (nI y) b = true
          · rw [if_pos c, c, beq_false_of_ne (show j + 1 ≠ i + 1 by omega), Bool.and_false, Bool.not_true, Bool.and_false, Bool.false_and]
          · rw [if_neg c, Bool.eq_false_iff.mpr c, Bool.not_false, Bool.and_true]
        rw [e]
        exact w2 i (by omega)
theorem PW_iff {k v op : Nat} (ho : op < 64) : PW Q g k v op ↔ ∃ T, T < 64 ∧ sb T op ∧ PR Q g k v T := by
  constructor
  · rintro ⟨w, w1, w2⟩
    have hT : maskN 6 (fun b => hoB (nI op) b && decide (1 ≤ w b)) < 64 := mask_64 (n := 6) (by decide)
    have bT : ∀ b, b < 6 → hoB (nI (maskN 6 (fun b => hoB (nI op) b && decide (1 ≤ w b)))) b = (hoB (nI op) b && decide (1 ≤ w b)) := fun b hb => hoB_mask (n := 6) (by decide) b hb
    refine ⟨_, hT, (sb_ho hT ho).mpr (fun b hb z => ?_), w, fun b hb z => ?_, fun i hi => ?_⟩
    · rw [bT b hb, Bool.and_eq_true] at z
      exact z.1
    · rw [bT b hb, Bool.and_eq_true, decide_eq_true_eq] at z
      exact ⟨z.2, w1 b hb z.1⟩
    · have e : shM (maskN 6 (fun b => hoB (nI op) b && decide (1 ≤ w b))) i w = shM op i w := by
        refine maskN_congr (fun b hb => ?_)
        show (hoB (nI (maskN 6 (fun b => hoB (nI op) b && decide (1 ≤ w b)))) b && (w b == i + 1)) = (hoB (nI op) b && (w b == i + 1))
        rw [bT b hb]
        by_cases c : w b = i + 1
        · rw [decide_eq_true (show 1 ≤ w b by omega), Bool.and_true]
        · rw [beq_false_of_ne c, Bool.and_false, Bool.and_false]
      rw [e]
      exact w2 i hi
  · rintro ⟨T, hT, sbT, w, w1, w2⟩
    have To := (sb_ho hT ho).mp sbT
    refine ⟨fun b => if hoB (nI T) b = true then w b else 0, fun b hb z => ?_, fun i hi => ?_⟩
    · show (if hoB (nI T) b = true then w b else 0) ≤ k
      by_cases c : hoB (nI T) b = true
      · rw [if_pos c]; exact (w1 b hb c).2
      · rw [if_neg c]; exact Nat.zero_le _
    · have e : shM op i (fun b => if hoB (nI T) b = true then w b else 0) = shM T i w := by
        refine maskN_congr (fun b hb => ?_)
        show (hoB (nI op) b && ((if hoB (nI T) b = true then w b else 0) == i + 1)) = (hoB (nI T) b && (w b == i + 1))
        by_cases c : hoB (nI T) b = true
        · rw [if_pos c, c, To b hb c]
        · rw [if_neg c, Bool.eq_false_iff.mpr c, beq_false_of_ne (show 0 ≠ i + 1 by omega), Bool.and_false, Bool.false_and]
      rw [e]
      exact w2 i hi
end PRS
theorem T32 {m : xM} {x : Nat} {v : Int32} (hx : x < 64) (hv : v = nI x) : fT_get 32 m v 0 = some (m.1 32 x) := by
  rw [T_get (t := 32) (r := x) (c := 0) (v2 := 0) (by decide) hv rfl (by decide) (by show x < 64; exact hx), show x * wN 32 + 0 = x by show x * 1 + 0 = x; omega]
theorem P32 {m : xM} {x : Nat} {v y : Int32} (hx : x < 64) (hv : v = nI x) : fT_put 32 v 0 y m = some (xset m 32 x y) := by
  rw [T_put (t := 32) (r := x) (c := 0) (v2 := 0) (by decide) hv rfl (by decide) (by show x < 64; exact hx), show x * wN 32 + 0 = x by show x * 1 + 0 = x; omega]
theorem T33 {m : xM} {x : Nat} (hx : x < 4) : fT_get 33 m (nI x) 0 = some (m.1 33 x) := by
  rw [T_get (t := 33) (r := x) (c := 0) (v2 := 0) (by decide) rfl rfl (by decide) (by show x < 4; exact hx), show x * wN 33 + 0 = x by show x * 1 + 0 = x; omega]
/-- the maker's memory: what is played, the boards given -/
def mkO (Q : Nat → Nat → Nat) (g : Nat → Nat) (k F : Nat) (m : xM) : Prop := m.1 39 0 = nI k ∧ m.1 39 1 = nI F ∧ (∀ i, i < k → m.1 33 i = nI (g i)) ∧ (∀ i, i < k → ∀ x, x < 64 → sb x F → m.1 31 (i * 64 + x) = zI (Q i x))
theorem mkO_32 {Q : Nat → Nat → Nat} {g : Nat → Nat} {k F x : Nat} {m : xM} {v : Int32} (h : mkO Q g k F m) : mkO Q g k F (xset m 32 x v) := by
  obtain ⟨h1, h2, h3, h4⟩ := h
  exact ⟨by simp (disch := omega) only [xset_ne, xset_nj, xset_eq, Nat.add_zero]; exact h1, by simp (disch := omega) only [xset_ne, xset_nj, xset_eq, Nat.add_zero]; exact h2, fun i hi => by simp (disch := omega) only [xset_ne, xset_nj, xset_eq, Nat.add_zero]; exact h3 i hi, fun i hi y hy z => by simp (disch := omega) only [xset_ne, xset_nj, xset_eq, Nat.add_zero]; exact h4 i hi y hy z⟩
section MOL
variable {Q : Nat → Nat → Nat} {g : Nat → Nat} {k F op : Nat}
theorem K_ms {m : xM} {i T : Nat} {R : Nat → Nat} (hk : k ≤ 4) (hF : F < 64) (ho : op < 64) (hop : sb op F) (hQ : ∀ i x, Q i x ≤ 1001) (hg : ∀ i, i < k → g i < 64 ∧ sb (g i) F) (O : mkO Q g k F m) (hi : i < k) (hT : T < 64) (sT : sb T op) (hR : ∀ y, y < 64 → sb y T → m.1 32 (T - y) = zI (R (T - y)) ∧ R (T - y) ≤ 1000001) : ∀ (f x mst : Nat), x ≤ T + 1 → T + 1 < x + f → mst ≤ 1000001 → ∃ D, D ≤ 1000001 ∧ fK_mostWithShare_l5 m f (nI i) (nI T) (zI mst) (nI x) = some (zI D) ∧ ∀ v, (v ≤ D ↔ v ≤ mst ∨ ∃ y, x ≤ y ∧ y < 64 ∧ sb y T ∧ v ≤ R (T - y) ∧ v ≤ Q i (g i ||| y))
  | 0, x, mst, h1, h2, h3 => absurd h2 (by omega)
  | f + 1, x, mst, h1, h2, h3 => by
    unfold fK_mostWithShare_l5 fK_mostWithShare_b64
    by_cases hx : x = T + 1
    · subst hx
      rw [if_pos (nI_lt (by omega) (by omega))]
      refine ⟨mst, h3, rfl, fun v => ⟨Or.inl, fun z => z.elim id (fun ⟨y, y0, y1, y2, _⟩ => ?_)⟩⟩
      have := sb_le y1 hT y2
      omega
    · have h6 : x < 64 := by omega
      rw [if_neg (nI_nlt (by omega) (by omega)), sbH, nI_1]
      by_cases c : (nI x &&& (nI T ^^^ (-1 : Int32))) = 0
      · obtain ⟨o1, o2, o3, o4⟩ := O
        obtain ⟨g1, g2⟩ := hg i hi
        obtain ⟨d1, d2⟩ := dif_64 T hT x h6 c
        obtain ⟨r1, r2⟩ := hR x h6 c
        obtain ⟨a1, a2, a3⟩ := or_m64 (g i) g1 x h6
        have sgx : sb (g i ||| x) F := (sb_ho a2 hF).mpr (fun b hb z => by
          rw [a3 b hb, Bool.or_eq_true] at z
          rcases z with z | z
          · exact (sb_ho g1 hF).mp g2 b hb z
          · exact (sb_ho ho hF).mp hop b hb ((sb_ho hT ho).mp sT b hb ((sb_ho h6 hT).mp c b hb z)))
        have q := hQ i (g i ||| x)
        rw [if_pos c, T32 (x := T - x) (by omega) (nI_sub d1), bnd, T33 (by omega), bnd, o3 i hi, a1, T_get (t := 31) (r := i) (c := g i ||| x) (by decide) rfl rfl (by show (g i ||| x) < 64; exact a2) (by show i < 4; omega), bnd, show i * wN 31 + (g i ||| x) = i * 64 + (g i ||| x) from rfl, o4 i hi _ a2 sgx, r1, zI_min (by omega) (by omega), zI_max (by omega) (by omega)]
        have hm : max mst (min (R (T - x)) (Q i (g i ||| x))) ≤ 1000001 := by omega
        obtain ⟨D, D1, D2, D3⟩ := K_ms hk hF ho hop hQ hg ⟨o1, o2, o3, o4⟩ hi hT sT hR f (x + 1) (max mst (min (R (T - x)) (Q i (g i ||| x)))) (by omega) (by omega) hm
        refine ⟨D, D1, D2, fun v => (D3 v).trans ?_⟩
        constructor
        · rintro (z | ⟨y, y0, y1, y2, y3, y4⟩)
          · by_cases cm : v ≤ mst
            · exact Or.inl cm
            · exact Or.inr ⟨x, Nat.le_refl _, h6, c, by omega, by omega⟩
          · exact Or.inr ⟨y, by omega, y1, y2, y3, y4⟩
        · rintro (z | ⟨y, y0, y1, y2, y3, y4⟩)
          · exact Or.inl (by omega)
          · by_cases e : y = x
            · subst e
              exact Or.inl (by omega)
            · exact Or.inr ⟨y, by omega, y1, y2, y3, y4⟩
      · rw [if_neg c]
        obtain ⟨D, D1, D2, D3⟩ := K_ms hk hF ho hop hQ hg O hi hT sT hR f (x + 1) mst (by omega) (by omega) h3
        refine ⟨D, D1, D2, fun v => (D3 v).trans ?_⟩
        constructor
        · rintro (z | ⟨y, y0, y1, y2, y3, y4⟩)
          · exact Or.inl z
          · exact Or.inr ⟨y, by omega, y1, y2, y3, y4⟩
        · rintro (z | ⟨y, y0, y1, y2, y3, y4⟩)
          · exact Or.inl z
          · by_cases e : y = x
            · subst e
              exact absurd y2 c
            · exact Or.inr ⟨y, by omega, y1, y2, y3, y4⟩
theorem sb_self {T : Nat} (hT : T < 64) : sb T T := (sb_ho hT hT).mpr (fun _ _ z => z)
theorem sb_dif {T y o : Nat} (hT : T < 64) (hy : y < 64) (ho : o < 64) (h : sb y T) (h2 : sb T o) : sb (T - y) o := by
  obtain ⟨d1, d2⟩ := dif_64 T hT y hy h
  refine (sb_ho (by omega) ho).mpr (fun b hb z => ?_)
  rw [d2 b hb, Bool.and_eq_true] at z
  exact (sb_ho hT ho).mp h2 b hb z.1
theorem K_l45 {i : Nat} {R : Nat → Nat} (hk : k ≤ 4) (hF : F < 64) (ho : op < 64) (hop : sb op F) (hQ : ∀ i x, Q i x ≤ 1001) (hg : ∀ i, i < k → g i < 64 ∧ sb (g i) F) (hi : i < k) (k35 : Int32 → Int32 → xM → Option (Int32 × xM)) : ∀ (f t : Nat) (m : xM), t ≤ 64 → t < f → mkO Q g k F m → (∀ T, T < t → sb T op → m.1 32 T = zI (R T) ∧ R T ≤ 1000001) → ∃ m', fK_mostOfLeast_l45 k35 f (nI op) (nI i) (zI t) m = k35 (nI op) (nI (i + 1)) m' ∧ (∀ T, T < t → sb T op → ∃ D, D ≤ 1000001 ∧ m'.1 32 T = zI D ∧ ∀ v, 1 ≤ v → (v ≤ D ↔ ∃ y, y < 64 ∧ sb y T ∧ v ≤ R (T - y) ∧ v ≤ Q i (g i ||| y))) ∧ (∀ j x, (j ≠ 32 ∨ ¬ (x < t ∧ sb x op)) → m'.1 j x = m.1 j x) ∧ m'.2 = m.2
  | 0, t, m, h1, h2, O, hR => absurd h2 (by omega)
  | f + 1, t, m, h1, h2, O, hR => by
    unfold fK_mostOfLeast_l45
    by_cases ht : t = 0
    · subst ht
      rw [if_pos (show zI 0 < 0 by decide), nI_1]
      exact ⟨m, rfl, fun T z => absurd z (Nat.not_lt_zero T), fun _ _ _ => rfl, rfl⟩
    · obtain ⟨T, rfl⟩ : ∃ T, t = T + 1 := ⟨t - 1, by omega⟩
      rw [zI_s, if_neg (nI_pos (by omega)), sbH]
      unfold fK_mostOfLeast_b72
      have eT : nI T + -1 = zI T := by
        unfold zI
        rw [Int32.sub_eq_add_neg]
      rw [eT]
      by_cases c : (nI T &&& (nI op ^^^ (-1 : Int32))) = 0
      · obtain ⟨D, D1, D2, D3⟩ := K_ms (T := T) (R := R) (m := m) hk hF ho hop hQ hg O hi (by omega) c (fun y hy sy => by
          obtain ⟨d1, d2⟩ := dif_64 T (by omega) y hy sy
          exact hR (T - y) (by omega) (sb_dif (by omega) hy ho sy c)) xfu 0 0 (by omega) (by show T + 1 < 0 + 100000; omega) (by decide)
        have D2' : fK_mostWithShare m (nI i) (nI T) = some (zI D) := D2
        rw [if_pos c, D2', bnd, P32 (by omega) rfl, bnd]
        obtain ⟨m', g1, g2, g3, g4⟩ := K_l45 (R := R) hk hF ho hop hQ hg hi k35 f T (xset m 32 T (zI D)) (by omega) (by omega) (mkO_32 O) (fun T' q1 q2 => by simp (disch := omega) only [xset_ne, xset_nj, xset_eq, Nat.add_zero]; exact hR T' (by omega) q2)
        refine ⟨m', g1, fun T' q1 q2 => ?_, fun j x q1 => ?_, g4⟩
        · by_cases e : T' = T
          · subst e
            refine ⟨D, D1, ?_, fun v hv => (D3 v).trans ?_⟩
            · rw [g3 32 T' (by omega), xset_eq]
            · constructor
              · rintro (z | ⟨y, y0, y1, y2, y3, y4⟩)
                · omega
                · exact ⟨y, y1, y2, y3, y4⟩
              · rintro ⟨y, y1, y2, y3, y4⟩
                exact Or.inr ⟨y, Nat.zero_le _, y1, y2, y3, y4⟩
          · exact g2 T' (by omega) q2
        · rw [g3 j x (by
            rcases q1 with q1 | q1
            · exact Or.inl q1
            · exact Or.inr (fun z => q1 ⟨by omega, z.2⟩))]
          by_cases q0 : j = 32
          · subst q0
            have : x ≠ T := fun e => by
              rcases q1 with q1 | q1
              · exact q1 rfl
              · exact q1 ⟨by omega, by rw [e]; exact c⟩
            simp (disch := omega) only [xset_ne, xset_nj, xset_eq, Nat.add_zero]
          · simp (disch := omega) only [xset_ne, xset_nj, xset_eq, Nat.add_zero]
      · rw [if_neg c]
        obtain ⟨m', g1, g2, g3, g4⟩ := K_l45 (R := R) hk hF ho hop hQ hg hi k35 f T m (by omega) (by omega) O (fun T' q1 q2 => hR T' (by omega) q2)
        refine ⟨m', g1, fun T' q1 q2 => ?_, fun j x q1 => ?_, g4⟩
        · by_cases e : T' = T
          · subst e
            exact absurd q2 c
          · exact g2 T' (by omega) q2
        · exact g3 j x (by
            rcases q1 with q1 | q1
            · exact Or.inl q1
            · exact Or.inr (fun z => q1 ⟨by omega, z.2⟩))
theorem K_l2 {v1 : Int32} : ∀ (f t : Nat) (m : xM), t ≤ 64 → 64 < t + f → ∃ m', fK_mostOfLeast_l2 f v1 (nI t) m = fK_mostOfLeast_l35 xfu v1 0 m' ∧ (∀ x, t ≤ x → x < 64 → m'.1 32 x = if x = 0 then zI 1000001 else zI 0) ∧ (∀ j x, (j ≠ 32 ∨ x < t) → m'.1 j x = m.1 j x) ∧ m'.2 = m.2
  | 0, t, m, h1, h2 => absurd h2 (by omega)
  | f + 1, t, m, h1, h2 => by
    unfold fK_mostOfLeast_l2
    by_cases ht : t = 64
    · subst ht
      rw [if_pos (by decide)]
      exact ⟨m, rfl, fun x q1 q2 => absurd q2 (by omega), fun _ _ _ => rfl, rfl⟩
    · unfold fK_mostOfLeast_b24
      rw [if_neg (show ¬ (64 : Int32) ≤ nI t from nI_ge (b := 64) (by omega) (by decide)), nI_1, P32 (by omega) rfl, P32 (by omega) rfl, bnd, bnd]
      have step : ∀ y : Int32, y = (if t = 0 then zI 1000001 else zI 0) → ∃ m', fK_mostOfLeast_l2 f v1 (nI (t + 1)) (xset m 32 t y) = fK_mostOfLeast_l35 xfu v1 0 m' ∧ (∀ x, t ≤ x → x < 64 → m'.1 32 x = if x = 0 then zI 1000001 else zI 0) ∧ (∀ j x, (j ≠ 32 ∨ x < t) → m'.1 j x = m.1 j x) ∧ m'.2 = m.2 := by
        intro y hy
        obtain ⟨m', g1, g2, g3, g4⟩ := K_l2 (v1 := v1) f (t + 1) (xset m 32 t y) (by omega) (by omega)
        refine ⟨m', g1, fun x q1 q2 => ?_, fun j x q1 => ?_, g4⟩
        · by_cases e : x = t
          · subst e
            rw [g3 32 x (by omega), xset_eq]
            exact hy
          · exact g2 x (by omega) q2
        · rw [g3 j x (by omega)]
          by_cases q0 : j = 32
          · subst q0
            simp (disch := omega) only [xset_ne, xset_nj, xset_eq, Nat.add_zero]
          · simp (disch := omega) only [xset_ne, xset_nj, xset_eq, Nat.add_zero]
      by_cases c : t = 0
      · subst c
        rw [if_pos (show nI 0 = 0 from rfl)]
        exact step _ (by rw [if_pos rfl]; decide)
      · rw [if_neg (nI_ne0 (by omega) (by omega))]
        exact step _ (by rw [if_neg c]; decide)
theorem K_l35 (hk : k ≤ 4) (hF : F < 64) (ho : op < 64) (hop : sb op F) (hQ : ∀ i x, Q i x ≤ 1001) (hg : ∀ i, i < k → g i < 64 ∧ sb (g i) F) : ∀ (f j : Nat) (m : xM), j ≤ k → k < j + f → mkO Q g k F m → (∀ T, T < 64 → sb T op → ∃ D, D ≤ 1000001 ∧ m.1 32 T = zI D ∧ ∀ v, 1 ≤ v → v ≤ 1000001 → (v ≤ D ↔ PR Q g j v T)) → (∀ T, T < 64 → ¬ sb T op → m.1 32 T = zI 0) → ∃ m', fK_mostOfLeast_l35 f (nI op) (nI j) m = fK_mostOfLeast_l88 xfu (nI op) (-1) 0 m' ∧ (∀ T, T < 64 → sb T op → ∃ D, D ≤ 1000001 ∧ m'.1 32 T = zI D ∧ ∀ v, 1 ≤ v → v ≤ 1000001 → (v ≤ D ↔ PR Q g k v T)) ∧ (∀ T, T < 64 → ¬ sb T op → m'.1 32 T = zI 0) ∧ (∀ j x, j ≠ 32 → m'.1 j x = m.1 j x) ∧ m'.2 = m.2
  | 0, j, m, h1, h2, O, hR, hN => absurd h2 (by omega)
  | f + 1, j, m, h1, h2, O, hR, hN => by
    unfold fK_mostOfLeast_l35
    rw [O.1]
    by_cases hj : j = k
    · subst hj
      rw [if_pos (nI_le (Nat.le_refl _) (by omega))]
      exact ⟨m, rfl, hR, hN, fun _ _ _ => rfl, rfl⟩
    · rw [if_neg (nI_ge (by omega) (by omega))]
      have rq : ∀ T, T < 64 → sb T op → m.1 32 T = zI ((m.1 32 T + 1).toNatClampNeg) ∧ (m.1 32 T + 1).toNatClampNeg ≤ 1000001 ∧ ∀ v, 1 ≤ v → v ≤ 1000001 → (v ≤ (m.1 32 T + 1).toNatClampNeg ↔ PR Q g j v T) := fun T hT sT => by
        obtain ⟨D, D1, D2, D3⟩ := hR T hT sT
        have e : (m.1 32 T + 1).toNatClampNeg = D := by rw [D2, zI_p, nI_clamp (by omega)]
        rw [e]
        exact ⟨D2, D1, D3⟩
      obtain ⟨m1, g1, g2, g3, g4⟩ := K_l45 (i := j) (R := fun T => (m.1 32 T + 1).toNatClampNeg) hk hF ho hop hQ hg (by omega) (fK_mostOfLeast_l35 f) xfu (op + 1) m (by omega) (by show op + 1 < 100000; omega) O (fun T q1 q2 => ⟨(rq T (by omega) q2).1, (rq T (by omega) q2).2.1⟩)
      rw [zI_s] at g1
      rw [g1]
      have O1 : mkO Q g k F m1 := by
        obtain ⟨o1, o2, o3, o4⟩ := O
        exact ⟨by rw [g3 39 0 (by omega)]; exact o1, by rw [g3 39 1 (by omega)]; exact o2, fun i hi => by rw [g3 33 i (by omega)]; exact o3 i hi, fun i hi x hx z => by rw [g3 31 _ (by omega)]; exact o4 i hi x hx z⟩
      obtain ⟨m2, r1, r2, r3, r4, r5⟩ := K_l35 hk hF ho hop hQ hg f (j + 1) m1 (by omega) (by omega) O1 (fun T hT sT => by
        have lT := sb_le hT ho sT
        obtain ⟨D, D1, D2, D3⟩ := g2 T (by omega) sT
        refine ⟨D, D1, D2, fun v v1 v2 => (D3 v v1).trans ?_⟩
        rw [PR_step hT]
        constructor
        · rintro ⟨y, y1, y2, y3, y4⟩
          obtain ⟨d1, d2⟩ := dif_64 T hT y y1 y2
          exact ⟨y, y1, y2, ((rq (T - y) (by omega) (sb_dif hT y1 ho y2 sT)).2.2 v v1 v2).mp y3, y4⟩
        · rintro ⟨y, y1, y2, y3, y4⟩
          obtain ⟨d1, d2⟩ := dif_64 T hT y y1 y2
          exact ⟨y, y1, y2, ((rq (T - y) (by omega) (sb_dif hT y1 ho y2 sT)).2.2 v v1 v2).mpr y3, y4⟩) (fun T hT sT => by
        rw [g3 32 T (Or.inr (fun z => sT z.2))]
        exact hN T hT sT)
      exact ⟨m2, r1, r2, r3, fun j x q => (r4 j x q).trans (g3 j x (Or.inl q)), r5.trans g4⟩
theorem K_l88 {m : xM} {d : Nat → Nat} (ho : op < 64) (hd : ∀ T, T ≤ op → m.1 32 T = zI (d T) ∧ d T ≤ 1000001) : ∀ (f t mst : Nat), t ≤ op + 1 → op + 1 < t + f → mst ≤ 1000001 → ∃ D, D ≤ 1000001 ∧ fK_mostOfLeast_l88 f (nI op) (zI mst) (nI t) m = some (zI D, m) ∧ ∀ v, (v ≤ D ↔ v ≤ mst ∨ ∃ T, t ≤ T ∧ T ≤ op ∧ v ≤ d T)
  | 0, t, mst, h1, h2, h3 => absurd h2 (by omega)
  | f + 1, t, mst, h1, h2, h3 => by
    unfold fK_mostOfLeast_l88
    by_cases ht : t = op + 1
    · subst ht
      rw [if_pos (nI_lt (by omega) (by omega))]
      exact ⟨mst, h3, rfl, fun v => ⟨Or.inl, fun z => z.elim id (fun ⟨T, t1, t2, _⟩ => absurd t1 (by omega))⟩⟩
    · obtain ⟨d1, d2⟩ := hd t (by omega)
      rw [if_neg (nI_nlt (by omega) (by omega)), T32 (x := t) (by omega) rfl, bnd, d1, zI_max (by omega) (by omega), nI_1]
      obtain ⟨D, D1, D2, D3⟩ := K_l88 ho hd f (t + 1) (max mst (d t)) (by omega) (by omega) (by omega)
      refine ⟨D, D1, D2, fun v => (D3 v).trans ?_⟩
      constructor
      · rintro (z | ⟨T, t1, t2, t3⟩)
        · by_cases c : v ≤ mst
          · exact Or.inl c
          · exact Or.inr ⟨t, Nat.le_refl _, by omega, by omega⟩
        · exact Or.inr ⟨T, by omega, t2, t3⟩
      · rintro (z | ⟨T, t1, t2, t3⟩)
        · exact Or.inl (by omega)
        · by_cases e : T = t
          · subst e
            exact Or.inl (by omega)
          · exact Or.inr ⟨T, by omega, t2, t3⟩
/-- how much the least plays at most, if the open boards may go anywhere -/
theorem K_mol {m : xM} (hk : k ≤ 4) (hF : F < 64) (ho : op < 64) (hop : sb op F) (hQ : ∀ i x, Q i x ≤ 1001) (hg : ∀ i, i < k → g i < 64 ∧ sb (g i) F) (O : mkO Q g k F m) : ∃ D m', D ≤ 1000001 ∧ fK_mostOfLeast (nI op) m = some (zI D, m') ∧ (∀ v, 1 ≤ v → v ≤ 1000001 → (v ≤ D ↔ PW Q g k v op)) ∧ (∀ j x, j ≠ 32 → m'.1 j x = m.1 j x) ∧ m'.2 = m.2 := by
  obtain ⟨m1, g1, g2, g3, g4⟩ := K_l2 (v1 := nI op) xfu 0 m (by decide) (by decide)
  have O1 : mkO Q g k F m1 := by
    obtain ⟨o1, o2, o3, o4⟩ := O
    exact ⟨by rw [g3 39 0 (by omega)]; exact o1, by rw [g3 39 1 (by omega)]; exact o2, fun i hi => by rw [g3 33 i (by omega)]; exact o3 i hi, fun i hi x hx z => by rw [g3 31 _ (by omega)]; exact o4 i hi x hx z⟩
  have s0 : sb 0 op := (sb_ho (by decide) ho).mpr (fun b hb z => absurd ((hoB_0 b hb).symm.trans z) (by decide))
  obtain ⟨m2, r1, r2, r3, r4, r5⟩ := K_l35 hk hF ho hop hQ hg xfu 0 m1 (by omega) (by show k < 0 + 100000; omega) O1 (fun T hT sT => by
    rw [g2 T (by omega) hT]
    by_cases e : T = 0
    · rw [if_pos e]
      exact ⟨1000001, Nat.le_refl _, rfl, fun v v1 v2 => ⟨fun _ => (PR_0 hT).mpr e, fun _ => v2⟩⟩
    · rw [if_neg e]
      exact ⟨0, by omega, rfl, fun v v1 v2 => ⟨fun z => absurd z (by omega), fun z => absurd ((PR_0 hT).mp z) e⟩⟩) (fun T hT sT => by
    rw [g2 T (by omega) hT, if_neg (fun e => sT (by rw [e]; exact s0))])
  have dq : ∀ T, T ≤ op → ∃ d, m2.1 32 T = zI d ∧ d ≤ 1000001 ∧ ∀ v, 1 ≤ v → v ≤ 1000001 → (v ≤ d ↔ sb T op ∧ PR Q g k v T) := fun T hT => by
    by_cases c : sb T op
    · obtain ⟨D, D1, D2, D3⟩ := r2 T (by omega) c
      exact ⟨D, D2, D1, fun v v1 v2 => (D3 v v1 v2).trans ⟨fun z => ⟨c, z⟩, fun z => z.2⟩⟩
    · exact ⟨0, r3 T (by omega) c, by decide, fun v v1 v2 => ⟨fun z => absurd z (by omega), fun z => absurd z.1 c⟩⟩
  have dq2 : ∀ T, T ≤ op → m2.1 32 T = zI ((m2.1 32 T + 1).toNatClampNeg) ∧ (m2.1 32 T + 1).toNatClampNeg ≤ 1000001 ∧ ∀ v, 1 ≤ v → v ≤ 1000001 → (v ≤ (m2.1 32 T + 1).toNatClampNeg ↔ sb T op ∧ PR Q g k v T) := fun T hT => by
    obtain ⟨d, d1, d2, d3⟩ := dq T hT
    have e : (m2.1 32 T + 1).toNatClampNeg = d := by rw [d1, zI_p, nI_clamp (by omega)]
    rw [e]
    exact ⟨d1, d2, d3⟩
  obtain ⟨D, D1, D2, D3⟩ := K_l88 (m := m2) (d := fun T => (m2.1 32 T + 1).toNatClampNeg) ho (fun T hT => ⟨(dq2 T hT).1, (dq2 T hT).2.1⟩) xfu 0 0 (by omega) (by show op + 1 < 0 + 100000; omega) (by decide)
  refine ⟨D, m2, D1, ?_, fun v v1 v2 => (D3 v).trans ?_, fun j x q => (r4 j x q).trans (g3 j x (Or.inl q)), r5.trans g4⟩
  · have e : fK_mostOfLeast (nI op) m = fK_mostOfLeast_l35 xfu (nI op) 0 m1 := g1
    have e2 : fK_mostOfLeast_l35 xfu (nI op) 0 m1 = fK_mostOfLeast_l88 xfu (nI op) (-1) 0 m2 := r1
    rw [e, e2]
    exact D2
  · rw [PW_iff ho]
    constructor
    · rintro (z | ⟨T, t1, t2, t3⟩)
      · omega
      · obtain ⟨z1, z2⟩ := ((dq2 T t2).2.2 v v1 v2).mp t3
        exact ⟨T, by omega, z1, z2⟩
    · rintro ⟨T, t1, t2, t3⟩
      have tl := sb_le t1 ho t2
      exact Or.inr ⟨T, Nat.zero_le _, tl, ((dq2 T tl).2.2 v v1 v2).mpr ⟨t2, t3⟩⟩
end MOL
