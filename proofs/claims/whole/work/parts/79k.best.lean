/-! STEPS: best -/
theorem M_b197 {n : Nat} {v1 v2 v3 v4 v5 v6 : Int32} (hn : n ≤ 6) (k83 : Int32 → Int32 → Int32 → Int32 → Int32 → Int32 → xM → Option (Int32 × xM)) : ∀ (f b : Nat) (ν : xM), b ≤ n → n < b + f → ν.1 0 0 = nI n → ∃ ν', fM_best_l197 k83 f v1 v2 v3 v4 v5 v6 (nI b) ν = k83 v1 v2 v3 v4 v5 (v6 + 1) ν' ∧ (∀ b', b ≤ b' → b' < n → ν'.1 4 b' = ν.1 0 (1742 + b')) ∧ (∀ j x, (j ≠ 4 ∨ x < b) → ν'.1 j x = ν.1 j x) ∧ ν'.2 = ν.2
  | 0, b, ν, h1, h2, w0 => absurd h2 (by omega)
  | f + 1, b, ν, h1, h2, w0 => by
    unfold fM_best_l197
    rw [xk0, xl0, w0]
    by_cases hb : b = n
    · subst hb
      rw [if_pos (nI_le (Nat.le_refl _) (by omega))]
      exact ⟨ν, rfl, fun b' q1 q2 => absurd q2 (by omega), fun _ _ _ => rfl, rfl⟩
    · rw [if_neg (nI_ge (by omega) (by omega)), show (1742 : Int32) + nI b = nI (1742 + b) from nI_add 1742 b, xck_nI (by omega) (by decide), xck_nI (by omega) (by decide), nI_clamp (by omega), nI_clamp (by omega), nI_1]
      obtain ⟨ν', g1, g2, g3, g4⟩ := M_b197 (v1 := v1) (v2 := v2) (v3 := v3) (v4 := v4) (v5 := v5) (v6 := v6) hn k83 f (b + 1) (xset ν 4 b (ν.1 0 (1742 + b))) (by omega) (by omega) (by simp (disch := omega) only [xset_ne, xset_nj, xset_eq, Nat.add_zero]; exact w0)
      refine ⟨ν', g1, fun b' q1 q2 => ?_, fun j x q1 => ?_, g4⟩
      · by_cases e : b' = b
        · subst e
          rw [g3 4 b' (by omega), xset_eq]
        · rw [g2 b' (by omega) q2]
          simp (disch := omega) only [xset_ne, xset_nj, xset_eq, Nat.add_zero]
      · rw [g3 j x (by omega)]
        by_cases q0 : j = 4
        · subst q0
          simp (disch := omega) only [xset_ne, xset_nj, xset_eq, Nat.add_zero]
        · simp (disch := omega) only [xset_ne, xset_nj, xset_eq, Nat.add_zero]
/-- the best codes so far: the first of the best ones -/
def bsO (V : Nat → Nat) (I : Nat → Nat → Int32) (n c mst : Nat) (ν : xM) : Prop := (c = 0 ∧ mst = 0) ∨ ∃ cs, cs < c ∧ V cs = mst ∧ (∀ c', c' < c → V c' ≤ mst) ∧ (∀ c', c' < cs → V c' < mst) ∧ ∀ b, b < n → ν.1 4 b = I cs b
theorem M_b83 {n k y hh a q u s F cod : Nat} {μ : xM} {v2 : Int32} (hs : s < 4) (hk0 : 0 < k) (hcod : cod < 90000) (hF : F = maskN n (fun b => μ.1 0 (b * 6 + 5) == -1)) (hV0 : 0 < vqC μ s k F n 0) : ∀ (f c mst : Nat) (ν : xM), c ≤ cod → cod < c + f → bsO (vqC μ s k F n) (fun c b => inC (k + 1) F n c μ b) n c mst ν → mst ≤ 1000001 → rT n k y hh a q u μ.1 (μ.1 36) (μ.1 37 0) (ν.1 0) → ∃ mst' ν', fM_best_l83 f (nI s) v2 (nI F) (nI cod) (zI mst) (nI c) ν = (if v2 = -1 then some (zI mst', ν') else xck 6 v2 (some (ν'.1 4 v2.toNatClampNeg, ν'))) ∧ bsO (vqC μ s k F n) (fun c b => inC (k + 1) F n c μ b) n cod mst' ν' ∧ scM ν ν' ∧ mst' ≤ 1000001
  | 0, c, mst, ν, h1, h2, hb, hm, H => absurd h2 (by omega)
  | f + 1, c, mst, ν, h1, h2, hb, hm, H => by
    unfold fM_best_l83
    by_cases hc : c = cod
    · subst hc
      rw [if_pos (nI_le (Nat.le_refl _) (by omega))]
      exact ⟨mst, ν, rfl, hb, scM_refl, hm⟩
    · have b1 := H.1.1
      have vle : vqC μ s k F n c ≤ 1000001 := ((mnQ_i k).mp (Nat.le_refl _)).1
      obtain ⟨ν1, ν2, t1, t2, t3, t4, t5, t6⟩ := M_code (c := c) (v2 := v2) (v4 := nI cod) (v5 := zI mst) (v6 := nI c) hs hk0 (by omega) H hF (fM_best_l83 f)
      rw [if_neg (nI_ge (by omega) (by omega)), t1, bnd, xk0, xl0, t2, t3]
      have w0' : ν2.1 0 0 = nI n := (t4.1 0 0 (by unfold sM; omega)).trans H.2.2.1.1
      unfold fM_best_b181 fM_best_b232
      by_cases cc : vqC μ s k F n c ≤ mst
      · rw [if_pos ((zI_le (by omega) (by omega)).mpr cc), nI_1]
        obtain ⟨m', ν', g1, g2, g3, g4⟩ := M_b83 (v2 := v2) hs hk0 hcod hF hV0 f (c + 1) mst ν2 (by omega) (by omega) (by
          rcases hb with ⟨z1, z2⟩ | ⟨cs, z1, z2, z3, z4, z5⟩
          · subst z1
            exact absurd hV0 (by omega)
          · refine Or.inr ⟨cs, by omega, z2, fun c' hc' => ?_, z4, fun b hb => by rw [t5]; exact z5 b hb⟩
            by_cases e : c' = c
            · subst e; exact cc
            · exact z3 c' (by omega)) hm (rT_sc scH_refl t4 H)
        exact ⟨m', ν', g1, g2, scM_trans t4 g3, g4⟩
      · rw [if_neg (fun z => cc ((zI_le (by omega) (by omega)).mp z))]
        obtain ⟨ν3, r1, r2, r3, r4⟩ := M_b197 (v1 := nI s) (v2 := v2) (v3 := nI F) (v4 := nI cod) (v5 := zI (vqC μ s k F n c)) (v6 := nI c) b1 (fM_best_l83 f) xfu 0 ν2 (by omega) (by show n < 0 + 100000; omega) w0'
        have r1' : fM_best_l197 (fM_best_l83 f) xfu (nI s) v2 (nI F) (nI cod) (zI (vqC μ s k F n c)) (nI c) 0 ν2 = _ := r1
        have G3 : scM ν ν3 := scM_trans t4 ⟨fun j i z => by unfold sM at z; exact r3 j i (by omega), by rw [r4], by rw [r4]⟩
        rw [r1', nI_1]
        obtain ⟨m', ν', g1, g2, g3, g4⟩ := M_b83 (v2 := v2) hs hk0 hcod hF hV0 f (c + 1) (vqC μ s k F n c) ν3 (by omega) (by omega) (by
          refine Or.inr ⟨c, by omega, rfl, fun c' hc' => ?_, fun c' hc' => ?_, fun b hb => by rw [r2 b (by omega) hb]; exact t6 b hb⟩
          · by_cases e : c' = c
            · subst e; exact Nat.le_refl _
            · rcases hb with ⟨z1, z2⟩ | ⟨cs, z1, z2, z3, z4, z5⟩
              · omega
              · have := z3 c' (by omega)
                omega
          · rcases hb with ⟨z1, z2⟩ | ⟨cs, z1, z2, z3, z4, z5⟩
            · omega
            · have := z3 c' (by omega)
              omega) vle (rT_sc scH_refl G3 H)
        exact ⟨m', ν', g1, g2, scM_trans G3 g3, g4⟩
theorem M_b49 {k F C : Nat} {v1 v2 : Int32} {ν : xM} (hk : k ≤ 4) (hF : F < 64) (hC : C = pcN F) (w1 : ν.1 0 1 = nI k) : ∀ (f e : Nat), e ≤ C → C < e + f → fM_best_l49 f v1 v2 (nI F) (nI ((k + 1) ^ e)) (nI e) ν = fM_best_l83 xfu v1 v2 (nI F) (nI ((k + 1) ^ C)) (-1) 0 ν
  | 0, e, h1, h2 => absurd h2 (by omega)
  | f + 1, e, h1, h2 => by
    have p6 := pcN_6 F hF
    unfold fM_best_l49
    rw [ones_N F hF, bnd, ← hC]
    by_cases he : e = C
    · subst he
      rw [if_pos (nI_le (Nat.le_refl _) (by omega))]
    · rw [if_neg (nI_ge (by omega) (by omega)), xk1, xl1, w1, nI_1, nI_mul, ← Nat.pow_succ, nI_1]
      exact M_b49 hk hF hC w1 f (e + 1) (by omega) (by omega)
theorem mask_ext {a b : Nat} (ha : a < 64) (hb : b < 64) (h : ∀ j, j < 6 → hoB (nI a) j = hoB (nI b) j) : a = b := by
  rw [← mask_id a ha, ← mask_id b hb]
  exact maskN_congr h
section EX
variable {B F n k : Nat}
/-- what is given to an instrument ahead of board b, by a code -/
def gvC (B F n b c i : Nat) : Nat := maskN 6 (fun j => hoB (nI F) j && decide (j < b) && (dig B F n c j == i + 1))
def opC (F b : Nat) : Nat := maskN 6 (fun j => hoB (nI F) j && decide (b ≤ j))
theorem gvC_h {b c i j : Nat} (hj : j < 6) : hoB (nI (gvC B F n b c i)) j = (hoB (nI F) j && decide (j < b) && (dig B F n c j == i + 1)) := hoB_mask (n := 6) (by decide) j hj
theorem opC_h {b j : Nat} (hj : j < 6) : hoB (nI (opC F b)) j = (hoB (nI F) j && decide (b ≤ j)) := hoB_mask (n := 6) (by decide) j hj
theorem shC_h {c i j : Nat} (hj : j < 6) : hoB (nI (shC B F n c i)) j = (hoB (nI F) j && (dig B F n c j == i + 1)) := hoB_mask (n := 6) (by decide) j hj
theorem shM_h {T i j : Nat} {w : Nat → Nat} (hj : j < 6) : hoB (nI (shM T i w)) j = (hoB (nI T) j && (w j == i + 1)) := hoB_mask (n := 6) (by decide) j hj
theorem gvC_64 {b c i : Nat} : gvC B F n b c i < 64 := mask_64 (n := 6) (by decide)
theorem opC_64 {b : Nat} : opC F b < 64 := mask_64 (n := 6) (by decide)
theorem shC_64 {c i : Nat} : shC B F n c i < 64 := mask_64 (n := 6) (by decide)
theorem shM_64 {T i : Nat} {w : Nat → Nat} : shM T i w < 64 := mask_64 (n := 6) (by decide)
/-- a digit ahead of b is that of the quotient -/
theorem dig_q {b j c c0 : Nat} (hj : j < b) (hb : b ≤ n) (h : c / B ^ cf F n b = c0 / B ^ cf F n b) : dig B F n c j = dig B F n c0 j := by
  have l := cf_le (F := F) (n := n) (b := j + 1) (b' := b) (by omega) hb
  have e : cf F n (j + 1) = cf F n b + (cf F n (j + 1) - cf F n b) := by omega
  unfold dig
  rw [e, Nat.pow_add, ← Nat.div_div_eq_div_mul, ← Nat.div_div_eq_div_mul, h]
theorem dgl {x a' e E : Nat} (hB : 0 < B) (h : e + 1 ≤ E) : (a' * B ^ E + x) / B ^ e % B = x / B ^ e % B := by
  obtain ⟨d, rfl⟩ : ∃ d, E = e + 1 + d := ⟨E - (e + 1), by omega⟩
  have e1 : a' * B ^ (e + 1 + d) + x = x + B ^ e * (B * (a' * B ^ d)) := by
    rw [Nat.pow_add, Nat.pow_succ, Nat.add_comm]
    congr 1
    ac_rfl
  rw [e1, Nat.add_mul_div_left _ _ (Nat.pow_pos hB), Nat.add_mul_mod_self_left]
theorem enc_ex {w : Nat → Nat} (hB : 0 < B) : ∀ (d b : Nat), b + d = n → (∀ j, b ≤ j → j < n → hoB (nI F) j = true → w j < B) → ∃ x, x < B ^ cf F n b ∧ ∀ j, b ≤ j → j < n → hoB (nI F) j = true → x / B ^ cf F n (j + 1) % B = w j
  | 0, b, h, hw => ⟨0, Nat.pow_pos hB, fun j h1 h2 => absurd h2 (by omega)⟩
  | d + 1, b, h, hw => by
    obtain ⟨x, x1, x2⟩ := enc_ex hB d (b + 1) (by omega) (fun j h1 h2 h3 => hw j (by omega) h2 h3)
    have cs := cf_s (F := F) (n := n) (b := b) (by omega)
    by_cases c : hoB (nI F) b = true
    · rw [if_pos c] at cs
      have wb := hw b (Nat.le_refl _) (by omega) c
      refine ⟨w b * B ^ cf F n (b + 1) + x, ?_, fun j h1 h2 h3 => ?_⟩
      · rw [cs, Nat.pow_succ, Nat.mul_comm (B ^ cf F n (b + 1)) B]
        have : (w b + 1) * B ^ cf F n (b + 1) ≤ B * B ^ cf F n (b + 1) := Nat.mul_le_mul_right _ wb
        rw [Nat.succ_mul] at this
        omega
      · by_cases e : j = b
        · subst e
          rw [Nat.add_comm, Nat.mul_comm, Nat.add_mul_div_left _ _ (Nat.pow_pos hB), Nat.div_eq_of_lt x1, Nat.zero_add, Nat.mod_eq_of_lt wb]
        · have cj := cf_s (F := F) (n := n) (b := j) h2
          rw [if_pos h3] at cj
          have l := cf_le (F := F) (n := n) (b := b + 1) (b' := j) (by omega) (by omega)
          rw [dgl hB (by omega)]
          exact x2 j (by omega) h2 h3
    · rw [if_neg c] at cs
      refine ⟨x, by rw [cs]; exact x1, fun j h1 h2 h3 => ?_⟩
      by_cases e : j = b
      · subst e
        exact absurd h3 c
      · exact x2 j (by omega) h2 h3
theorem PW_code {Q : Nat → Nat → Nat} {b c0 v : Nat} (hn : n ≤ 6) (hF : F < 2 ^ n) (hb : b ≤ n) (hc0 : c0 < (k + 1) ^ cf F n 0) : PW Q (gvC (k + 1) F n b c0) k v (opC F b) ↔ ∃ c, c < (k + 1) ^ cf F n 0 ∧ c / (k + 1) ^ cf F n b = c0 / (k + 1) ^ cf F n b ∧ ∀ i, i < k → v ≤ Q i (shC (k + 1) F n c i) := by
  have Fn : ∀ j, j < 6 → hoB (nI F) j = true → j < n := fun j hj z => ho_lt n (by omega) F hF j hj z
  have join : ∀ (c : Nat) (w : Nat → Nat) (i : Nat), (∀ j, j < b → j < n → hoB (nI F) j = true → dig (k + 1) F n c0 j = dig (k + 1) F n c j) → (∀ j, b ≤ j → j < n → hoB (nI F) j = true → w j = dig (k + 1) F n c j) → (gvC (k + 1) F n b c0 i ||| shM (opC F b) i w) = shC (k + 1) F n c i := fun c w i h1 h2 => by
    obtain ⟨-, o2, o3⟩ := or_m64 _ (gvC_64 (B := k + 1) (F := F) (n := n) (b := b) (c := c0) (i := i)) _ (shM_64 (T := opC F b) (i := i) (w := w))
    refine mask_ext o2 shC_64 (fun j hj => ?_)
    rw [o3 j hj, gvC_h hj, shM_h hj, opC_h hj, shC_h hj]
    by_cases f : hoB (nI F) j = true
    · rw [f, Bool.true_and, Bool.true_and, Bool.true_and]
      by_cases l : j < b
      · rw [decide_eq_true l, decide_eq_false (show ¬ b ≤ j by omega), Bool.true_and, Bool.false_and, Bool.or_false, h1 j l (Fn j hj f) f]
      · rw [decide_eq_false l, decide_eq_true (show b ≤ j by omega), Bool.false_and, Bool.true_and, Bool.false_or, h2 j (by omega) (Fn j hj f) f]
    · rw [Bool.eq_false_iff.mpr f, Bool.false_and, Bool.false_and, Bool.false_and, Bool.false_and, Bool.or_self, Bool.false_and]
  constructor
  · rintro ⟨w, w1, w2⟩
    obtain ⟨x, x1, x2⟩ := enc_ex (B := k + 1) (F := F) (n := n) (w := w) (by omega) (n - b) b (by omega) (fun j h1 h2 h3 => by
      have := w1 j (by omega) (by rw [opC_h (by omega), h3, decide_eq_true h1]; rfl)
      omega)
    have pB : 0 < (k + 1) ^ cf F n b := Nat.pow_pos (by omega)
    have eq : (c0 / (k + 1) ^ cf F n b * (k + 1) ^ cf F n b + x) / (k + 1) ^ cf F n b = c0 / (k + 1) ^ cf F n b := by
      rw [Nat.add_comm, Nat.mul_comm, Nat.add_mul_div_left _ _ pB, Nat.div_eq_of_lt x1, Nat.zero_add]
    refine ⟨c0 / (k + 1) ^ cf F n b * (k + 1) ^ cf F n b + x, ?_, eq, fun i hi => ?_⟩
    · have l := cf_le (F := F) (n := n) (b := 0) (b' := b) (by omega) hb
      have e : (k + 1) ^ cf F n 0 = (k + 1) ^ (cf F n 0 - cf F n b) * (k + 1) ^ cf F n b := by
        rw [← Nat.pow_add, Nat.sub_add_cancel l]
      have q : c0 / (k + 1) ^ cf F n b < (k + 1) ^ (cf F n 0 - cf F n b) := by
        rw [Nat.div_lt_iff_lt_mul pB, ← e]
        exact hc0
      have : (c0 / (k + 1) ^ cf F n b + 1) * (k + 1) ^ cf F n b ≤ (k + 1) ^ (cf F n 0 - cf F n b) * (k + 1) ^ cf F n b := Nat.mul_le_mul_right _ q
      rw [Nat.succ_mul] at this
      rw [e]
      omega
    · rw [← join _ w i (fun j h1 h2 h3 => (dig_q h1 hb eq).symm) (fun j h1 h2 h3 => by
        have cj := cf_s (F := F) (n := n) (b := j) h2
        rw [if_pos h3] at cj
        have l := cf_le (F := F) (n := n) (b := b) (b' := j) h1 (by omega)
        unfold dig
        rw [dgl (by omega) (by omega)]
        exact (x2 j h1 h2 h3).symm)]
      exact w2 i hi
  · rintro ⟨c, c1, c2, c3⟩
    refine ⟨dig (k + 1) F n c, fun j hj z => ?_, fun i hi => ?_⟩
    · have : dig (k + 1) F n c j < k + 1 := Nat.mod_lt _ (by omega)
      omega
    · rw [join c (dig (k + 1) F n c) i (fun j h1 h2 h3 => (dig_q h1 hb c2).symm) (fun j h1 h2 h3 => rfl)]
      exact c3 i hi
end EX
