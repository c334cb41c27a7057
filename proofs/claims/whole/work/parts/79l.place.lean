/-! STEPS: best; where a board is first -/
theorem clr_64 : ∀ a, a < 64 → ∀ b, b < 6 → (nI a &&& (((1 : Int32) <<< (nI b &&& 31)) ^^^ (-1 : Int32))) = nI (a &&& (63 - 2 ^ b)) ∧ (a &&& (63 - 2 ^ b)) < 64 ∧ ∀ j, j < 6 → hoB (nI (a &&& (63 - 2 ^ b))) j = (hoB (nI a) j && !(j == b)) := by decide +kernel
section PLC
variable {Q : Nat → Nat → Nat} {k n F cs mst : Nat}
theorem opC_next {b : Nat} (hb : b < 6) : (nI (opC F b) &&& (((1 : Int32) <<< (nI b &&& 31)) ^^^ (-1 : Int32))) = nI (opC F (b + 1)) := by
  obtain ⟨c1, c2, c3⟩ := clr_64 _ (opC_64 (F := F) (b := b)) b hb
  rw [c1]
  congr 1
  refine mask_ext c2 opC_64 (fun j hj => ?_)
  rw [c3 j hj, opC_h hj, opC_h hj]
  by_cases e : j = b
  · subst e
    rw [beq_self_eq_true, Bool.not_true, Bool.and_false, decide_eq_false (show ¬ j + 1 ≤ j by omega), Bool.and_false]
  · rw [beq_false_of_ne e, Bool.not_false, Bool.and_true]
    by_cases l : b ≤ j
    · rw [decide_eq_true l, decide_eq_true (show b + 1 ≤ j by omega)]
    · rw [decide_eq_false l, decide_eq_false (show ¬ b + 1 ≤ j by omega)]
theorem opC_skip {b : Nat} (h : ¬ hoB (nI F) b = true) : opC F b = opC F (b + 1) := by
  refine mask_ext opC_64 opC_64 (fun j hj => ?_)
  rw [opC_h hj, opC_h hj]
  by_cases e : j = b
  · subst e
    rw [Bool.eq_false_iff.mpr h, Bool.false_and, Bool.false_and]
  · by_cases l : b ≤ j
    · rw [decide_eq_true l, decide_eq_true (show b + 1 ≤ j by omega)]
    · rw [decide_eq_false l, decide_eq_false (show ¬ b + 1 ≤ j by omega)]
theorem gvC_skip {b i : Nat} (h : ¬ hoB (nI F) b = true) : gvC (k + 1) F n (b + 1) cs i = gvC (k + 1) F n b cs i := by
  refine mask_ext gvC_64 gvC_64 (fun j hj => ?_)
  rw [gvC_h hj, gvC_h hj]
  by_cases e : j = b
  · subst e
    simp only [Bool.eq_false_iff.mpr h, Bool.false_and]
  · by_cases l : j < b
    · rw [decide_eq_true l, decide_eq_true (show j < b + 1 by omega)]
    · rw [decide_eq_false l, decide_eq_false (show ¬ j < b + 1 by omega)]
theorem gvC_sb {b c i : Nat} (hF : F < 64) : sb (gvC (k + 1) F n b c i) F := (sb_ho gvC_64 hF).mpr (fun j hj z => by
  rw [gvC_h hj, Bool.and_eq_true, Bool.and_eq_true] at z
  exact z.1.1)
theorem opC_sb {b : Nat} (hF : F < 64) : sb (opC F b) F := (sb_ho opC_64 hF).mpr (fun j hj z => by
  rw [opC_h hj, Bool.and_eq_true] at z
  exact z.1)
theorem opC_0 (hF : F < 64) : opC F 0 = F := by
  refine mask_ext opC_64 hF (fun j hj => ?_)
  rw [opC_h hj, decide_eq_true (Nat.zero_le j), Bool.and_true]
theorem gvC_0 {c i : Nat} : gvC (k + 1) F n 0 c i = 0 := by
  refine mask_ext gvC_64 (by decide) (fun j hj => ?_)
  rw [gvC_h hj, decide_eq_false (Nat.not_lt_zero j), Bool.and_false, Bool.false_and]
  exact (hoB_0 j hj).symm
/-- the code with digit d at b, behind the best one's -/
def cdC (B F n cs b d : Nat) : Nat := (cs / B ^ cf F n b * B + d) * B ^ cf F n (b + 1)
theorem cdC_q {b d : Nat} : cdC (k + 1) F n cs b d / (k + 1) ^ cf F n (b + 1) = cs / (k + 1) ^ cf F n b * (k + 1) + d := Nat.mul_div_cancel _ (Nat.pow_pos (by omega))
theorem cdC_q2 {b d : Nat} (hb : b < n) (h : hoB (nI F) b = true) (hd : d < k + 1) : cdC (k + 1) F n cs b d / (k + 1) ^ cf F n b = cs / (k + 1) ^ cf F n b := by
  rw [← code_s hb h, cdC_q, Nat.add_comm, Nat.add_mul_div_right _ _ (by omega), Nat.div_eq_of_lt hd, Nat.zero_add]
theorem cdC_lt {b d : Nat} (hb : b < n) (h : hoB (nI F) b = true) (hd : d < k + 1) (hcs : cs < (k + 1) ^ cf F n 0) : cdC (k + 1) F n cs b d < (k + 1) ^ cf F n 0 := by
  have c1 := cf_s (F := F) (n := n) (b := b) hb
  rw [if_pos h] at c1
  have l := cf_le (F := F) (n := n) (b := 0) (b' := b) (by omega) (by omega)
  have e : (k + 1) ^ cf F n 0 = (k + 1) ^ (cf F n 0 - cf F n b) * (k + 1) ^ cf F n b := by
    rw [← Nat.pow_add, Nat.sub_add_cancel l]
  have q : cs / (k + 1) ^ cf F n b < (k + 1) ^ (cf F n 0 - cf F n b) := by
    rw [Nat.div_lt_iff_lt_mul (Nat.pow_pos (by omega)), ← e]
    exact hcs
  have e2 : (k + 1) ^ cf F n b = (k + 1) * (k + 1) ^ cf F n (b + 1) := by rw [c1, Nat.pow_succ, Nat.mul_comm]
  have p : 0 < (k + 1) ^ cf F n (b + 1) := Nat.pow_pos (by omega)
  unfold cdC
  rw [e, e2, ← Nat.mul_assoc]
  refine Nat.mul_lt_mul_of_pos_right ?_ p
  have : (cs / (k + 1) ^ cf F n b + 1) * (k + 1) ≤ (k + 1) ^ (cf F n 0 - cf F n b) * (k + 1) := Nat.mul_le_mul_right _ q
  rw [Nat.succ_mul, e2] at this
  omega
theorem gvC_next {b d i : Nat} (hb : b < n) (hn : n ≤ 6) (h : hoB (nI F) b = true) (hd : d < k + 1) : gvC (k + 1) F n (b + 1) (cdC (k + 1) F n cs b d) i = if d = i + 1 then gvC (k + 1) F n b cs i ||| 2 ^ b else gvC (k + 1) F n b cs i := by
  obtain ⟨-, o2, o3⟩ := or_64 _ (gvC_64 (B := k + 1) (F := F) (n := n) (b := b) (c := cs) (i := i)) b (by omega)
  have dj : ∀ j, j < b → dig (k + 1) F n (cdC (k + 1) F n cs b d) j = dig (k + 1) F n cs j := fun j hj => dig_q hj (by omega) (cdC_q2 hb h hd)
  have db : dig (k + 1) F n (cdC (k + 1) F n cs b d) b = d := by
    unfold dig
    rw [cdC_q, Nat.add_comm, Nat.add_mul_mod_self_right, Nat.mod_eq_of_lt hd]
  have b64 : (if d = i + 1 then gvC (k + 1) F n b cs i ||| 2 ^ b else gvC (k + 1) F n b cs i) < 64 := by
    by_cases c : d = i + 1
    · rw [if_pos c]; exact o2
    · rw [if_neg c]; exact gvC_64
  refine mask_ext gvC_64 b64 (fun j hj => ?_)
  rw [gvC_h hj]
  by_cases e : j = b
  · subst e
    rw [h, decide_eq_true (show j < j + 1 by omega), db, Bool.true_and, Bool.true_and]
    by_cases c : d = i + 1
    · rw [if_pos c, o3 j hj, beq_iff_eq.mpr c, beq_self_eq_true, Bool.or_true]
    · rw [if_neg c, beq_false_of_ne c, gvC_h hj, decide_eq_false (Nat.lt_irrefl j), Bool.and_false, Bool.false_and]
  · have r : hoB (nI (if d = i + 1 then gvC (k + 1) F n b cs i ||| 2 ^ b else gvC (k + 1) F n b cs i)) j = hoB (nI (gvC (k + 1) F n b cs i)) j := by
      by_cases c : d = i + 1
      · rw [if_pos c, o3 j hj, beq_false_of_ne e, Bool.or_false]
      · rw [if_neg c]
    rw [r, gvC_h hj]
    by_cases l : j < b
    · rw [decide_eq_true l, decide_eq_true (show j < b + 1 by omega), dj j l]
    · rw [decide_eq_false l, decide_eq_false (show ¬ j < b + 1 by omega), Bool.and_false, Bool.false_and, Bool.false_and]
/-- the first of the best codes -/
def fstC (Q : Nat → Nat → Nat) (k F n cs mst : Nat) : Prop := cs < (k + 1) ^ cf F n 0 ∧ mnQ Q (shC (k + 1) F n cs) k = mst ∧ (∀ c, c < (k + 1) ^ cf F n 0 → mnQ Q (shC (k + 1) F n c) k ≤ mst) ∧ (∀ c, c < cs → mnQ Q (shC (k + 1) F n c) k < mst)
theorem mkO_g {g g' : Nat → Nat} {m : xM} (h : mkO Q g k F m) (e : ∀ i, i < k → g i = g' i) : mkO Q g' k F m := ⟨h.1, h.2.1, fun i hi => by rw [← e i hi]; exact h.2.2.1 i hi, h.2.2.2⟩
theorem mkO_fr {g : Nat → Nat} {m m' : xM} (h : mkO Q g k F m) (e : ∀ j x, j ≠ 32 → m'.1 j x = m.1 j x) : mkO Q g k F m' := ⟨by rw [e 39 0 (by decide)]; exact h.1, by rw [e 39 1 (by decide)]; exact h.2.1, fun i hi => by rw [e 33 i (by decide)]; exact h.2.2.1 i hi, fun i hi x hx z => by rw [e 31 _ (by decide)]; exact h.2.2.2 i hi x hx z⟩
/-- the most with digit d at b: best just where it may be -/
theorem most_d {b d D : Nat} {g : Nat → Nat} (hk : k ≤ 4) (hn : n ≤ 6) (hF : F < 2 ^ n) (hf : fstC Q k F n cs mst) (hm1 : 1 ≤ mst) (hm2 : mst ≤ 1000001) (hb : b < n) (h : hoB (nI F) b = true) (hd : d < k + 1) (hD1 : D ≤ 1000001) (hg : ∀ i, i < k → g i = gvC (k + 1) F n (b + 1) (cdC (k + 1) F n cs b d) i) (hD : ∀ v, 1 ≤ v → v ≤ 1000001 → (v ≤ D ↔ PW Q g k v (opC F (b + 1)))) : (d < dig (k + 1) F n cs b → D ≠ mst) ∧ (d = dig (k + 1) F n cs b → D = mst) := by
  obtain ⟨f1, f2, f3, f4⟩ := hf
  have pw : ∀ v, PW Q g k v (opC F (b + 1)) ↔ ∃ c, c < (k + 1) ^ cf F n 0 ∧ c / (k + 1) ^ cf F n (b + 1) = cs / (k + 1) ^ cf F n b * (k + 1) + d ∧ ∀ i, i < k → v ≤ Q i (shC (k + 1) F n c i) := fun v => by
    have e := PW_code (Q := Q) (v := v) hn hF (b := b + 1) (by omega) (cdC_lt (k := k) hb h hd f1)
    rw [cdC_q] at e
    rw [← e]
    constructor
    · rintro ⟨w, w1, w2⟩
      exact ⟨w, w1, fun i hi => by rw [← hg i hi]; exact w2 i hi⟩
    · rintro ⟨w, w1, w2⟩
      exact ⟨w, w1, fun i hi => by rw [hg i hi]; exact w2 i hi⟩
  have Dle : D ≤ mst := by
    by_cases c : D ≤ mst
    · exact c
    · obtain ⟨c', c1, -, c3⟩ := (pw (mst + 1)).mp ((hD (mst + 1) (by omega) (by omega)).mp (by omega))
      have := (mnQ_i (Q := Q) (sh := shC (k + 1) F n c') (v := mst + 1) k).mpr ⟨by omega, c3⟩
      have := f3 c' c1
      omega
  have qs : cs / (k + 1) ^ cf F n (b + 1) = cs / (k + 1) ^ cf F n b * (k + 1) + dig (k + 1) F n cs b := by
    unfold dig
    rw [← code_s hb h, Nat.mul_comm]
    exact (Nat.div_add_mod _ _).symm
  constructor
  · rintro hlt rfl
    obtain ⟨c', c1, c2, c3⟩ := (pw D).mp ((hD D hm1 hm2).mp (Nat.le_refl _))
    have v1 := (mnQ_i (Q := Q) (sh := shC (k + 1) F n c') (v := D) k).mpr ⟨hm2, c3⟩
    have lt : c' < cs := by
      by_cases z : c' < cs
      · exact z
      · have : cs / (k + 1) ^ cf F n (b + 1) ≤ c' / (k + 1) ^ cf F n (b + 1) := Nat.div_le_div_right (by omega)
        omega
    have := f4 c' lt
    omega
  · rintro rfl
    have v1 := (mnQ_i (Q := Q) (sh := shC (k + 1) F n cs) (v := mst) k).mp (by omega)
    have := (hD mst hm1 hm2).mpr ((pw mst).mpr ⟨cs, f1, qs, v1.2⟩)
    omega
theorem K_fp14 {b : Nat} (hk : k ≤ 4) (hn : n ≤ 6) (hF : F < 2 ^ n) (hQ : ∀ i x, Q i x ≤ 1001) (hf : fstC Q k F n cs mst) (hm1 : 1 ≤ mst) (hm2 : mst ≤ 1000001) (hb : b < n) (h : hoB (nI F) b = true) : ∀ (f i : Nat) (m : xM), i ≤ k → k < i + f → i < dig (k + 1) F n cs b → mkO Q (gvC (k + 1) F n b cs) k F m → ∃ m', fK_firstPlace_l14 f (nI b) (nI (opC F (b + 1))) (zI mst) (nI i) m = some (zI (dig (k + 1) F n cs b), m') ∧ mkO Q (gvC (k + 1) F n (b + 1) cs) k F m' ∧ (∀ j x, j ≠ 32 → j ≠ 33 → m'.1 j x = m.1 j x) ∧ m'.2 = m.2
  | 0, i, m, h1, h2, h3, O => absurd h2 (by omega)
  | f + 1, i, m, h1, h2, h3, O => by
    have h64 := pow64 hn
    have dk : dig (k + 1) F n cs b < k + 1 := Nat.mod_lt _ (by omega)
    unfold fK_firstPlace_l14
    rw [O.1]
    obtain ⟨o1, o2, -⟩ := or_64 _ (gvC_64 (B := k + 1) (F := F) (n := n) (b := b) (c := cs) (i := i)) b (by omega)
    rw [if_neg (nI_ge (by omega) (by omega)), T33 (by omega), bnd, O.2.2.1 i (by omega), o1, T_put (t := 33) (r := i) (c := 0) (v2 := 0) (by decide) rfl rfl (by decide) (by show i < 4; omega), bnd, show i * wN 33 + 0 = i by show i * 1 + 0 = i; omega]
    have gn := fun i' => gvC_next (k := k) (cs := cs) (d := i + 1) (i := i') hb hn h (by omega)
    have O1 : mkO Q (gvC (k + 1) F n (b + 1) (cdC (k + 1) F n cs b (i + 1))) k F (xset m 33 i (nI (gvC (k + 1) F n b cs i ||| 2 ^ b))) := by
      obtain ⟨p1, p2, p3, p4⟩ := O
      refine ⟨by simp (disch := omega) only [xset_ne, xset_nj, xset_eq, Nat.add_zero]; exact p1, by simp (disch := omega) only [xset_ne, xset_nj, xset_eq, Nat.add_zero]; exact p2, fun i' hi' => ?_, fun i' hi' x hx z => by simp (disch := omega) only [xset_ne, xset_nj, xset_eq, Nat.add_zero]; exact p4 i' hi' x hx z⟩
      rw [gn i']
      by_cases e : i' = i
      · subst e
        rw [if_pos rfl, xset_eq]
      · rw [if_neg (by omega)]
        simp (disch := omega) only [xset_ne, xset_nj, xset_eq, Nat.add_zero]
        exact p3 i' hi'
    obtain ⟨D, m1, d1, d2, d3, d4, d5⟩ := K_mol (op := opC F (b + 1)) hk (by omega) opC_64 (opC_sb (by omega)) hQ (fun i hi => ⟨gvC_64, gvC_sb (by omega)⟩) O1
    obtain ⟨e1, e2⟩ := most_d hk hn hF hf hm1 hm2 hb h (d := i + 1) (by omega) d1 (fun _ _ => rfl) d3
    rw [d2, bnd]
    by_cases c : D = mst
    · have ed : i + 1 = dig (k + 1) F n cs b := by
        by_cases z : i + 1 < dig (k + 1) F n cs b
        · exact absurd c (e1 z)
        · omega
      rw [if_pos (by rw [c])]
      refine ⟨m1, by rw [← zI_s i, ed], mkO_g (mkO_fr O1 d4) (fun i' hi' => ?_), fun j x q1 q2 => ?_, d5⟩
      · rw [gn i', ← gvC_next (k := k) (cs := cs) (i := i') hb hn h (d := i + 1) (by omega), ed]
        refine mask_ext gvC_64 gvC_64 (fun j hj => ?_)
        rw [gvC_h hj, gvC_h hj]
        have q2 := cdC_q2 (k := k) (cs := cs) (d := dig (k + 1) F n cs b) hb h dk
        by_cases l : j < b
        · rw [dig_q l (by omega) q2]
        · by_cases l2 : j = b
          · subst l2
            have : dig (k + 1) F n (cdC (k + 1) F n cs j (dig (k + 1) F n cs j)) j = dig (k + 1) F n cs j := by
              show cdC (k + 1) F n cs j (dig (k + 1) F n cs j) / (k + 1) ^ cf F n (j + 1) % (k + 1) = _
              rw [cdC_q, Nat.add_comm, Nat.add_mul_mod_self_right, Nat.mod_eq_of_lt dk]
            rw [this]
          · rw [decide_eq_false (show ¬ j < b + 1 by omega), Bool.and_false, Bool.false_and, Bool.false_and]
      · rw [d4 j x q1]
        simp (disch := omega) only [xset_ne, xset_nj, xset_eq, Nat.add_zero]
    · have ne : i + 1 ≠ dig (k + 1) F n cs b := fun z => c (e2 z)
      rw [if_neg (fun z => c ((zI_eq (by omega) (by omega)).mp z)), T_put (t := 33) (r := i) (c := 0) (v2 := 0) (by decide) rfl rfl (by decide) (by show i < 4; omega), bnd, show i * wN 33 + 0 = i by show i * 1 + 0 = i; omega, nI_1]
      have O2 : mkO Q (gvC (k + 1) F n b cs) k F (xset m1 33 i (nI (gvC (k + 1) F n b cs i))) := by
        obtain ⟨p1, p2, p3, p4⟩ := mkO_fr O1 d4
        refine ⟨by simp (disch := omega) only [xset_ne, xset_nj, xset_eq, Nat.add_zero]; exact p1, by simp (disch := omega) only [xset_ne, xset_nj, xset_eq, Nat.add_zero]; exact p2, fun i' hi' => ?_, fun i' hi' x hx z => by simp (disch := omega) only [xset_ne, xset_nj, xset_eq, Nat.add_zero]; exact p4 i' hi' x hx z⟩
        by_cases e : i' = i
        · subst e
          exact xset_eq
        · have q := p3 i' hi'
          rw [gn i', if_neg (by omega)] at q
          simp (disch := omega) only [xset_ne, xset_nj, xset_eq, Nat.add_zero]
          exact q
      obtain ⟨m2, r1, r2, r3, r4⟩ := K_fp14 hk hn hF hQ hf hm1 hm2 hb h f (i + 1) (xset m1 33 i (nI (gvC (k + 1) F n b cs i))) (by omega) (by omega) (by omega) O2
      refine ⟨m2, r1, r2, fun j x q1 q2 => ?_, r4.trans d5⟩
      rw [r3 j x q1 q2]
      simp (disch := omega) only [xset_ne, xset_nj, xset_eq, Nat.add_zero]
      rw [d4 j x q1]
      simp (disch := omega) only [xset_ne, xset_nj, xset_eq, Nat.add_zero]
theorem K_fp {b : Nat} {m : xM} (hk : k ≤ 4) (hn : n ≤ 6) (hF : F < 2 ^ n) (hQ : ∀ i x, Q i x ≤ 1001) (hf : fstC Q k F n cs mst) (hm1 : 1 ≤ mst) (hm2 : mst ≤ 1000001) (hb : b < n) (h : hoB (nI F) b = true) (O : mkO Q (gvC (k + 1) F n b cs) k F m) : ∃ m', fK_firstPlace (nI b) (nI (opC F (b + 1))) (zI mst) m = some (zI (dig (k + 1) F n cs b), m') ∧ mkO Q (gvC (k + 1) F n (b + 1) cs) k F m' ∧ (∀ j x, j ≠ 32 → j ≠ 33 → m'.1 j x = m.1 j x) ∧ m'.2 = m.2 := by
  have h64 := pow64 hn
  have dk : dig (k + 1) F n cs b < k + 1 := Nat.mod_lt _ (by omega)
  obtain ⟨D, m1, d1, d2, d3, d4, d5⟩ := K_mol (op := opC F (b + 1)) hk (by omega) opC_64 (opC_sb (by omega)) hQ (fun i hi => ⟨gvC_64, gvC_sb (by omega)⟩) O
  have g0 : ∀ i, i < k → gvC (k + 1) F n b cs i = gvC (k + 1) F n (b + 1) (cdC (k + 1) F n cs b 0) i := fun i hi => by
    rw [gvC_next hb hn h (by omega), if_neg (by omega)]
  obtain ⟨e1, e2⟩ := most_d hk hn hF hf hm1 hm2 hb h (d := 0) (by omega) d1 g0 d3
  unfold fK_firstPlace
  rw [d2, bnd]
  by_cases c : D = mst
  · have ed : dig (k + 1) F n cs b = 0 := by
      by_cases z : 0 < dig (k + 1) F n cs b
      · exact absurd c (e1 z)
      · omega
    rw [if_pos (by rw [c]), ed]
    refine ⟨m1, rfl, mkO_g (mkO_fr O d4) (fun i hi => ?_), fun j x q1 q2 => d4 j x q1, d5⟩
    refine mask_ext gvC_64 gvC_64 (fun j hj => ?_)
    rw [gvC_h hj, gvC_h hj]
    by_cases l : j < b
    · rw [decide_eq_true l, decide_eq_true (show j < b + 1 by omega)]
    · by_cases l2 : j = b
      · subst l2
        rw [ed, decide_eq_false l, beq_false_of_ne (show 0 ≠ i + 1 by omega), Bool.and_false, Bool.and_false]
      · rw [decide_eq_false l, decide_eq_false (show ¬ j < b + 1 by omega)]
  · have pos : 0 < dig (k + 1) F n cs b := by
      by_cases z : dig (k + 1) F n cs b = 0
      · exact absurd (e2 z.symm) c
      · omega
    rw [if_neg (fun z => c ((zI_eq (by omega) (by omega)).mp z))]
    obtain ⟨m2, r1, r2, r3, r4⟩ := K_fp14 hk hn hF hQ hf hm1 hm2 hb h xfu 0 m1 (by omega) (by show k < 0 + 100000; omega) pos (mkO_fr O d4)
    exact ⟨m2, r1, r2, fun j x q1 q2 => (r3 j x q1 q2).trans (d4 j x q1), r4.trans d5⟩
theorem K_l20 {wb : Nat} (hk : k ≤ 4) (hn : n ≤ 6) (hF : F < 2 ^ n) (hQ : ∀ i x, Q i x ≤ 1001) (hf : fstC Q k F n cs mst) (hm1 : 1 ≤ mst) (hm2 : mst ≤ 1000001) (hw : wb < n) (h : hoB (nI F) wb = true) : ∀ (f b : Nat) (pl : Int32) (m : xM), b ≤ wb + 1 → wb + 1 < b + f → (b = wb + 1 → pl = zI (dig (k + 1) F n cs wb)) → mkO Q (gvC (k + 1) F n b cs) k F m → ∃ m', fK_placeOf_l20 f (nI wb) (zI mst) (nI (opC F b)) pl (nI b) m = some (zI (dig (k + 1) F n cs wb), m') ∧ (∀ j x, j ≠ 32 → j ≠ 33 → m'.1 j x = m.1 j x) ∧ m'.2 = m.2
  | 0, b, pl, m, h1, h2, h3, O => absurd h2 (by omega)
  | f + 1, b, pl, m, h1, h2, h3, O => by
    unfold fK_placeOf_l20
    by_cases hb : b = wb + 1
    · subst hb
      rw [if_pos (nI_lt (by omega) (by omega)), h3 rfl]
      exact ⟨m, rfl, fun _ _ _ _ => rfl, rfl⟩
    · rw [if_neg (nI_nlt (by omega) (by omega)), if_neg (show ¬ (6 : Int32) ≤ nI b from nI_ge (b := 6) (by omega) (by decide)), O.2.1, holds_eq, opC_next (by omega)]
      unfold fK_placeOf_b64
      rw [nI_1]
      by_cases c : hoB (nI F) b = true
      · obtain ⟨m1, r1, r2, r3, r4⟩ := K_fp hk hn hF hQ hf hm1 hm2 (b := b) (by omega) c O
        rw [if_pos c, r1, bnd]
        obtain ⟨m2, s1, s2, s3⟩ := K_l20 hk hn hF hQ hf hm1 hm2 hw h f (b + 1) (zI (dig (k + 1) F n cs b)) m1 (by omega) (by omega) (fun z => by rw [show b = wb by omega]) r2
        exact ⟨m2, s1, fun j x q1 q2 => (s2 j x q1 q2).trans (r3 j x q1 q2), s3.trans r4⟩
      · rw [if_neg c, opC_skip c]
        exact K_l20 hk hn hF hQ hf hm1 hm2 hw h f (b + 1) pl m (by omega) (by omega) (fun z => by
          rw [show b = wb by omega] at c
          exact absurd h c) (mkO_g O (fun i hi => (gvC_skip c).symm))
/-- the most of all ways -/
theorem most_0 {m : xM} (hk : k ≤ 4) (hn : n ≤ 6) (hF : F < 2 ^ n) (hQ : ∀ i x, Q i x ≤ 1001) (hf : fstC Q k F n cs mst) (hm1 : 1 ≤ mst) (hm2 : mst ≤ 1000001) (O : mkO Q (gvC (k + 1) F n 0 cs) k F m) : ∃ m', fK_mostOfLeast (nI F) m = some (zI mst, m') ∧ mkO Q (gvC (k + 1) F n 0 cs) k F m' ∧ (∀ j x, j ≠ 32 → m'.1 j x = m.1 j x) ∧ m'.2 = m.2 := by
  have h64 := pow64 hn
  obtain ⟨D, m1, d1, d2, d3, d4, d5⟩ := K_mol (op := opC F 0) hk (by omega) opC_64 (opC_sb (by omega)) hQ (fun i hi => ⟨gvC_64, gvC_sb (by omega)⟩) O
  obtain ⟨f1, f2, f3, f4⟩ := hf
  have pw : ∀ v, PW Q (gvC (k + 1) F n 0 cs) k v (opC F 0) ↔ ∃ c, c < (k + 1) ^ cf F n 0 ∧ c / (k + 1) ^ cf F n 0 = cs / (k + 1) ^ cf F n 0 ∧ ∀ i, i < k → v ≤ Q i (shC (k + 1) F n c i) := fun v => PW_code (Q := Q) (v := v) hn hF (b := 0) (by omega) f1
  have e : D = mst := by
    refine Nat.le_antisymm ?_ ?_
    · by_cases c : D ≤ mst
      · exact c
      · obtain ⟨c', c1, -, c3⟩ := (pw (mst + 1)).mp ((d3 (mst + 1) (by omega) (by omega)).mp (by omega))
        have := (mnQ_i (Q := Q) (sh := shC (k + 1) F n c') (v := mst + 1) k).mpr ⟨by omega, c3⟩
        have := f3 c' c1
        omega
    · have v1 := (mnQ_i (Q := Q) (sh := shC (k + 1) F n cs) (v := mst) k).mp (by omega)
      exact (d3 mst hm1 hm2).mpr ((pw mst).mpr ⟨cs, f1, rfl, v1.2⟩)
  rw [opC_0 (by omega), e] at d2
  exact ⟨m1, d2, mkO_fr O d4, d4, d5⟩
end PLC
