/-! STEPS: read; a number, a stop, a word, in both -/
section WRD
variable {tx : Nat → Nat} {L : Nat}
theorem dig_let {q : Nat} (h : inR 48 57 tx q = true) : ¬ inR 97 122 tx q = true := fun z => by
  have z1 := inR_i.mp h
  have z2 := inR_i.mp z
  omega
theorem ed_no {q : Nat} (hq : q ≤ L) (h : ¬ (q < L ∧ inR 48 57 tx q = true)) : ed tx L q = q := by
  by_cases c : q < L
  · exact ru_no c (Bool.eq_false_iff.mpr (fun z => h ⟨c, z⟩))
  · rw [show q = L by omega]
    exact ru_L
theorem tS_num {q : Nat} (hq : q ≤ L) : tS tx L q = 1 ↔ 1 ≤ ed tx L q - q ∧ ed tx L q - q ≤ 2 := by
  unfold tS
  by_cases c0 : q = L
  · rw [if_pos c0, ed_no hq (fun z => by omega)]
    exact ⟨fun z => absurd z (by decide), fun z => by omega⟩
  · rw [if_neg c0]
    by_cases c2 : inR 48 57 tx q = true
    · have g : q < ed tx L q := ru_yes (by omega) c2
      rw [if_neg (dig_let c2), if_pos c2]
      by_cases c3 : ed tx L q - q ≤ 2
      · rw [if_pos c3]
        exact ⟨fun _ => ⟨by omega, c3⟩, fun _ => rfl⟩
      · rw [if_neg c3]
        exact ⟨fun z => absurd z (by decide), fun z => absurd z.2 c3⟩
    · rw [ed_no hq (fun z => c2 z.2), if_neg c2]
      refine ⟨fun z => ?_, fun z => by omega⟩
      by_cases c1 : inR 97 122 tx q = true
      · rw [if_pos c1] at z
        exact absurd z (by decide)
      · rw [if_neg c1] at z
        by_cases c3 : tx q = 59
        · rw [if_pos c3] at z
          exact absurd z (by decide)
        · rw [if_neg c3] at z
          exact absurd z (by decide)
theorem dg2 : ∀ a, a < 10 → nI (a + 48) - 48 = nI a ∧ ∀ b, b < 10 → 10 * (nI (a + 48) - 48) + nI (b + 48) - 48 = nI (10 * a + b) := by decide +kernel
theorem tV_num {q : Nat} (hq : q ≤ L) (h : 1 ≤ ed tx L q - q ∧ ed tx L q - q ≤ 2) : tV tx L q = nm tx q (ed tx L q - q) ∧ nx tx L q = ed tx L q ∧ q < ed tx L q ∧ ed tx L q ≤ L ∧ ∃ x, x ≤ 99 ∧ nm tx q (ed tx L q - q) = nI x := by
  have c : q < L ∧ inR 48 57 tx q = true := by
    by_cases c : q < L ∧ inR 48 57 tx q = true
    · exact c
    · have := ed_no hq c
      omega
  have el' : ed tx L q ≤ L := ru_le hq
  have ir := fun j h1 h2 => inR_i.mp (ru_in (P := inR 48 57 tx) (L := L) (L - q) q (by omega) j h1 h2)
  refine ⟨?_, ?_, by omega, el', ?_⟩
  · unfold tV nm
    rw [if_neg (show ¬ q = L by omega), if_neg (dig_let c.2), if_pos c.2, if_neg (show ¬ ed tx L q - q = 0 by omega)]
  · unfold nx tend
    rw [if_pos c.1, if_neg (dig_let c.2), if_pos c.2]
  · obtain ⟨a1, a2⟩ := ir q (Nat.le_refl _) (by show q < ed tx L q; omega)
    obtain ⟨d1, d2⟩ := dg2 (tx q - 48) (by omega)
    rw [show tx q - 48 + 48 = tx q by omega] at d1 d2
    unfold nm nv
    rw [if_neg (show ¬ ed tx L q - q = 0 by omega)]
    by_cases c1 : ed tx L q - q = 1
    · rw [if_pos c1]
      exact ⟨tx q - 48, by omega, d1⟩
    · obtain ⟨b1, b2⟩ := ir (q + 1) (by omega) (by show q + 1 < ed tx L q; omega)
      have d3 := d2 (tx (q + 1) - 48) (by omega)
      rw [show tx (q + 1) - 48 + 48 = tx (q + 1) by omega] at d3
      rw [if_neg c1]
      exact ⟨10 * (tx q - 48) + (tx (q + 1) - 48), by omega, d3⟩
theorem tS_stop {q : Nat} (hq : q ≤ L) : tS tx L q = 2 ↔ q < L ∧ tx q = 59 := by
  unfold tS
  by_cases c0 : q = L
  · rw [if_pos c0]
    exact ⟨fun z => absurd z (by decide), fun z => by omega⟩
  · rw [if_neg c0]
    by_cases c1 : inR 97 122 tx q = true
    · rw [if_pos c1]
      have := inR_i.mp c1
      exact ⟨fun z => absurd z (by decide), fun z => by omega⟩
    · rw [if_neg c1]
      by_cases c2 : inR 48 57 tx q = true
      · rw [if_pos c2]
        have := inR_i.mp c2
        refine ⟨fun z => ?_, fun z => by omega⟩
        by_cases c3 : ed tx L q - q ≤ 2
        · rw [if_pos c3] at z; exact absurd z (by decide)
        · rw [if_neg c3] at z; exact absurd z (by decide)
      · rw [if_neg c2]
        by_cases c3 : tx q = 59
        · rw [if_pos c3]
          exact ⟨fun _ => ⟨by omega, c3⟩, fun _ => rfl⟩
        · rw [if_neg c3]
          exact ⟨fun z => absurd z (by decide), fun z => absurd z.2 c3⟩
theorem nx_stop {q : Nat} (h : q < L ∧ tx q = 59) : nx tx L q = q + 1 := by
  unfold nx tend
  rw [if_pos h.1, if_neg (fun z => by have := inR_i.mp z; omega), if_neg (fun z => by have := inR_i.mp z; omega)]
theorem tS_word {q : Nat} (hq : q ≤ L) : tS tx L q = 0 ↔ q < L ∧ inR 97 122 tx q = true := by
  unfold tS
  by_cases c0 : q = L
  · rw [if_pos c0]
    exact ⟨fun z => absurd z (by decide), fun z => by omega⟩
  · rw [if_neg c0]
    by_cases c1 : inR 97 122 tx q = true
    · rw [if_pos c1]
      exact ⟨fun _ => ⟨by omega, c1⟩, fun _ => rfl⟩
    · rw [if_neg c1]
      refine ⟨fun z => ?_, fun z => absurd z.2 c1⟩
      by_cases c2 : inR 48 57 tx q = true
      · rw [if_pos c2] at z
        by_cases c3 : ed tx L q - q ≤ 2
        · rw [if_pos c3] at z; exact absurd z (by decide)
        · rw [if_neg c3] at z; exact absurd z (by decide)
      · rw [if_neg c2] at z
        by_cases c3 : tx q = 59
        · rw [if_pos c3] at z; exact absurd z (by decide)
        · rw [if_neg c3] at z; exact absurd z (by decide)
theorem tS_end {q : Nat} (hq : q ≤ L) : tS tx L q = 3 ↔ q = L := by
  constructor
  · intro z
    by_cases c0 : q = L
    · exact c0
    · unfold tS at z
      rw [if_neg c0] at z
      by_cases c1 : inR 97 122 tx q = true
      · rw [if_pos c1] at z; exact absurd z (by decide)
      · rw [if_neg c1] at z
        by_cases c2 : inR 48 57 tx q = true
        · rw [if_pos c2] at z
          by_cases c3 : ed tx L q - q ≤ 2
          · rw [if_pos c3] at z; exact absurd z (by decide)
          · rw [if_neg c3] at z; exact absurd z (by decide)
        · rw [if_neg c2] at z
          by_cases c3 : tx q = 59
          · rw [if_pos c3] at z; exact absurd z (by decide)
          · rw [if_neg c3] at z; exact absurd z (by decide)
  · rintro rfl
    unfold tS
    rw [if_pos rfl]
/-- the town that is read: n boards, k instruments, year y -/
def RD (n k y : Nat) (m ν : xM) : Prop := bE n k 3 1278 m ν ∧ y ≤ 999 ∧ m.1 37 3 = nI y ∧ ν.1 0 1280 = nI y ∧ (∀ j, j < 5 → m.1 23 j = ν.1 0 (1281 + j) ∧ ∃ x, x ≤ 4 ∧ m.1 23 j = nI x) ∧ (∀ i, i < k → m.1 24 i = ν.1 0 (1322 + i)) ∧ (m.1 36 24 = nI k ∧ ν.1 0 1279 = nI k) ∧ (m.1 36 22 = 0 ∧ m.1 36 23 = 5 ∧ m.1 36 25 = 0 ∧ m.1 36 26 = 0 ∧ m.1 36 27 = 0) ∧ (ν.1 0 1326 = 0 ∧ ν.1 0 1339 = 0 ∧ ν.1 0 1370 = 0 ∧ ν.1 0 1407 = 0)
theorem bE_fr {n k β R : Nat} {m m' ν ν' : xM} (h : bE n k β R m ν) (h1 : ∀ x, m'.1 (xtb β) x = m.1 (xtb β) x) (h2 : m'.1 36 (xtb β) = m.1 36 (xtb β)) (h3 : ∀ x, ν'.1 0 x = ν.1 0 x) : bE n k β R m' ν' := by
  obtain ⟨hβ, hR, hn, hk, u0, w0, hE, hV⟩ := h
  exact ⟨hβ, hR, hn, hk, h2.trans u0, (h3 R).trans w0, fun b c hb hc => by rw [h1, h3]; exact hE b c hb hc, vB_congr (fun b c hb hc => (h1 _).symm) hV⟩
theorem RD_fr {n k y : Nat} {m m' ν ν' : xM} (h : RD n k y m ν) (F : cH m m') (G : cM ν ν') : RD n k y m' ν' := by
  obtain ⟨a1, a2, a3, a4, a5, a6, ⟨a7, a8⟩, ⟨b1, b2, b3, b4, b5⟩, c1, c2, c3, c4⟩ := h
  have f : ∀ j x, j ≠ 40 → j ≠ 41 → m'.1 j x = m.1 j x := F.1
  have g : ∀ x, ν'.1 0 x = ν.1 0 x := fun x => G.1 0 x (by omega)
  refine ⟨bE_fr a1 (fun x => f 21 x (by decide) (by decide)) (f 36 21 (by decide) (by decide)) g, a2, ?_, ?_, fun j hj => ?_, fun i hi => ?_, ⟨?_, ?_⟩, ⟨?_, ?_, ?_, ?_, ?_⟩, ?_, ?_, ?_, ?_⟩
  · rw [f _ _ (by decide) (by decide)]; exact a3
  · rw [g]; exact a4
  · rw [f _ _ (by decide) (by decide), g]; exact a5 j hj
  · rw [f _ _ (by decide) (by decide), g]; exact a6 i hi
  · rw [f _ _ (by decide) (by decide)]; exact a7
  · rw [g]; exact a8
  · rw [f _ _ (by decide) (by decide)]; exact b1
  · rw [f _ _ (by decide) (by decide)]; exact b2
  · rw [f _ _ (by decide) (by decide)]; exact b3
  · rw [f _ _ (by decide) (by decide)]; exact b4
  · rw [f _ _ (by decide) (by decide)]; exact b5
  · rw [g]; exact c1
  · rw [g]; exact c2
  · rw [g]; exact c3
  · rw [g]; exact c4
/-- both read at p -/
def RS (tx : Nat → Nat) (L p n k y : Nat) (m ν : xM) : Prop := (L ≤ 150 ∧ ∀ j, j < L → tx j ≤ 127) ∧ p ≤ L ∧ tkS tx L m p ∧ ν.1 6 1 = nI p ∧ txM tx L ν ∧ RD n k y m ν
/-- both say that the token begins at one place -/
def sE (m ν : xM) : Prop := m.1 40 1 = ν.1 6 2 ∧ ∃ s, s ≤ 150 ∧ m.1 40 1 = nI s
theorem num_both {p n k y : Nat} {lo hi : Int32} {m ν : xM} (h : RS tx L p n k y m ν) : ∃ m' ν', cH m m' ∧ cM ν ν' ∧ sE m' ν' ∧ ((∃ x p', x ≤ 99 ∧ lo ≤ nI x ∧ nI x ≤ hi ∧ p < p' ∧ fR_takeNumber lo hi m = some (nI x, m') ∧ fM_takesNumber lo hi ν = some (1, ν') ∧ ν'.1 6 3 = nI x ∧ RS tx L p' n k y m' ν') ∨ (fR_takeNumber lo hi m = some (-1, m') ∧ fM_takesNumber lo hi ν = some (0, ν'))) := by
  obtain ⟨⟨hL, hx⟩, hp, K, ha, T, D⟩ := h
  have sl : sk tx L p ≤ L := ru_le hp
  have sg : p ≤ sk tx L p := ru_ge hp
  obtain ⟨m', a1, a2, a3, a4, a5, a6⟩ := H_take K hp
  obtain ⟨ν1, b1, b2, b3, b4⟩ := M_blanks hL hx hp T ha
  have C : cM ν (xset ν1 6 3 0) := cM_set (Or.inr (Or.inr rfl)) b4
  obtain ⟨ν', res, c1, c2, c3, c4⟩ := M_n9 (lo := lo) (hi := hi) (q := sk tx L p) hL hx sl xfu 0 (xset ν1 6 3 0) sl (by show L < sk tx L p + 0 + 100000; omega) (txM_fr T C) (by simp (disch := omega) only [xset_ne, xset_nj, xset_eq, Nat.add_zero]; exact b2) (by simp (disch := omega) only [xset_ne, xset_nj, xset_eq, Nat.add_zero]; exact b3) xset_eq rfl
  have G := cM_trans C c3
  have mt' : fM_takesNumber lo hi ν = some (res, ν') := by
    unfold fM_takesNumber
    rw [b1, bnd]
    exact c1
  refine ⟨m', ν', a5, G, ⟨by rw [a3, c2], _, by omega, a3⟩, ?_⟩
  rcases c4 with ⟨r1, ⟨r2, r3, r4, r5⟩, r6, r7⟩ | ⟨r1, r2⟩
  · obtain ⟨t1, t2, t3, t4, x, x1, x2⟩ := tV_num sl ⟨r2, r3⟩
    rw [x2] at r4 r5 r7 t1
    subst r1
    refine Or.inl ⟨x, ed tx L (sk tx L p), x1, r4, r5, by omega, ?_, mt', r7, ⟨hL, hx⟩, t4, ?_, r6, txM_fr T G, RD_fr D a5 G⟩
    · unfold fR_takeNumber
      rw [a1, bnd, a2, (tS_num sl).mpr ⟨r2, r3⟩, if_pos rfl, a4, t1, xwb, if_pos ⟨r4, r5⟩]
    · rw [t2] at a6
      exact a6
  · subst r1
    refine Or.inr ⟨?_, mt'⟩
    unfold fR_takeNumber
    rw [a1, bnd, a2]
    by_cases c : tS tx L (sk tx L p) = 1
    · obtain ⟨r3, r4⟩ := (tS_num sl).mp c
      obtain ⟨t1, t2, t3, t4, x, x1, x2⟩ := tV_num sl ⟨r3, r4⟩
      rw [if_pos c, a4, t1, xwb, if_neg (fun z => r2 ⟨r3, r4, z.1, z.2⟩)]
    · rw [if_neg c]
theorem stop_both {p n k y : Nat} {m ν : xM} (h : RS tx L p n k y m ν) : ∃ m' ν', cH m m' ∧ cM ν ν' ∧ sE m' ν' ∧ ((∃ p', p < p' ∧ fR_takeStop m = some (1, m') ∧ fM_takesEnd ν = some (1, ν') ∧ RS tx L p' n k y m' ν') ∨ (fR_takeStop m = some (0, m') ∧ fM_takesEnd ν = some (0, ν'))) := by
  obtain ⟨⟨hL, hx⟩, hp, K, ha, T, D⟩ := h
  have sl : sk tx L p ≤ L := ru_le hp
  have sg : p ≤ sk tx L p := ru_ge hp
  obtain ⟨m', a1, a2, a3, a4, a5, a6⟩ := H_take K hp
  obtain ⟨ν1, b1, b2, b3, b4⟩ := M_blanks hL hx hp T ha
  have C : cM ν (xset ν1 6 1 (nI (sk tx L p + 1))) := cM_set (Or.inl rfl) b4
  have T1 := txM_fr T C
  have e2 : (xset ν1 6 1 (nI (sk tx L p + 1))).1 6 2 = nI (sk tx L p) := by simp (disch := omega) only [xset_ne, xset_nj, xset_eq, Nat.add_zero]; exact b3
  have M : fM_takesEnd ν = some (if sk tx L p < L ∧ tx (sk tx L p) = 59 then 1 else 0, xset ν1 6 1 (nI (sk tx L p + 1))) := by
    unfold fM_takesEnd
    rw [b1, bnd, b2, nI_1, e2, M_byte hL T1 (by omega), bnd, xnb_0, xnb_1]
    by_cases c : sk tx L p < L
    · have xq := hx _ c
      rw [if_pos c]
      by_cases d : tx (sk tx L p) = 59
      · rw [if_pos (by rw [d]; rfl), if_pos ⟨c, d⟩]
      · rw [if_neg (show ¬ nI (tx (sk tx L p)) = (59 : Int32) from fun z => d ((nI_eq (a := tx (sk tx L p)) (b := 59) (by omega) (by decide)).mp z)), if_neg (fun z => d z.2)]
    · rw [if_neg c, if_neg (by decide), if_neg (fun z => c z.1)]
  refine ⟨m', xset ν1 6 1 (nI (sk tx L p + 1)), a5, C, ⟨by rw [a3, e2], _, by omega, a3⟩, ?_⟩
  unfold fR_takeStop
  rw [a1, bnd, a2, M, xnb_0, xnb_1]
  by_cases c : sk tx L p < L ∧ tx (sk tx L p) = 59
  · rw [if_pos ((tS_stop sl).mpr c), if_pos c]
    refine Or.inl ⟨sk tx L p + 1, by omega, rfl, rfl, ⟨hL, hx⟩, by omega, ?_, xset_eq, T1, RD_fr D a5 C⟩
    rw [nx_stop c] at a6
    exact a6
  · rw [if_neg (fun z => c ((tS_stop sl).mp z)), if_neg c]
    exact Or.inr ⟨rfl, rfl⟩
/-- a letter of a word, or its end -/
def lB (tx : Nat → Nat) (q len a k : Nat) : Bool := if a = 0 then decide (len ≤ k) else decide (k < len) && (tx (q + k) == a)
theorem M_let {q len a k : Nat} {ν : xM} (hL : L ≤ 150) (hx : ∀ j, j < L → tx j ≤ 127) (T : txM tx L ν) (hs : ν.1 6 2 = nI q) (hq : q + len ≤ L) (ha : a < 128) (hk : k < 7) : fM_isLetter ν (nI k) (nI a) (nI len) = some (if lB tx q len a k = true then 1 else 0) := by
  unfold fM_isLetter lB
  rw [xnb_0, xnb_1]
  by_cases a0 : a = 0
  · subst a0
    rw [if_pos (show nI 0 = 0 from rfl), if_pos rfl]
    by_cases c : len ≤ k
    · rw [if_neg (nI_nlt c (by omega)), decide_eq_true c]
      rfl
    · rw [if_pos (nI_lt (by omega) (by omega)), decide_eq_false c]
      rfl
  · rw [if_neg (nI_ne0 (by omega) (by omega)), if_neg a0]
    by_cases c : k < len
    · have xq := hx (q + k) (by omega)
      rw [if_neg (nI_ge c (by omega)), hs, nI_add, xck_nI (by omega) (by decide), nI_clamp (by omega), T.2 (q + k) (by omega), decide_eq_true c, Bool.true_and]
      by_cases d : tx (q + k) = a
      · rw [if_pos (by rw [d]), beq_iff_eq.mpr d]
        rfl
      · rw [if_neg (fun z => d ((nI_eq (by omega) (by omega)).mp z)), beq_false_of_ne d]
        rfl
    · rw [if_pos (nI_le (by omega) (by omega)), decide_eq_false c, Bool.false_and]
      rfl
theorem st_b {b : Bool} {ρ : Type} {A B : Option ρ} : ((some (if b = true then (1 : Int32) else 0)).bind fun r => if r = 0 then A else B) = if b = true then B else A := by
  cases b with
  | true => rw [if_pos rfl, bnd, xi1, if_pos rfl]
  | false => rw [if_neg (by decide), bnd, xi0, if_neg (by decide)]
theorem ifand {b c : Bool} : (if b = true then some (if c = true then (1 : Int32) else 0) else some 0) = some (if (b && c) = true then 1 else 0) := by
  cases b with
  | true => rw [if_pos rfl, Bool.true_and]
  | false => rw [if_neg (by decide), Bool.false_and]; rfl
theorem M_isW {q len a0 a1 a2 a3 a4 a5 a6 : Nat} {ν : xM} (hL : L ≤ 150) (hx : ∀ j, j < L → tx j ≤ 127) (T : txM tx L ν) (hs : ν.1 6 2 = nI q) (he : ν.1 6 1 = nI (q + len)) (hq : q + len ≤ L) (h0 : a0 < 128) (h1 : a1 < 128) (h2 : a2 < 128) (h3 : a3 < 128) (h4 : a4 < 128) (h5 : a5 < 128) (h6 : a6 < 128) : fM_isWord ν (nI a0) (nI a1) (nI a2) (nI a3) (nI a4) (nI a5) (nI a6) = some (if (lB tx q len a0 0 && (lB tx q len a1 1 && (lB tx q len a2 2 && (lB tx q len a3 3 && (lB tx q len a4 4 && (lB tx q len a5 5 && (lB tx q len a6 6 && decide (len < 8)))))))) = true then 1 else 0) := by
  unfold fM_isWord
  have l := fun (k a : Nat) (hk : k < 7) (ha : a < 128) => M_let hL hx T hs hq ha hk
  have e : ν.1 6 1 - ν.1 6 2 = nI len := by rw [he, hs, nI_sub (by omega), Nat.add_sub_cancel_left]
  have e8 : (if (8 : Int32) ≤ nI len then some (0 : Int32) else some 1) = some (if decide (len < 8) = true then 1 else 0) := by
    by_cases c : len < 8
    · rw [if_neg (show ¬ (8 : Int32) ≤ nI len from nI_ge (b := 8) c (by decide)), decide_eq_true c]
      rfl
    · rw [if_pos (show (8 : Int32) ≤ nI len from nI_le (a := 8) (by omega) (by omega)), decide_eq_false c]
      rfl
  rw [e, show (0 : Int32) = nI 0 from rfl, show (1 : Int32) = nI 1 from rfl, show (2 : Int32) = nI 2 from rfl, show (3 : Int32) = nI 3 from rfl, show (4 : Int32) = nI 4 from rfl, show (5 : Int32) = nI 5 from rfl, show (6 : Int32) = nI 6 from rfl, l 0 a0 (by decide) h0, l 1 a1 (by decide) h1, l 2 a2 (by decide) h2, l 3 a3 (by decide) h3, l 4 a4 (by decide) h4, l 5 a5 (by decide) h5, l 6 a6 (by decide) h6, show nI 0 = 0 from rfl, show nI 1 = 1 from rfl, xnb_0, xnb_1, e8]
  simp only [st_b, ifand]
def wa (t k : Nat) : Nat := if k < wlen t then wch t k else 0
theorem mtk_i {t q : Nat} : ∀ n k, (mtk tx t q k n = true ↔ ∀ j, j < n → tx (q + (k + j)) = wch t (k + j))
  | 0, k => ⟨fun _ j hj => absurd hj (Nat.not_lt_zero j), fun _ => rfl⟩
  | n + 1, k => by
    have E : mtk tx t q k (n + 1) = ((tx (q + k) == wch t k) && mtk tx t q (k + 1) n) := rfl
    rw [E, Bool.and_eq_true, beq_iff_eq, mtk_i n (k + 1)]
    constructor
    · rintro ⟨z1, z2⟩ j hj
      by_cases e : j = 0
      · subst e; exact z1
      · have := z2 (j - 1) (by omega)
        rw [show k + 1 + (j - 1) = k + j by omega] at this
        exact this
    · intro z
      refine ⟨z 0 (by omega), fun j hj => ?_⟩
      have := z (j + 1) (by omega)
      rw [show k + (j + 1) = k + 1 + j by omega] at this
      exact this
theorem wlen_b : ∀ t, t < 7 → 3 ≤ wlen t ∧ wlen t ≤ 5 := by decide
theorem wa_b : ∀ t, t < 7 → ∀ k, k < 7 → wa t k < 128 := by decide +kernel
theorem word_t {t q len : Nat} (ht : t < 7) : (lB tx q len (wa t 0) 0 && (lB tx q len (wa t 1) 1 && (lB tx q len (wa t 2) 2 && (lB tx q len (wa t 3) 3 && (lB tx q len (wa t 4) 4 && (lB tx q len (wa t 5) 5 && (lB tx q len (wa t 6) 6 && decide (len < 8)))))))) = mt tx t q len := by
  obtain ⟨w1, w2⟩ := wlen_b t ht
  rw [Bool.eq_iff_iff]
  unfold mt
  simp only [Bool.and_eq_true, decide_eq_true_eq, beq_iff_eq]
  rw [mtk_i]
  have lz : ∀ k, k < wlen t → (lB tx q len (wa t k) k = true ↔ k < len ∧ tx (q + k) = wch t k) := fun k hk => by
    have := (wch_lt t ht k hk).2
    unfold lB wa
    rw [if_pos hk, if_neg (show ¬ wch t k = 0 by omega), Bool.and_eq_true, decide_eq_true_eq, beq_iff_eq]
  have lo : ∀ k, ¬ k < wlen t → (lB tx q len (wa t k) k = true ↔ len ≤ k) := fun k hk => by
    unfold lB wa
    rw [if_neg hk, if_pos rfl, decide_eq_true_eq]
  constructor
  · rintro ⟨z0, z1, z2, z3, z4, z5, z6, z7⟩
    have al : ∀ k, k < 7 → lB tx q len (wa t k) k = true := fun k hk => by
      rcases (show k = 0 ∨ k = 1 ∨ k = 2 ∨ k = 3 ∨ k = 4 ∨ k = 5 ∨ k = 6 by omega) with rfl | rfl | rfl | rfl | rfl | rfl | rfl
      · exact z0
      · exact z1
      · exact z2
      · exact z3
      · exact z4
      · exact z5
      · exact z6
    have g1 := (lo (wlen t) (by omega)).mp (al _ (by omega))
    have g2 := ((lz (wlen t - 1) (by omega)).mp (al _ (by omega))).1
    refine ⟨by omega, fun j hj => ?_⟩
    rw [Nat.zero_add]
    exact ((lz j hj).mp (al j (by omega))).2
  · rintro ⟨z1, z2⟩
    have al : ∀ k, lB tx q len (wa t k) k = true := fun k => by
      by_cases c : k < wlen t
      · have := z2 k c
        rw [Nat.zero_add] at this
        exact (lz k c).mpr ⟨by omega, this⟩
      · exact (lo k c).mpr (by omega)
    exact ⟨al 0, al 1, al 2, al 3, al 4, al 5, al 6, by omega⟩
theorem M_word {q len : Nat} {ν : xM} (hL : L ≤ 150) (hx : ∀ j, j < L → tx j ≤ 127) (T : txM tx L ν) (hs : ν.1 6 2 = nI q) (he : ν.1 6 1 = nI (q + len)) (hq : q + len ≤ L) : fM_wordOf ν = some (wv tx q len + 1) := by
  have w : ∀ t, t < 7 → fM_isWord ν (nI (wa t 0)) (nI (wa t 1)) (nI (wa t 2)) (nI (wa t 3)) (nI (wa t 4)) (nI (wa t 5)) (nI (wa t 6)) = some (if mt tx t q len = true then 1 else 0) := fun t ht => by
    rw [M_isW hL hx T hs he hq (wa_b t ht 0 (by decide)) (wa_b t ht 1 (by decide)) (wa_b t ht 2 (by decide)) (wa_b t ht 3 (by decide)) (wa_b t ht 4 (by decide)) (wa_b t ht 5 (by decide)) (wa_b t ht 6 (by decide)), word_t ht]
  have w0 : fM_isWord ν 116 111 119 110 0 0 0 = _ := w 0 (by decide)
  have w1 : fM_isWord ν 119 101 116 0 0 0 0 = _ := w 1 (by decide)
  have w2 : fM_isWord ν 98 111 97 114 100 0 0 = _ := w 2 (by decide)
  have w3 : fM_isWord ν 109 97 107 101 0 0 0 = _ := w 3 (by decide)
  have w4 : fM_isWord ν 99 117 116 0 0 0 0 = _ := w 4 (by decide)
  have w5 : fM_isWord ν 119 111 114 109 0 0 0 = _ := w 5 (by decide)
  have w6 : fM_isWord ν 121 101 97 114 115 0 0 = _ := w 6 (by decide)
  unfold fM_wordOf
  rw [w0, w1, w2, w3, w4, w5, w6]
  simp only [st_b]
  unfold wv
  repeat' split
  all_goals rfl
end WRD
