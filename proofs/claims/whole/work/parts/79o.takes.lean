/-! STEPS: read; numbers and stops, in both -/
theorem ru_in {P : Nat → Bool} {L : Nat} : ∀ (d p : Nat), p + d = L → ∀ j, p ≤ j → j < ru P L p → P j = true
  | 0, p, h, j, h1, h2 => by
    rw [show p = L by omega, ru_L] at h2
    omega
  | d + 1, p, h, j, h1, h2 => by
    rw [ru_s (show p < L by omega)] at h2
    by_cases c : P p = true
    · rw [if_pos c] at h2
      by_cases e : j = p
      · subst e; exact c
      · exact ru_in d (p + 1) (by omega) j (by omega) h2
    · rw [if_neg c] at h2
      omega
/-- what a reading changes: the class's cursor, the reference's -/
def cH (m m' : xM) : Prop := (∀ j x, j ≠ 40 → j ≠ 41 → m'.1 j x = m.1 j x) ∧ m'.2 = m.2
def cM (m m' : xM) : Prop := (∀ j x, (j ≠ 6 ∨ (x ≠ 1 ∧ x ≠ 2 ∧ x ≠ 3)) → m'.1 j x = m.1 j x) ∧ m'.2 = m.2
theorem cH_refl {m : xM} : cH m m := ⟨fun _ _ _ _ => rfl, rfl⟩
theorem cM_refl {m : xM} : cM m m := ⟨fun _ _ _ => rfl, rfl⟩
theorem cH_trans {a b c : xM} (h : cH a b) (g : cH b c) : cH a c := ⟨fun j i k l => (g.1 j i k l).trans (h.1 j i k l), g.2.trans h.2⟩
theorem cM_trans {a b c : xM} (h : cM a b) (g : cM b c) : cM a c := ⟨fun j i k => (g.1 j i k).trans (h.1 j i k), g.2.trans h.2⟩
theorem cH_sc {m m' : xM} (h : cH m m') : scH m m' := ⟨fun j x z => by unfold sH at z; exact h.1 j x (by omega) (by omega), by rw [h.2], by rw [h.2]⟩
theorem cM_sc {m m' : xM} (h : cM m m') : scM m m' := ⟨fun j x z => by unfold sM at z; exact h.1 j x (by omega), by rw [h.2], by rw [h.2]⟩
theorem cM_set {m m' : xM} {x : Nat} {v : Int32} (hx : x = 1 ∨ x = 2 ∨ x = 3) (h : cM m m') : cM m (xset m' 6 x v) := by
  refine ⟨fun j i z => ?_, h.2⟩
  rw [xset_at, if_neg (by omega)]
  exact h.1 j i z
def txM (tx : Nat → Nat) (L : Nat) (m : xM) : Prop := m.1 6 0 = nI L ∧ ∀ j, j < L → m.1 2 j = nI (tx j)
section TAK
variable {tx : Nat → Nat} {L : Nat}
theorem txM_fr {m m' : xM} (T : txM tx L m) (h : cM m m') : txM tx L m' := ⟨(h.1 6 0 (by omega)).trans T.1, fun j hj => (h.1 2 j (by omega)).trans (T.2 j hj)⟩
theorem M_byte {m : xM} {p : Nat} (hL : L ≤ 150) (T : txM tx L m) (hp : p < 1000) : fM_byteAt m (nI p) = some (if p < L then nI (tx p) else -1) := by
  unfold fM_byteAt
  rw [T.1]
  by_cases c : p < L
  · rw [if_pos c, if_neg (nI_ge c (by omega)), xck_nI (by omega) (by decide), nI_clamp (by omega), T.2 p c]
  · rw [if_neg c, if_pos (nI_le (by omega) (by omega))]
theorem in_N {x lo hi : Nat} {y z : Int64} (hx : x < 1000) (hl : lo < 1000) (hh : hi < 1000) (hy : y = (nI lo).toInt64) (hz : z = (nI hi).toInt64) : fM_in (nI x).toInt64 y z = some (if lo ≤ x ∧ x ≤ hi then 1 else 0) := by
  rw [fM_in_i hy hz]
  by_cases c : lo ≤ x ∧ x ≤ hi
  · rw [if_pos c, if_pos ⟨(nI_leI (by omega) (by omega)).mpr c.1, (nI_leI (by omega) (by omega)).mpr c.2⟩]
  · rw [if_neg c, if_neg (fun z => c ⟨(nI_leI (by omega) (by omega)).mp z.1, (nI_leI (by omega) (by omega)).mp z.2⟩)]
/-- a byte of a kind, or none -/
theorem in_b {p lo hi : Nat} {y z : Int64} (hx : ∀ j, j < L → tx j ≤ 127) (hl : lo < 1000) (hh : hi < 1000) (hy : y = (nI lo).toInt64) (hz : z = (nI hi).toInt64) : fM_in (if p < L then nI (tx p) else -1).toInt64 y z = some (if p < L ∧ inR lo hi tx p = true then 1 else 0) := by
  by_cases c : p < L
  · have := hx p c
    rw [if_pos c, in_N (by omega) hl hh hy hz]
    by_cases d : lo ≤ tx p ∧ tx p ≤ hi
    · rw [if_pos d, if_pos ⟨c, inR_i.mpr d⟩]
    · rw [if_neg d, if_neg (fun z => d (inR_i.mp z.2))]
  · rw [if_neg c, if_neg (fun z => c z.1), fM_in_i hy hz, if_neg (fun z => by
      have z1 := z.1
      have : (nI lo) < 0 := Int32.lt_of_le_of_lt z1 (by decide)
      exact nI_pos (by omega) this)]
theorem M_bl {p : Nat} (hL : L ≤ 150) (hx : ∀ j, j < L → tx j ≤ 127) : ∀ (f p : Nat) (m : xM), p ≤ L → L < p + f → txM tx L m → m.1 6 1 = nI p → ∃ m', fM_blanks_l0 f m = some m' ∧ m'.1 6 1 = nI (sk tx L p) ∧ m'.1 6 2 = nI (sk tx L p) ∧ cM m m'
  | 0, p, m, h1, h2, T, ha => absurd h2 (by omega)
  | f + 1, p, m, h1, h2, T, ha => by
    unfold fM_blanks_l0
    rw [ha, M_byte hL T (by omega), bnd]
    by_cases c : p < L
    · have xp := hx p c
      rw [if_pos c]
      by_cases d : tx p = 32
      · rw [if_pos (by rw [d]; rfl), nI_1]
        obtain ⟨m', g1, g2, g3, g4⟩ := M_bl (p := p) hL hx f (p + 1) (xset m 6 1 (nI (p + 1))) (by omega) (by omega) (txM_fr T (cM_set (Or.inl rfl) cM_refl)) xset_eq
        have e : sk tx L p = sk tx L (p + 1) := by
          unfold sk
          rw [ru_s c, if_pos (inR_i.mpr (by omega))]
        rw [e]
        exact ⟨m', g1, g2, g3, cM_trans (cM_set (Or.inl rfl) cM_refl) g4⟩
      · rw [if_neg (show ¬ nI (tx p) = (32 : Int32) from fun z => d ((nI_eq (a := tx p) (b := 32) (by omega) (by decide)).mp z))]
        have e : sk tx L p = p := ru_no c (Bool.eq_false_iff.mpr (fun z => d (by have := inR_i.mp z; omega)))
        rw [e]
        exact ⟨_, rfl, by simp (disch := omega) only [xset_ne, xset_nj, xset_eq, Nat.add_zero]; exact ha, xset_eq, cM_set (Or.inr (Or.inl rfl)) cM_refl⟩
    · rw [if_neg c, if_neg (by decide), show p = L by omega]
      have e : sk tx L L = L := ru_L
      rw [e]
      exact ⟨_, rfl, by simp (disch := omega) only [xset_ne, xset_nj, xset_eq, Nat.add_zero]; rw [ha, show p = L by omega], xset_eq, cM_set (Or.inr (Or.inl rfl)) cM_refl⟩
theorem M_blanks {p : Nat} {m : xM} (hL : L ≤ 150) (hx : ∀ j, j < L → tx j ≤ 127) (hp : p ≤ L) (T : txM tx L m) (ha : m.1 6 1 = nI p) : ∃ m', fM_blanks m = some m' ∧ m'.1 6 1 = nI (sk tx L p) ∧ m'.1 6 2 = nI (sk tx L p) ∧ cM m m' := M_bl (p := p) hL hx xfu p m hp (by show L < p + 100000; omega) T ha
theorem M_tw4 (hL : L ≤ 150) (hx : ∀ j, j < L → tx j ≤ 127) : ∀ (f p : Nat) (m : xM), p ≤ L → L < p + f → txM tx L m → m.1 6 1 = nI p → ∃ m', fM_takesWord_l4 f m = some m' ∧ m'.1 6 1 = nI (el tx L p) ∧ m'.1 6 2 = m.1 6 2 ∧ cM m m'
  | 0, p, m, h1, h2, T, ha => absurd h2 (by omega)
  | f + 1, p, m, h1, h2, T, ha => by
    unfold fM_takesWord_l4
    rw [ha, M_byte hL T (by omega), bnd, in_b (lo := 97) (hi := 122) (y := 97) (z := 122) hx (by decide) (by decide) rfl rfl, bnd]
    by_cases c : p < L ∧ inR 97 122 tx p = true
    · rw [if_pos c, xi1, nI_1]
      obtain ⟨m', g1, g2, g3, g4⟩ := M_tw4 hL hx f (p + 1) (xset m 6 1 (nI (p + 1))) (by omega) (by omega) (txM_fr T (cM_set (Or.inl rfl) cM_refl)) xset_eq
      have e : el tx L p = el tx L (p + 1) := by
        unfold el
        rw [ru_s c.1, if_pos c.2]
      rw [e]
      exact ⟨m', g1, g2, by rw [g3]; simp (disch := omega) only [xset_ne, xset_nj, xset_eq, Nat.add_zero], cM_trans (cM_set (Or.inl rfl) cM_refl) g4⟩
    · rw [if_neg c, xi0]
      have e : el tx L p = p := by
        by_cases d : p < L
        · exact ru_no d (Bool.eq_false_iff.mpr (fun z => c ⟨d, z⟩))
        · rw [show p = L by omega]
          exact ru_L
      rw [e]
      exact ⟨m, rfl, ha, rfl, cM_refl⟩
theorem M_takesWord {p : Nat} {m : xM} (hL : L ≤ 150) (hx : ∀ j, j < L → tx j ≤ 127) (hp : p ≤ L) (T : txM tx L m) (ha : m.1 6 1 = nI p) : ∃ m', fM_takesWord m = some m' ∧ m'.1 6 1 = nI (el tx L (sk tx L p)) ∧ m'.1 6 2 = nI (sk tx L p) ∧ cM m m' := by
  obtain ⟨m1, a1, a2, a3, a4⟩ := M_blanks hL hx hp T ha
  have sl : sk tx L p ≤ L := ru_le hp
  obtain ⟨m2, b1, b2, b3, b4⟩ := M_tw4 hL hx xfu (sk tx L p) m1 sl (by show L < sk tx L p + 100000; omega) (txM_fr T a4) a2
  refine ⟨m2, ?_, b2, b3.trans a3, cM_trans a4 b4⟩
  unfold fM_takesWord
  rw [a1, bnd]
  exact b1
/-- a number as far as it is read -/
def nm (tx : Nat → Nat) (q j : Nat) : Int32 := if j = 0 then 0 else nv tx q j
theorem nm_s {q j : Nat} : nm tx q (j + 1) = if 2 ≤ j then nm tx q j else 10 * nm tx q j + nI (tx (q + j)) - 48 := by
  unfold nm nv
  rw [if_neg (show ¬ j + 1 = 0 by omega)]
  rcases (show j = 0 ∨ j = 1 ∨ 2 ≤ j by omega) with rfl | rfl | h
  · rw [if_pos (show 0 + 1 = 1 from rfl), if_neg (show ¬ 2 ≤ 0 by decide), if_pos rfl, show (10 : Int32) * 0 = 0 from rfl, Int32.zero_add]
    rfl
  · rw [if_neg (show ¬ 1 + 1 = 1 by decide), if_neg (show ¬ 2 ≤ 1 by decide), if_neg (show ¬ 1 = 0 by decide), if_pos rfl]
  · rw [if_pos h, if_neg (show ¬ j + 1 = 1 by omega), if_neg (show ¬ j = 0 by omega), if_neg (show ¬ j = 1 by omega)]
theorem M_n9 {lo hi : Int32} {q : Nat} (hL : L ≤ 150) (hx : ∀ j, j < L → tx j ≤ 127) (hq : q ≤ L) : ∀ (f j : Nat) (m : xM), q + j ≤ L → L < q + j + f → txM tx L m → m.1 6 1 = nI (q + j) → m.1 6 2 = nI q → m.1 6 3 = nm tx q j → ed tx L q = ed tx L (q + j) → ∃ m' res, fM_takesNumber_l9 f lo hi m = some (res, m') ∧ m'.1 6 2 = nI q ∧ cM m m' ∧ ((res = 1 ∧ (1 ≤ ed tx L q - q ∧ ed tx L q - q ≤ 2 ∧ lo ≤ nm tx q (ed tx L q - q) ∧ nm tx q (ed tx L q - q) ≤ hi) ∧ m'.1 6 1 = nI (ed tx L q) ∧ m'.1 6 3 = nm tx q (ed tx L q - q)) ∨ (res = 0 ∧ ¬ (1 ≤ ed tx L q - q ∧ ed tx L q - q ≤ 2 ∧ lo ≤ nm tx q (ed tx L q - q) ∧ nm tx q (ed tx L q - q) ≤ hi)))
  | 0, j, m, h1, h2, T, ha, hs, hn, he => absurd h2 (by omega)
  | f + 1, j, m, h1, h2, T, ha, hs, hn, he => by
    unfold fM_takesNumber_l9
    rw [ha, hs, M_byte hL T (by omega), bnd, in_b (lo := 48) (hi := 57) (y := 48) (z := 57) hx (by decide) (by decide) rfl rfl, bnd, nI_sub (show q ≤ q + j by omega), Nat.add_sub_cancel_left, hn]
    by_cases c : q + j < L ∧ inR 48 57 tx (q + j) = true
    · have e2 : ed tx L (q + j) = ed tx L (q + j + 1) := by
        unfold ed
        rw [ru_s c.1, if_pos c.2]
      rw [if_pos c, xi1, if_pos c.1, bnd]
      unfold fM_takesNumber_b70
      have st : ∀ v : Int32, v = nm tx q (j + 1) → ∃ m' res, fM_takesNumber_l9 f lo hi (xset (xset m 6 3 v) 6 1 ((xset m 6 3 v).1 6 1 + 1)) = some (res, m') ∧ m'.1 6 2 = nI q ∧ cM m m' ∧ ((res = 1 ∧ (1 ≤ ed tx L q - q ∧ ed tx L q - q ≤ 2 ∧ lo ≤ nm tx q (ed tx L q - q) ∧ nm tx q (ed tx L q - q) ≤ hi) ∧ m'.1 6 1 = nI (ed tx L q) ∧ m'.1 6 3 = nm tx q (ed tx L q - q)) ∨ (res = 0 ∧ ¬ (1 ≤ ed tx L q - q ∧ ed tx L q - q ≤ 2 ∧ lo ≤ nm tx q (ed tx L q - q) ∧ nm tx q (ed tx L q - q) ≤ hi))) := fun v hv => by
        have e1 : (xset m 6 3 v).1 6 1 + 1 = nI (q + (j + 1)) := by
          rw [xset_nj (by decide), ha, nI_1, Nat.add_assoc]
        rw [e1]
        have C : cM m (xset (xset m 6 3 v) 6 1 (nI (q + (j + 1)))) := cM_set (Or.inl rfl) (cM_set (Or.inr (Or.inr rfl)) cM_refl)
        obtain ⟨m', res, g1, g2, g3, g4⟩ := M_n9 (lo := lo) (hi := hi) hL hx hq f (j + 1) (xset (xset m 6 3 v) 6 1 (nI (q + (j + 1)))) (by omega) (by omega) (txM_fr T C) xset_eq (by simp (disch := omega) only [xset_ne, xset_nj, xset_eq, Nat.add_zero]; exact hs) (by simp (disch := omega) only [xset_ne, xset_nj, xset_eq, Nat.add_zero]; exact hv) (by rw [he, e2, Nat.add_assoc])
        exact ⟨m', res, g1, g2, cM_trans C g3, g4⟩
      by_cases d : 2 ≤ j
      · rw [if_pos (show (2 : Int32) ≤ nI j from nI_le (a := 2) d (by omega))]
        exact st _ (by rw [nm_s, if_pos d])
      · rw [if_neg (show ¬ (2 : Int32) ≤ nI j from nI_ge (b := 2) (by omega) (by decide))]
        exact st _ (by rw [nm_s, if_neg d])
    · have ee : ed tx L q = q + j := by
        rw [he]
        by_cases d : q + j < L
        · exact ru_no d (Bool.eq_false_iff.mpr (fun z => c ⟨d, z⟩))
        · rw [show q + j = L by omega]
          exact ru_L
      have ej : ed tx L q - q = j := by omega
      rw [if_neg c, xi0, in_N (x := j) (lo := 1) (hi := 2) (y := 1) (z := 2) (by omega) (by decide) (by decide) rfl rfl, bnd, fM_in_i (v := nm tx q j) (a := lo) (b := hi) rfl rfl, xnb_0, xnb_1, ej]
      by_cases d : 1 ≤ j ∧ j ≤ 2
      · rw [if_pos d, xi1, bnd]
        by_cases g : lo ≤ nm tx q j ∧ nm tx q j ≤ hi
        · rw [if_pos g, xi1]
          exact ⟨m, 1, rfl, hs, cM_refl, Or.inl ⟨rfl, ⟨d.1, d.2, g.1, g.2⟩, by rw [ha, ee], hn⟩⟩
        · rw [if_neg g, xi0]
          exact ⟨m, 0, rfl, hs, cM_refl, Or.inr ⟨rfl, fun z => g z.2.2⟩⟩
      · rw [if_neg d, xi0]
        exact ⟨m, 0, rfl, hs, cM_refl, Or.inr ⟨rfl, fun z => d ⟨z.1, z.2.1⟩⟩⟩
/-- the tokens that are left begin at p -/
def tkS (tx : Nat → Nat) (L : Nat) (m : xM) (p : Nat) : Prop := ∃ r d, ch tx L (m.1 30) d r (sk tx L p) ∧ m.1 36 30 = nI (r + d + 1) ∧ r + d + 1 ≤ 151 ∧ m.1 41 0 = nI r
def nx (tx : Nat → Nat) (L q : Nat) : Nat := if q < L then tend tx L q else L
theorem tkS_fr {m m' : xM} {p : Nat} (h : tkS tx L m p) (h1 : m'.1 30 = m.1 30) (h2 : m'.1 36 30 = m.1 36 30) (h3 : m'.1 41 0 = m.1 41 0) : tkS tx L m' p := by
  obtain ⟨r, d, g1, g2, g3, g4⟩ := h
  exact ⟨r, d, by rw [h1]; exact g1, h2.trans g2, g3, h3.trans g4⟩
theorem H_take {m : xM} {p : Nat} (h : tkS tx L m p) (hp : p ≤ L) : ∃ m', fR_take m = some m' ∧ m'.1 40 0 = tS tx L (sk tx L p) ∧ m'.1 40 1 = nI (sk tx L p) ∧ m'.1 40 2 = tV tx L (sk tx L p) ∧ cH m m' ∧ tkS tx L m' (nx tx L (sk tx L p)) := by
  obtain ⟨r, d, g1, g2, g3, g4⟩ := h
  obtain ⟨a1, a2, a3⟩ := ch_row d r _ g1
  have gt : ∀ (k : Nat) (vk : Int32) (m : xM), k < 3 → vk = nI k → fT_get 30 m (nI r) vk = some (m.1 30 (r * 3 + k)) := fun k vk m hk e => T_get (t := 30) (r := r) (c := k) (by decide) rfl e (by show k < 3; exact hk) (by show r < 151; omega)
  have key : ∀ r', ∀ m1 : xM, m1 = m ∨ m1 = xset m 41 0 (nI r') → ∃ m', ((fT_get 30 m1 (nI r) 0).bind fun r18 => (fT_get 30 (xset m1 40 0 r18) (nI r) 1).bind fun r34 => (fT_get 30 (xset (xset m1 40 0 r18) 40 1 r34) (nI r) 2).bind fun r50 => some (xset (xset (xset m1 40 0 r18) 40 1 r34) 40 2 r50)) = some m' ∧ m'.1 40 0 = tS tx L (sk tx L p) ∧ m'.1 40 1 = nI (sk tx L p) ∧ m'.1 40 2 = tV tx L (sk tx L p) ∧ cH m m' ∧ m'.1 41 0 = m1.1 41 0 := fun r' m1 hm1 => by
    have c30 : ∀ x, m1.1 30 x = m.1 30 x := fun x => by
      rcases hm1 with rfl | rfl
      · rfl
      · simp (disch := omega) only [xset_ne, xset_nj, xset_eq, Nat.add_zero]
    have cc : cH m m1 := by
      rcases hm1 with rfl | rfl
      · exact cH_refl
      · exact ⟨fun j x z1 z2 => xset_ne z2, rfl⟩
    rw [gt 0 0 _ (by decide) rfl, bnd, gt 1 1 _ (by decide) rfl, bnd, gt 2 2 _ (by decide) rfl, bnd]
    refine ⟨_, rfl, ?_, ?_, ?_, ⟨fun j x z1 z2 => ?_, cc.2⟩, ?_⟩
    · simp (disch := omega) only [xset_ne, xset_nj, xset_eq, Nat.add_zero]
      rw [c30]
      exact a1
    · simp (disch := omega) only [xset_ne, xset_nj, xset_eq, Nat.add_zero]
      rw [c30]
      exact a2
    · simp (disch := omega) only [xset_ne, xset_nj, xset_eq, Nat.add_zero]
      rw [c30]
      exact a3
    · rw [xset_ne z1, xset_ne z1, xset_ne z1]
      exact cc.1 j x z1 z2
    · simp (disch := omega) only [xset_ne, xset_nj, xset_eq, Nat.add_zero]
  unfold fR_take fO_next
  rw [T_many, bnd, g2, g4, nI_1]
  cases d with
  | zero =>
    have qL : sk tx L p = L := g1.2
    rw [if_pos (nI_le (by omega) (by omega)), bnd]
    obtain ⟨m', k1, k2, k3, k4, k5, k6⟩ := key r m (Or.inl rfl)
    refine ⟨m', k1, k2, k3, k4, k5, r, 0, ?_, ?_, g3, k6.trans g4⟩
    · have e30 : m'.1 30 = m.1 30 := by funext x; exact k5.1 30 x (by decide) (by decide)
      have e : sk tx L (nx tx L (sk tx L p)) = sk tx L p := by
        unfold nx
        rw [qL, if_neg (Nat.lt_irrefl L)]
        exact ru_L
      rw [e30, e]
      exact g1
    · rw [k5.1 36 30 (by decide) (by decide)]
      exact g2
  | succ d =>
    obtain ⟨-, qL, g5⟩ := g1
    rw [if_neg (nI_ge (by omega) (by omega)), bnd]
    obtain ⟨m', k1, k2, k3, k4, k5, k6⟩ := key (r + 1) (xset m 41 0 (nI (r + 1))) (Or.inr rfl)
    refine ⟨m', k1, k2, k3, k4, k5, r + 1, d, ?_, ?_, by omega, ?_⟩
    · have e30 : m'.1 30 = m.1 30 := by funext x; exact k5.1 30 x (by decide) (by decide)
      have e : nx tx L (sk tx L p) = tend tx L (sk tx L p) := by
        unfold nx
        rw [if_pos qL]
      rw [e30, e]
      exact g5
    · rw [k5.1 36 30 (by decide) (by decide), g2, show r + (d + 1) + 1 = r + 1 + d + 1 by omega]
    · rw [k6]
      simp (disch := omega) only [xset_ne, xset_nj, xset_eq, Nat.add_zero]
end TAK
