/-! STEPS: read; the text in tokens -/
def rn (P : Nat → Bool) : Nat → Nat → Nat
  | 0, p => p
  | f + 1, p => if P p = true then rn P f (p + 1) else p
/-- the end of a run -/
def ru (P : Nat → Bool) (L p : Nat) : Nat := rn P (L - p) p
section RU
variable {P : Nat → Bool} {L p : Nat}
theorem ru_s (h : p < L) : ru P L p = if P p = true then ru P L (p + 1) else p := by
  unfold ru
  rw [show L - p = (L - (p + 1)) + 1 by omega]
  rfl
theorem ru_L : ru P L L = L := by
  unfold ru
  rw [Nat.sub_self]
  rfl
theorem ru_b : ∀ (d : Nat) (p : Nat), p + d = L → p ≤ ru P L p ∧ ru P L p ≤ L ∧ (ru P L p < L → P (ru P L p) = false)
  | 0, p, h => by
    rw [show p = L by omega, ru_L]
    exact ⟨Nat.le_refl _, Nat.le_refl _, fun z => absurd z (Nat.lt_irrefl L)⟩
  | d + 1, p, h => by
    obtain ⟨h1, h2, h3⟩ := ru_b d (p + 1) (by omega)
    rw [ru_s (show p < L by omega)]
    by_cases c : P p = true
    · rw [if_pos c]
      exact ⟨by omega, h2, h3⟩
    · rw [if_neg c]
      exact ⟨Nat.le_refl _, by omega, fun _ => Bool.eq_false_iff.mpr c⟩
theorem ru_ge (h : p ≤ L) : p ≤ ru P L p := (ru_b (L - p) p (by omega)).1
theorem ru_le (h : p ≤ L) : ru P L p ≤ L := (ru_b (L - p) p (by omega)).2.1
theorem ru_st (h : p ≤ L) (z : ru P L p < L) : P (ru P L p) = false := (ru_b (L - p) p (by omega)).2.2 z
theorem ru_ru (h : p ≤ L) : ru P L (ru P L p) = ru P L p := by
  by_cases c : ru P L p < L
  · rw [ru_s c, if_neg (by rw [ru_st h c]; decide)]
  · have := ru_le (P := P) h
    rw [show ru P L p = L by omega, ru_L]
theorem ru_no (h : p < L) (z : P p = false) : ru P L p = p := by
  rw [ru_s h, if_neg (by rw [z]; decide)]
theorem ru_yes (h : p < L) (z : P p = true) : p < ru P L p := by
  rw [ru_s h, if_pos z]
  exact ru_ge (P := P) (p := p + 1) (by omega)
end RU
def inR (lo hi : Nat) (tx : Nat → Nat) (p : Nat) : Bool := decide (lo ≤ tx p ∧ tx p ≤ hi)
theorem inR_i {lo hi : Nat} {tx : Nat → Nat} {p : Nat} : inR lo hi tx p = true ↔ lo ≤ tx p ∧ tx p ≤ hi := decide_eq_true_iff
def sk (tx : Nat → Nat) (L p : Nat) : Nat := ru (inR 32 32 tx) L p
def el (tx : Nat → Nat) (L p : Nat) : Nat := ru (inR 97 122 tx) L p
def ed (tx : Nat → Nat) (L p : Nat) : Nat := ru (inR 48 57 tx) L p
/-- the place behind the token at q -/
def tend (tx : Nat → Nat) (L q : Nat) : Nat := if inR 97 122 tx q = true then el tx L q else if inR 48 57 tx q = true then ed tx L q else q + 1
def wlen (t : Nat) : Nat := ([4, 3, 5, 4, 3, 4, 5] : List Nat).getD t 0
def wch (t k : Nat) : Nat := (([[116, 111, 119, 110], [119, 101, 116], [98, 111, 97, 114, 100], [109, 97, 107, 101], [99, 117, 116], [119, 111, 114, 109], [121, 101, 97, 114, 115]] : List (List Nat)).getD t []).getD k 0
def mtk (tx : Nat → Nat) (t q : Nat) : Nat → Nat → Bool
  | _, 0 => true
  | k, n + 1 => (tx (q + k) == wch t k) && mtk tx t q (k + 1) n
def mt (tx : Nat → Nat) (t q len : Nat) : Bool := (len == wlen t) && mtk tx t q 0 (wlen t)
/-- which word stands there -/
def wv (tx : Nat → Nat) (q len : Nat) : Int32 := if mt tx 0 q len = true then 0 else if mt tx 1 q len = true then 1 else if mt tx 2 q len = true then 2 else if mt tx 3 q len = true then 3 else if mt tx 4 q len = true then 4 else if mt tx 5 q len = true then 5 else if mt tx 6 q len = true then 6 else -1
/-- the sort and the value of the token at q -/
def tS (tx : Nat → Nat) (L q : Nat) : Int32 := if q = L then 3 else if inR 97 122 tx q = true then 0 else if inR 48 57 tx q = true then (if ed tx L q - q ≤ 2 then 1 else 4) else if tx q = 59 then 2 else 4
def nv (tx : Nat → Nat) (q len : Nat) : Int32 := if len = 1 then nI (tx q) - 48 else 10 * (nI (tx q) - 48) + nI (tx (q + 1)) - 48
def tV (tx : Nat → Nat) (L q : Nat) : Int32 := if q = L then -1 else if inR 97 122 tx q = true then wv tx q (el tx L q - q) else if inR 48 57 tx q = true then nv tx q (ed tx L q - q) else -1
def txH (tx : Nat → Nat) (L : Nat) (m : xM) : Prop := m.1 36 29 = nI L ∧ ∀ j, j < L → m.1 29 j = nI (tx j)
theorem G29 {m : xM} {p : Nat} {v : Int32} (h : p < 150) (hv : v = nI p) : fT_get 29 m v 0 = some (m.1 29 p) := by
  rw [T_get (t := 29) (r := p) (c := 0) (v2 := 0) (by decide) hv rfl (by decide) (by show p < 150; exact h), show p * wN 29 + 0 = p by show p * 1 + 0 = p; omega]
theorem within_N {x lo hi : Nat} (hx : x < 1000) (hl : lo < 1000) (hh : hi < 1000) {ρ : Type} {A B : Option ρ} : ((fH_within (nI x) (nI lo) (nI hi)).bind fun r => if r = 0 then A else B) = if lo ≤ x ∧ x ≤ hi then B else A := by
  rw [xwb]
  by_cases c : lo ≤ x ∧ x ≤ hi
  · rw [if_pos c, if_pos ⟨(nI_leI (by omega) (by omega)).mpr c.1, (nI_leI (by omega) (by omega)).mpr c.2⟩]
  · rw [if_neg c, if_neg (fun z => c ⟨(nI_leI (by omega) (by omega)).mp z.1, (nI_leI (by omega) (by omega)).mp z.2⟩)]
section TOK
variable {tx : Nat → Nat} {L : Nat}
theorem H_eor {lo hi : Nat} {m : xM} (hL : L ≤ 150) (hx : ∀ j, j < L → tx j ≤ 127) (hl : lo < 1000) (hh : hi < 1000) (T : txH tx L m) : ∀ (f p : Nat), p ≤ L → L < p + f → fO_endOfRun_l3 29 m f (nI lo) (nI hi) (nI p) = some (nI (ru (inR lo hi tx) L p))
  | 0, p, h1, h2 => absurd h2 (by omega)
  | f + 1, p, h1, h2 => by
    unfold fO_endOfRun_l3
    rw [T_many, bnd, T.1]
    by_cases hp : p = L
    · subst hp
      rw [if_pos (nI_le (Nat.le_refl _) (by omega)), ru_L]
    · have hp' : p < L := by omega
      have := hx p hp'
      rw [if_neg (nI_ge hp' (by omega)), G29 (by omega) rfl, bnd, T.2 p hp', within_N (by omega) hl hh, ru_s hp', nI_1]
      by_cases c : lo ≤ tx p ∧ tx p ≤ hi
      · rw [if_pos c, if_pos (inR_i.mpr c)]
        exact H_eor hL hx hl hh T f (p + 1) (by omega) (by omega)
      · rw [if_neg c, if_neg (fun z => c (inR_i.mp z))]
theorem eor {lo hi p : Nat} {m : xM} (hL : L ≤ 150) (hx : ∀ j, j < L → tx j ≤ 127) (hl : lo < 1000) (hh : hi < 1000) (T : txH tx L m) (hp : p ≤ L) : fO_endOfRun 29 m (nI p) (nI lo) (nI hi) = some (nI (ru (inR lo hi tx) L p)) := H_eor hL hx hl hh T xfu p hp (by show L < p + 100000; omega)
theorem word_len : ∀ t, t < 7 → fU_length t = some (nI (wlen t)) ∧ wlen t ≤ 5 := by decide +kernel
theorem word_ch : ∀ t, t < 7 → ∀ k, k < wlen t → fU_charAt t (nI k) = some (nI (wch t k)) := by decide +kernel
theorem word_tx : ∀ t, t < 7 → fO_textOf (nI t) = some t := by decide +kernel
theorem wch_lt : ∀ t, t < 7 → ∀ k, k < wlen t → wch t k < 128 ∧ 1 ≤ wch t k := by decide +kernel
theorem H_sp {t q : Nat} {m : xM} (ht : t < 7) (hL : L ≤ 150) (hx : ∀ j, j < L → tx j ≤ 127) (T : txH tx L m) (hq : q + wlen t ≤ L) : ∀ (f k n : Nat), k + n = wlen t → n < f → fO_spells_l13 29 t m f (nI q) (nI (wlen t)) (nI k) = some (if mtk tx t q k n = true then 1 else 0)
  | 0, k, n, h1, h2 => absurd h2 (by omega)
  | f + 1, k, 0, h1, h2 => by
    unfold fO_spells_l13
    have := (word_len t ht).2
    rw [if_pos (nI_le (by omega) (by omega)), xnb_1]
    rfl
  | f + 1, k, n + 1, h1, h2 => by
    have w5 := (word_len t ht).2
    have wc := (wch_lt t ht k (by omega)).1
    have tl := hx (q + k) (by omega)
    unfold fO_spells_l13
    rw [if_neg (nI_ge (by omega) (by omega)), word_ch t ht k (by omega), bnd, nI_add, G29 (by omega) rfl, bnd, T.2 (q + k) (by omega), nI_1, xnb_0]
    have ih := H_sp ht hL hx T hq f (k + 1) n (by omega) (by omega)
    have E : mtk tx t q k (n + 1) = ((tx (q + k) == wch t k) && mtk tx t q (k + 1) n) := rfl
    rw [E]
    by_cases c : wch t k = tx (q + k)
    · rw [if_pos (by rw [c]), ih, beq_iff_eq.mpr c.symm, Bool.true_and]
    · rw [if_neg (fun z => c ((nI_eq (by omega) (by omega)).mp z)), beq_false_of_ne (fun z => c z.symm), Bool.false_and]
      rfl
theorem H_spells {t q len : Nat} {m : xM} (ht : t < 7) (hL : L ≤ 150) (hx : ∀ j, j < L → tx j ≤ 127) (T : txH tx L m) (hq : q + len ≤ L) : fO_spells 29 t m (nI q) (nI len) = some (if mt tx t q len = true then 1 else 0) := by
  have w5 := word_len t ht
  unfold fO_spells mt
  rw [w5.1, bnd, xnb_0]
  by_cases c : len = wlen t
  · subst c
    rw [if_pos rfl, beq_self_eq_true, Bool.true_and]
    exact H_sp ht hL hx T hq xfu 0 (wlen t) (by omega) (by show wlen t < 100000; omega)
  · rw [if_neg (fun z => c ((nI_eq (by omega) (by omega)).mp z).symm), beq_false_of_ne c, Bool.false_and]
    rfl
theorem H_word {q len : Nat} {m : xM} (hL : L ≤ 150) (hx : ∀ j, j < L → tx j ≤ 127) (T : txH tx L m) (hq : q + len ≤ L) : fO_wordNumber 29 m (nI q) (nI len) = some (wv tx q len) := by
  have step : ∀ (f t : Nat), t < 7 → fO_wordNumber_l2 29 m (f + 1) (nI q) (nI len) (nI t) = if mt tx t q len = true then some (nI t) else fO_wordNumber_l2 29 m f (nI q) (nI len) (nI (t + 1)) := fun f t ht => by
    conv => lhs; unfold fO_wordNumber_l2
    rw [if_neg (show ¬ (7 : Int32) ≤ nI t from nI_ge (b := 7) ht (by decide)), word_tx t ht, bnd]
    unfold xlt7
    rw [if_pos ht, H_spells ht hL hx T hq, bnd, nI_1]
    by_cases c : mt tx t q len = true
    · rw [if_pos c, if_pos c, xi1]
    · rw [if_neg c, if_neg c, xi0]
  have fin : ∀ f, fO_wordNumber_l2 29 m (f + 1) (nI q) (nI len) (nI 7) = some (-1) := fun f => by
    conv => lhs; unfold fO_wordNumber_l2
    rw [if_pos (show (7 : Int32) ≤ nI 7 by decide)]
  have e : fO_wordNumber 29 m (nI q) (nI len) = fO_wordNumber_l2 29 m (99992 + 1 + 1 + 1 + 1 + 1 + 1 + 1 + 1) (nI q) (nI len) (nI 0) := rfl
  rw [e, step _ 0 (by decide), step _ 1 (by decide), step _ 2 (by decide), step _ 3 (by decide), step _ 4 (by decide), step _ 5 (by decide), step _ 6 (by decide), fin]
  unfold wv
  repeat' split
  all_goals rfl
/-- row r of the tokens tells of the token at q -/
def rwO (tx : Nat → Nat) (L : Nat) (v : Nat → Int32) (r q : Nat) : Prop := v (r * 3) = tS tx L q ∧ v (r * 3 + 1) = nI q ∧ v (r * 3 + 2) = tV tx L q
/-- from row r on: the token at q, and d more -/
def ch (tx : Nat → Nat) (L : Nat) (v : Nat → Int32) : Nat → Nat → Nat → Prop
  | 0, r, q => rwO tx L v r q ∧ q = L
  | d + 1, r, q => rwO tx L v r q ∧ q < L ∧ ch tx L v d (r + 1) (sk tx L (tend tx L q))
theorem ch_row {v : Nat → Int32} : ∀ d r q, ch tx L v d r q → rwO tx L v r q
  | 0, r, q, h => h.1
  | d + 1, r, q, h => h.1
theorem H_add {c : Nat} {v1 v2 v3 : Int32} {m : xM} (hc : c < 151) (hm : m.1 36 30 = nI c) : fO_add v1 v2 v3 m = some (xset (xset (xset (xset m 36 30 (nI (c + 1))) 30 (c * 3) v1) 30 (c * 3 + 1) v2) 30 (c * 3 + 2) v3) := by
  unfold fO_add
  rw [T_newRow (t := 30) (by decide) hm (by show c < 151; exact hc), bnd]
  show (fT_put 30 (nI c) 0 v1 (xset m 36 30 (nI (c + 1)))).bind _ = _
  have p : ∀ (k : Nat) (vk v : Int32) (m : xM), k < 3 → vk = nI k → fT_put 30 (nI c) vk v m = some (xset m 30 (c * 3 + k) v) := fun k vk v m hk e => T_put (t := 30) (r := c) (c := k) (by decide) rfl e (by show k < 3; exact hk) (by show c < 151; exact hc)
  rw [p 0 0 _ _ (by decide) rfl, bnd, p 1 1 _ _ (by decide) rfl, bnd, p 2 2 _ _ (by decide) rfl, bnd, Nat.add_zero (c * 3)]
theorem tend_b {q : Nat} (hq : q < L) : q < tend tx L q ∧ tend tx L q ≤ L := by
  unfold tend
  by_cases c : inR 97 122 tx q = true
  · rw [if_pos c]
    exact ⟨ru_yes hq c, ru_le (by omega)⟩
  · rw [if_neg c]
    by_cases c2 : inR 48 57 tx q = true
    · rw [if_pos c2]
      exact ⟨ru_yes hq c2, ru_le (by omega)⟩
    · rw [if_neg c2]
      omega
theorem txH_fr {m m' : xM} (T : txH tx L m) (h1 : m'.1 29 = m.1 29) (h2 : m'.1 36 29 = m.1 36 29) : txH tx L m' := ⟨h2.trans T.1, fun j hj => by rw [h1]; exact T.2 j hj⟩
theorem H_one {q c : Nat} {m : xM} (hL : L ≤ 150) (hx : ∀ j, j < L → tx j ≤ 127) (T : txH tx L m) (hq : q < L) (hc : c < 151) (hm : m.1 36 30 = nI c) : fO_splitOne 29 (nI q) m = some (nI (tend tx L q), xset (xset (xset (xset m 36 30 (nI (c + 1))) 30 (c * 3) (tS tx L q)) 30 (c * 3 + 1) (nI q)) 30 (c * 3 + 2) (tV tx L q)) := by
  have xq := hx q hq
  have qL : ¬ q = L := by omega
  have e1 := eor (lo := 97) (hi := 122) hL hx (by decide) (by decide) T (show q ≤ L by omega)
  have e2 := eor (lo := 48) (hi := 57) hL hx (by decide) (by decide) T (show q ≤ L by omega)
  have e1' : fO_endOfRun 29 m (nI q) 97 122 = some (nI (el tx L q)) := e1
  have e2' : fO_endOfRun 29 m (nI q) 48 57 = some (nI (ed tx L q)) := e2
  have l1 : el tx L q ≤ L := ru_le (by omega)
  have l2 : ed tx L q ≤ L := ru_le (by omega)
  unfold fO_splitOne tS tV tend
  rw [e1', bnd, if_neg qL, if_neg qL]
  by_cases c1 : inR 97 122 tx q = true
  · have g : q < el tx L q := ru_yes hq c1
    rw [if_pos c1, if_pos c1, if_pos c1, if_neg (nI_ge g (by omega)), nI_sub (by omega), H_word hL hx T (by omega), bnd, H_add hc hm, bnd]
  · have g : el tx L q = q := ru_no hq (Bool.eq_false_iff.mpr c1)
    rw [if_neg c1, if_neg c1, if_neg c1, g, if_pos (nI_le (Nat.le_refl _) (by omega)), e2', bnd]
    by_cases c2 : inR 48 57 tx q = true
    · have g2 : q < ed tx L q := ru_yes hq c2
      rw [if_pos c2, if_pos c2, if_pos c2, if_neg (nI_ge g2 (by omega)), nI_sub (by omega)]
      have num : fO_numberAt 29 m (nI q) (nI (ed tx L q - q)) = some (nv tx q (ed tx L q - q)) := by
        unfold fO_numberAt nv
        rw [G29 (by omega) rfl, bnd, T.2 q hq, nI_1]
        by_cases c3 : ed tx L q - q = 1
        · rw [if_pos (by rw [c3]; rfl), if_pos c3]
        · rw [if_neg (show ¬ nI (ed tx L q - q) = (1 : Int32) from fun z => c3 ((nI_eq (a := ed tx L q - q) (b := 1) (by omega) (by decide)).mp z)), if_neg c3, G29 (by omega) rfl, bnd, T.2 (q + 1) (by omega)]
      have b62 : ∀ s : Int32, fO_splitOne_b62 29 (nI q) (nI (ed tx L q)) s m = some (nI (ed tx L q), xset (xset (xset (xset m 36 30 (nI (c + 1))) 30 (c * 3) s) 30 (c * 3 + 1) (nI q)) 30 (c * 3 + 2) (nv tx q (ed tx L q - q))) := fun s => by
        unfold fO_splitOne_b62
        rw [nI_sub (by omega), num, bnd, H_add hc hm, bnd]
      by_cases c3 : ed tx L q - q ≤ 2
      · rw [if_pos (show nI _ ≤ 2 from nI_le (b := 2) c3 (by decide)), if_pos c3, b62]
      · rw [if_neg (show ¬ nI _ ≤ 2 from nI_ge (a := 2) (by omega) (by omega)), if_neg c3, b62]
    · have g2 : ed tx L q = q := ru_no hq (Bool.eq_false_iff.mpr c2)
      rw [if_neg c2, if_neg c2, if_neg c2, g2, if_pos (nI_le (Nat.le_refl _) (by omega)), G29 (by omega) rfl, bnd, T.2 q hq, H_add hc hm, H_add hc hm, bnd, bnd, nI_1]
      by_cases c3 : tx q = 59
      · rw [if_pos c3, if_pos (by rw [c3]; rfl)]
      · rw [if_neg c3, if_neg (show ¬ nI (tx q) = (59 : Int32) from fun z => c3 ((nI_eq (a := tx q) (b := 59) (by omega) (by decide)).mp z))]
theorem H_split {m0 : xM} (hL : L ≤ 150) (hx : ∀ j, j < L → tx j ≤ 127) (T0 : txH tx L m0) : ∀ (f c q : Nat) (m : xM), q ≤ L → c ≤ q → L < q + f → sk tx L q = q → m.1 36 30 = nI c → (∀ j x, j ≠ 30 → (j ≠ 36 ∨ x ≠ 30) → m.1 j x = m0.1 j x) → ∃ m' d, fO_split_l24 29 f (nI q) (nI c) m = some m' ∧ ch tx L (m'.1 30) d c q ∧ m'.1 36 30 = nI (c + d + 1) ∧ c + d + 1 ≤ 151 ∧ (∀ j x, j ≠ 30 → (j ≠ 36 ∨ x ≠ 30) → m'.1 j x = m0.1 j x) ∧ (∀ x, x < c * 3 → m'.1 30 x = m.1 30 x) ∧ m'.2 = m.2
  | 0, c, q, m, h1, h2, h3, h4, h5, h6 => absurd h3 (by omega)
  | f + 1, c, q, m, h1, h2, h3, h4, h5, h6 => by
    have T : txH tx L m := txH_fr T0 (by funext x; exact h6 29 x (by decide) (by omega)) (h6 36 29 (by decide) (by decide))
    unfold fO_split_l24
    rw [T_many, bnd, T.1]
    by_cases hq : q = L
    · subst hq
      have fin : ((fO_add 3 (nI q) (-1) m).bind fun r => some r) = some (xset (xset (xset (xset m 36 30 (nI (c + 1))) 30 (c * 3) 3) 30 (c * 3 + 1) (nI q)) 30 (c * 3 + 2) (-1)) := by rw [H_add (by omega) h5, bnd]
      refine ⟨xset (xset (xset (xset m 36 30 (nI (c + 1))) 30 (c * 3) 3) 30 (c * 3 + 1) (nI q)) 30 (c * 3 + 2) (-1), 0, ?_, ⟨⟨?_, ?_, ?_⟩, rfl⟩, ?_, by omega, fun j x q1 q2 => ?_, fun x q1 => ?_, rfl⟩
      · rw [bnd, if_pos (nI_le (Nat.le_refl _) (by omega)), fin]
        by_cases c150 : (150 : Int32) ≤ nI c
        · rw [if_pos c150]
        · rw [if_neg c150]
      · simp (disch := omega) only [xset_ne, xset_nj, xset_eq, Nat.add_zero]
        unfold tS
        rw [if_pos rfl]
      · simp (disch := omega) only [xset_ne, xset_nj, xset_eq, Nat.add_zero]
      · simp (disch := omega) only [xset_ne, xset_nj, xset_eq, Nat.add_zero]
        unfold tV
        rw [if_pos rfl]
      · simp (disch := omega) only [xset_ne, xset_nj, xset_eq, Nat.add_zero]
      · rw [← h6 j x q1 q2]
        rcases q2 with q2 | q2
        · simp (disch := omega) only [xset_ne, xset_nj, xset_eq, Nat.add_zero]
        · simp (disch := omega) only [xset_ne, xset_nj, xset_eq, Nat.add_zero]
      · simp (disch := omega) only [xset_ne, xset_nj, xset_eq, Nat.add_zero]
    · have hq' : q < L := by omega
      obtain ⟨t1, t2⟩ := tend_b (tx := tx) hq'
      have s2 : sk tx L (tend tx L q) ≤ L := ru_le t2
      have s1 : tend tx L q ≤ sk tx L (tend tx L q) := ru_ge t2
      rw [if_neg (show ¬ (150 : Int32) ≤ nI c from nI_ge (b := 150) (by omega) (by decide)), bnd, if_neg (nI_ge hq' (by omega)), H_one hL hx T hq' (by omega) h5, bnd]
      have T1 : txH tx L (xset (xset (xset (xset m 36 30 (nI (c + 1))) 30 (c * 3) (tS tx L q)) 30 (c * 3 + 1) (nI q)) 30 (c * 3 + 2) (tV tx L q)) := txH_fr T (by funext x; simp (disch := omega) only [xset_ne, xset_nj, xset_eq, Nat.add_zero]) (by simp (disch := omega) only [xset_ne, xset_nj, xset_eq, Nat.add_zero])
      have e := eor (lo := 32) (hi := 32) hL hx (by decide) (by decide) T1 t2
      have e' : fO_endOfRun 29 (xset (xset (xset (xset m 36 30 (nI (c + 1))) 30 (c * 3) (tS tx L q)) 30 (c * 3 + 1) (nI q)) 30 (c * 3 + 2) (tV tx L q)) (nI (tend tx L q)) 32 32 = some (nI (sk tx L (tend tx L q))) := e
      rw [e', bnd, nI_1]
      obtain ⟨m', d, g1, g2, g3, g4, g5, g6, g7⟩ := H_split hL hx T0 f (c + 1) (sk tx L (tend tx L q)) (xset (xset (xset (xset m 36 30 (nI (c + 1))) 30 (c * 3) (tS tx L q)) 30 (c * 3 + 1) (nI q)) 30 (c * 3 + 2) (tV tx L q)) s2 (by omega) (by omega) (ru_ru t2) (by simp (disch := omega) only [xset_ne, xset_nj, xset_eq, Nat.add_zero]) (fun j x q1 q2 => by
        rw [← h6 j x q1 q2]
        rcases q2 with q2 | q2
        · simp (disch := omega) only [xset_ne, xset_nj, xset_eq, Nat.add_zero]
        · simp (disch := omega) only [xset_ne, xset_nj, xset_eq, Nat.add_zero])
      refine ⟨m', d + 1, g1, ⟨⟨?_, ?_, ?_⟩, hq', g2⟩, by rw [g3, show c + 1 + d + 1 = c + (d + 1) + 1 by omega], by omega, g5, fun x q1 => ?_, g7⟩
      · rw [g6 _ (by omega)]
        simp (disch := omega) only [xset_ne, xset_nj, xset_eq, Nat.add_zero]
      · rw [g6 _ (by omega)]
        simp (disch := omega) only [xset_ne, xset_nj, xset_eq, Nat.add_zero]
      · rw [g6 _ (by omega)]
        simp (disch := omega) only [xset_ne, xset_nj, xset_eq, Nat.add_zero]
      · rw [g6 _ (by omega)]
        simp (disch := omega) only [xset_ne, xset_nj, xset_eq, Nat.add_zero]
end TOK
