/-! STEPS: digest -/
def mixL (h : Int64) : Nat → (Nat → Int32) → Int64
  | 0, _ => h
  | n + 1, g => 31 * mixL h n g + (g n).toInt64
theorem mixL_congr {h : Int64} {n : Nat} {g g' : Nat → Int32} (e : ∀ b, b < n → g b = g' b) : mixL h n g = mixL h n g' := by
  induction n with
  | zero => rfl
  | succ n ih =>
    unfold mixL
    rw [ih (fun b hb => e b (by omega)), e n (by omega)]
theorem xsel_xsel {m : xM} {a b : Int64} : xsel (xsel m 2 a) 2 b = xsel m 2 b := by
  unfold xsel
  refine Prod.ext rfl ?_
  funext j
  show (if j = 2 then b else (if j = 2 then a else m.2 j)) = if j = 2 then b else m.2 j
  by_cases c : j = 2
  · rw [if_pos c, if_pos c]
  · rw [if_neg c, if_neg c, if_neg c]
theorem M_mix {m : xM} {h v : Int64} : fM_mix v (xsel m 2 h) = some (xsel m 2 (31 * h + v)) := by
  unfold fM_mix
  rw [xsel_2, if_pos rfl, xsel_xsel]
/-- the class: a table is mixed into a number -/
theorem H_mi17 {t r : Nat} {m : xM} {h : Int64} (ht : t < 36) (hr : r < rN t) (k : Int64 → Int32 → Option Int64) : ∀ (f c : Nat), c ≤ wN t → wN t < c + f → fT_mixedInto_l17 t m k f (mixL h (r * wN t + c) (m.1 t)) (nI r) (nI c) = k (mixL h ((r + 1) * wN t) (m.1 t)) (nI (r + 1))
  | 0, c, h1, h2 => absurd h2 (by omega)
  | f + 1, c, h1, h2 => by
    obtain ⟨e1, e2, e3, b1, b2, b3, -⟩ := xw_N t ht
    unfold fT_mixedInto_l17
    rw [e1]
    by_cases hc : c = wN t
    · subst hc
      rw [if_pos (nI_le (Nat.le_refl _) (by omega)), nI_1, Nat.succ_mul]
    · rw [if_neg (nI_ge (by omega) (by omega)), T_get ht rfl rfl (by omega) hr, bnd, nI_1]
      exact H_mi17 ht hr k f (c + 1) (by omega) (by omega)
theorem H_mi5 {t u : Nat} {m : xM} {h : Int64} (ht : t < 36) (hu : m.1 36 t = nI u) (hu2 : u ≤ rN t) : ∀ (f r : Nat), r ≤ u → u < r + f → fT_mixedInto_l5 t m f (mixL h (r * wN t) (m.1 t)) (nI r) = some (mixL h (u * wN t) (m.1 t))
  | 0, r, h1, h2 => absurd h2 (by omega)
  | f + 1, r, h1, h2 => by
    obtain ⟨e1, e2, e3, b1, b2, b3, -⟩ := xw_N t ht
    unfold fT_mixedInto_l5
    rw [hu]
    by_cases hr : r = u
    · subst hr
      rw [if_pos (nI_le (Nat.le_refl _) (by omega))]
    · rw [if_neg (nI_ge (by omega) (by omega))]
      have e := H_mi17 (r := r) (m := m) (h := h) ht (by omega) (fT_mixedInto_l5 t m f) xfu 0 (by omega) (by show wN t < 0 + 100000; omega)
      have e' : fT_mixedInto_l17 t m (fT_mixedInto_l5 t m f) xfu (mixL h (r * wN t) (m.1 t)) (nI r) 0 = _ := e
      rw [e']
      exact H_mi5 ht hu hu2 f (r + 1) (by omega) (by omega)
theorem H_mi {t u : Nat} {m : xM} {h : Int64} (ht : t < 36) (hu : m.1 36 t = nI u) (hu2 : u ≤ rN t) : fT_mixedInto t m h = some (mixL h (u * wN t) (m.1 t)) := by
  have b := (xw_N t ht).2.2.2.2.1
  have e := H_mi5 (h := h) ht hu hu2 xfu 0 (by omega) (by show u < 0 + 100000; omega)
  rw [Nat.zero_mul] at e
  exact e
theorem M_dl204 {ν : xM} {q : Nat} {h : Int64} (hn : q ≤ 6) (w : ν.1 0 92 = nI q) : ∀ (f i : Nat), i ≤ 6 * q → 6 * q < i + f → fM_digest_l204 f (nI i) (xsel ν 2 (mixL h i (fun i => ν.1 0 (93 + i)))) = some (31 * (31 * mixL h (6 * q) (fun i => ν.1 0 (93 + i)) + ν.2 0) + ν.2 1, xsel ν 2 (31 * (31 * mixL h (6 * q) (fun i => ν.1 0 (93 + i)) + ν.2 0) + ν.2 1))
  | 0, i, h1, h2 => absurd h2 (by omega)
  | f + 1, i, h1, h2 => by
    unfold fM_digest_l204
    rw [xk92, xl92, xsel_1, w]
    rw [show (6 : Int32) = nI 6 from rfl, nI_mul]
    by_cases hi : i = 6 * q
    · subst hi
      rw [if_pos (nI_le (Nat.le_refl _) (by omega))]
      rw [M_mix, bnd, M_mix, bnd, xsel_2, xsel_2, xsel_2, if_neg (by decide), if_neg (by decide), if_pos rfl]
    · rw [if_neg (nI_ge (by omega) (by omega)), show (93 : Int32) + nI i = nI (93 + i) from nI_add 93 i, xck_nI (by omega) (by decide), nI_clamp (by omega), M_mix, bnd, nI_1]
      exact M_dl204 hn w f (i + 1) (by omega) (by omega)
theorem M_dl169 {ν : xM} {a : Nat} {h : Int64} (hn : a ≤ 6) (w : ν.1 0 61 = nI a) : ∀ (f i : Nat), i ≤ 5 * a → 5 * a < i + f → fM_digest_l169 f (nI i) (xsel ν 2 (mixL h i (fun i => ν.1 0 (62 + i)))) = fM_digest_l204 xfu 0 (xsel ν 2 (mixL h (5 * a) (fun i => ν.1 0 (62 + i))))
  | 0, i, h1, h2 => absurd h2 (by omega)
  | f + 1, i, h1, h2 => by
    unfold fM_digest_l169
    rw [xk61, xl61, xsel_1, w]
    rw [show (5 : Int32) = nI 5 from rfl, nI_mul]
    by_cases hi : i = 5 * a
    · subst hi
      rw [if_pos (nI_le (Nat.le_refl _) (by omega))]
    · rw [if_neg (nI_ge (by omega) (by omega)), show (62 : Int32) + nI i = nI (62 + i) from nI_add 62 i, xck_nI (by omega) (by decide), nI_clamp (by omega), M_mix, bnd, nI_1]
      exact M_dl169 hn w f (i + 1) (by omega) (by omega)
theorem M_dl134 {ν : xM} {hh : Nat} {h : Int64} (hn : hh ≤ 6) (w : ν.1 0 48 = nI hh) : ∀ (f i : Nat), i ≤ 2 * hh → 2 * hh < i + f → fM_digest_l134 f (nI i) (xsel ν 2 (mixL h i (fun i => ν.1 0 (49 + i)))) = fM_digest_l169 xfu 0 (xsel ν 2 (mixL h (2 * hh) (fun i => ν.1 0 (49 + i))))
  | 0, i, h1, h2 => absurd h2 (by omega)
  | f + 1, i, h1, h2 => by
    unfold fM_digest_l134
    rw [xk48, xl48, xsel_1, w]
    rw [show (2 : Int32) = nI 2 from rfl, nI_mul]
    by_cases hi : i = 2 * hh
    · subst hi
      rw [if_pos (nI_le (Nat.le_refl _) (by omega))]
    · rw [if_neg (nI_ge (by omega) (by omega)), show (49 : Int32) + nI i = nI (49 + i) from nI_add 49 i, xck_nI (by omega) (by decide), nI_clamp (by omega), M_mix, bnd, nI_1]
      exact M_dl134 hn w f (i + 1) (by omega) (by omega)
theorem M_dl102 {ν : xM} {k : Nat} {h : Int64} (hn : k ≤ 6) (w : ν.1 0 1 = nI k) : ∀ (f i : Nat), i ≤ k → k < i + f → fM_digest_l102 f (nI i) (xsel ν 2 (mixL h i (fun i => ν.1 0 (44 + i)))) = fM_digest_l134 xfu 0 (xsel ν 2 (mixL h (k) (fun i => ν.1 0 (44 + i))))
  | 0, i, h1, h2 => absurd h2 (by omega)
  | f + 1, i, h1, h2 => by
    unfold fM_digest_l102
    rw [xk1, xl1, xsel_1, w]
    by_cases hi : i = k
    · subst hi
      rw [if_pos (nI_le (Nat.le_refl _) (by omega))]
    · rw [if_neg (nI_ge (by omega) (by omega)), show (44 : Int32) + nI i = nI (44 + i) from nI_add 44 i, xck_nI (by omega) (by decide), nI_clamp (by omega), M_mix, bnd, nI_1]
      exact M_dl102 hn w f (i + 1) (by omega) (by omega)
