/-! STEPS: digest -/
def mixL (h : Int64) : Nat → (Nat → Int32) → Int64
  | 0, _ => h
  | n + 1, g => 31 * mixL h n g + (g n).toInt64
theorem mixL_0 {h : Int64} {g : Nat → Int32} : mixL h 0 g = h := rfl
theorem mixL_congr {h : Int64} {n : Nat} {g g' : Nat → Int32} (e : ∀ b, b < n → g b = g' b) : mixL h n g = mixL h n g' := by
  induction n with
  | zero => rfl
  | succ n ih =>
    unfold mixL
    rw [ih (fun b hb => e b (by omega)), e n (by omega)]
theorem xsel_xsel {m : xM} {a b : Int64} : xsel (xsel m 2 a) 2 b = xsel m 2 b := by
  unfold xsel
  refine Prod.ext rfl ?_
  funext j
  show (if j = 2 then b else (if j = 2 then a else m.2 j)) = if j = 2 then b else m.2 j
  by_cases c : j = 2
  · rw [if_pos c, if_pos c]
  · rw [if_neg c, if_neg c, if_neg c]
theorem M_mix {m : xM} {h v : Int64} : fM_mix v (xsel m 2 h) = some (xsel m 2 (31 * h + v)) := by
  unfold fM_mix
  rw [xsel_2, if_pos rfl, xsel_xsel]
theorem y2s {m : xM} {a : Int64} : (xsel m 2 a).2 2 = a := by rw [xsel_2, if_pos rfl]
theorem y1s {m : xM} {a : Int64} : (xsel m 2 a).2 1 = m.2 1 := by rw [xsel_2, if_neg (by decide)]
theorem y0s {m : xM} {a : Int64} : (xsel m 2 a).2 0 = m.2 0 := by rw [xsel_2, if_neg (by decide)]
/-- the class: a table is mixed into a number -/
theorem H_mi17 {t r : Nat} {m : xM} {h : Int64} (ht : t < 36) (hr : r < rN t) (k : Int64 → Int32 → Option Int64) : ∀ (f c : Nat), c ≤ wN t → wN t < c + f → fT_mixedInto_l17 t m k f (mixL h (r * wN t + c) (m.1 t)) (nI r) (nI c) = k (mixL h ((r + 1) * wN t) (m.1 t)) (nI (r + 1))
  | 0, c, h1, h2 => absurd h2 (by omega)
  | f + 1, c, h1, h2 => by
    obtain ⟨e1, e2, e3, b1, b2, b3, -⟩ := xw_N t ht
    unfold fT_mixedInto_l17
    rw [e1]
    by_cases hc : c = wN t
    · subst hc
      rw [if_pos (nI_le (Nat.le_refl _) (by omega)), nI_1, Nat.succ_mul]
    · rw [if_neg (nI_ge (by omega) (by omega)), T_get ht rfl rfl (by omega) hr, bnd, nI_1]
      exact H_mi17 ht hr k f (c + 1) (by omega) (by omega)
theorem H_mi5 {t u : Nat} {m : xM} {h : Int64} (ht : t < 36) (hu : m.1 36 t = nI u) (hu2 : u ≤ rN t) : ∀ (f r : Nat), r ≤ u → u < r + f → fT_mixedInto_l5 t m f (mixL h (r * wN t) (m.1 t)) (nI r) = some (mixL h (u * wN t) (m.1 t))
  | 0, r, h1, h2 => absurd h2 (by omega)
  | f + 1, r, h1, h2 => by
    obtain ⟨e1, e2, e3, b1, b2, b3, -⟩ := xw_N t ht
    unfold fT_mixedInto_l5
    rw [hu]
    by_cases hr : r = u
    · subst hr
      rw [if_pos (nI_le (Nat.le_refl _) (by omega))]
    · rw [if_neg (nI_ge (by omega) (by omega))]
      have e := H_mi17 (r := r) (m := m) (h := h) ht (by omega) (fT_mixedInto_l5 t m f) xfu 0 (by omega) (by show wN t < 0 + 100000; omega)
      have e' : fT_mixedInto_l17 t m (fT_mixedInto_l5 t m f) xfu (mixL h (r * wN t) (m.1 t)) (nI r) 0 = _ := e
      rw [e']
      exact H_mi5 ht hu hu2 f (r + 1) (by omega) (by omega)
theorem H_mi {t u : Nat} {m : xM} {h : Int64} (ht : t < 36) (hu : m.1 36 t = nI u) (hu2 : u ≤ rN t) : fT_mixedInto t m h = some (mixL h (u * wN t) (m.1 t)) := by
  have b := (xw_N t ht).2.2.2.2.1
  have e := H_mi5 (h := h) ht hu hu2 xfu 0 (by omega) (by show u < 0 + 100000; omega)
  rw [Nat.zero_mul] at e
  exact e
theorem M_dl204 {ν : xM} {q : Nat} {h : Int64} (hn : q ≤ 6) (w : ν.1 0 92 = nI q) : ∀ (f i : Nat), i ≤ 6 * q → 6 * q < i + f → fM_digest_l204 f (nI i) (xsel ν 2 (mixL h i (fun i => ν.1 0 (93 + i)))) = some (31 * (31 * mixL h (6 * q) (fun i => ν.1 0 (93 + i)) + ν.2 0) + ν.2 1, xsel ν 2 (31 * (31 * mixL h (6 * q) (fun i => ν.1 0 (93 + i)) + ν.2 0) + ν.2 1))
  | 0, i, h1, h2 => absurd h2 (by omega)
  | f + 1, i, h1, h2 => by
    unfold fM_digest_l204
    rw [xk92, xl92, xsel_1, w]
    rw [show (6 : Int32) = nI 6 from rfl, nI_mul]
    by_cases hi : i = 6 * q
    · subst hi
      rw [if_pos (nI_le (Nat.le_refl _) (by omega))]
      rw [y0s, M_mix, bnd, y1s, M_mix, bnd, y2s]
    · rw [if_neg (nI_ge (by omega) (by omega)), show (93 : Int32) + nI i = nI (93 + i) from nI_add 93 i, xck_nI (by omega) (by decide), nI_clamp (by omega), M_mix, bnd, nI_1]
      exact M_dl204 hn w f (i + 1) (by omega) (by omega)
theorem M_dl169 {ν : xM} {a : Nat} {h : Int64} (hn : a ≤ 6) (w : ν.1 0 61 = nI a) : ∀ (f i : Nat), i ≤ 5 * a → 5 * a < i + f → fM_digest_l169 f (nI i) (xsel ν 2 (mixL h i (fun i => ν.1 0 (62 + i)))) = fM_digest_l204 xfu 0 (xsel ν 2 (mixL h (5 * a) (fun i => ν.1 0 (62 + i))))
  | 0, i, h1, h2 => absurd h2 (by omega)
  | f + 1, i, h1, h2 => by
    unfold fM_digest_l169
    rw [xk61, xl61, xsel_1, w]
    rw [show (5 : Int32) = nI 5 from rfl, nI_mul]
    by_cases hi : i = 5 * a
    · subst hi
      rw [if_pos (nI_le (Nat.le_refl _) (by omega))]
    · rw [if_neg (nI_ge (by omega) (by omega)), show (62 : Int32) + nI i = nI (62 + i) from nI_add 62 i, xck_nI (by omega) (by decide), nI_clamp (by omega), M_mix, bnd, nI_1]
      exact M_dl169 hn w f (i + 1) (by omega) (by omega)
theorem M_dl134 {ν : xM} {hh : Nat} {h : Int64} (hn : hh ≤ 6) (w : ν.1 0 48 = nI hh) : ∀ (f i : Nat), i ≤ 2 * hh → 2 * hh < i + f → fM_digest_l134 f (nI i) (xsel ν 2 (mixL h i (fun i => ν.1 0 (49 + i)))) = fM_digest_l169 xfu 0 (xsel ν 2 (mixL h (2 * hh) (fun i => ν.1 0 (49 + i))))
  | 0, i, h1, h2 => absurd h2 (by omega)
  | f + 1, i, h1, h2 => by
    unfold fM_digest_l134
    rw [xk48, xl48, xsel_1, w]
    rw [show (2 : Int32) = nI 2 from rfl, nI_mul]
    by_cases hi : i = 2 * hh
    · subst hi
      rw [if_pos (nI_le (Nat.le_refl _) (by omega))]
    · rw [if_neg (nI_ge (by omega) (by omega)), show (49 : Int32) + nI i = nI (49 + i) from nI_add 49 i, xck_nI (by omega) (by decide), nI_clamp (by omega), M_mix, bnd, nI_1]
      exact M_dl134 hn w f (i + 1) (by omega) (by omega)
theorem M_dl102 {ν : xM} {k : Nat} {h : Int64} (hn : k ≤ 6) (w : ν.1 0 1 = nI k) : ∀ (f i : Nat), i ≤ k → k < i + f → fM_digest_l102 f (nI i) (xsel ν 2 (mixL h i (fun i => ν.1 0 (44 + i)))) = fM_digest_l134 xfu 0 (xsel ν 2 (mixL h (k) (fun i => ν.1 0 (44 + i))))
  | 0, i, h1, h2 => absurd h2 (by omega)
  | f + 1, i, h1, h2 => by
    unfold fM_digest_l102
    rw [xk1, xl1, xsel_1, w]
    by_cases hi : i = k
    · subst hi
      rw [if_pos (nI_le (Nat.le_refl _) (by omega))]
    · rw [if_neg (nI_ge (by omega) (by omega)), show (44 : Int32) + nI i = nI (44 + i) from nI_add 44 i, xck_nI (by omega) (by decide), nI_clamp (by omega), M_mix, bnd, nI_1]
      exact M_dl102 hn w f (i + 1) (by omega) (by omega)
theorem rel_sel {μ ν : xM} (h : xRel μ ν) {a : Int64} : xRel μ (xsel ν 2 a) := by
  obtain ⟨h1, a1, a2, t, ⟨f1, f2⟩, s⟩ := h
  exact ⟨h1, a1, a2, t, ⟨by rw [y0s]; exact f1, by rw [y1s]; exact f2⟩, s⟩
theorem M_dl71 {μ ν : xM} {n k b : Nat} {h : Int64} (E : bE n k 0 0 μ ν) (hb : b < n) (k9 : Int32 → xM → Option (Int64 × xM)) : ∀ (f c : Nat), c ≤ 6 → 6 < c + f → fM_digest_l71 k9 f (nI b) (nI c) (xsel ν 2 (mixL h (b * 6 + c) (μ.1 0))) = k9 (nI (b + 1)) (xsel ν 2 (mixL h ((b + 1) * 6) (μ.1 0)))
  | 0, c, h1, h2 => absurd h2 (by omega)
  | f + 1, c, h1, h2 => by
    obtain ⟨hβ, hR, hn, hk, u0, w0, hE, hV⟩ := id E
    unfold fM_digest_l71
    by_cases hc : c = 6
    · subst hc
      rw [if_pos (by decide), nI_1, Nat.succ_mul]
    · have e : (8 : Int32) + 6 * nI c + nI b = nI (8 + 6 * c + b) := by rw [show (6 : Int32) = nI 6 from rfl, nI_mul, show (8 : Int32) = nI 8 from rfl, nI_add, nI_add]
      have o : ∀ m : xM, m.1 = ν.1 → fM_ofBoard m (nI b) (nI c) = some (μ.1 0 (b * 6 + c)) := fun m hm => by
        unfold fM_ofBoard
        rw [e, xck_nI (by omega) (by decide), nI_clamp (by omega), hm, show 8 + 6 * c + b = 0 + 8 + 6 * c + b by omega, ← hE b c hb (by omega)]
        rfl
      rw [if_neg (show ¬ (6 : Int32) ≤ nI c from nI_ge (b := 6) (by omega) (by decide)), o (xsel ν 2 (mixL h (b * 6 + c) (μ.1 0))) rfl, bnd, M_mix, bnd, nI_1]
      exact M_dl71 E hb k9 f (c + 1) (by omega) (by omega)
theorem M_dl59 {μ ν : xM} {n k : Nat} {h : Int64} (E : bE n k 0 0 μ ν) : ∀ (f b : Nat), b ≤ n → n < b + f → fM_digest_l59 f (nI b) (xsel ν 2 (mixL h (b * 6) (μ.1 0))) = fM_digest_l102 xfu 0 (xsel ν 2 (mixL h (n * 6) (μ.1 0)))
  | 0, b, h1, h2 => absurd h2 (by omega)
  | f + 1, b, h1, h2 => by
    obtain ⟨hβ, hR, hn, hk, u0, w0, hE, hV⟩ := id E
    unfold fM_digest_l59
    rw [xk0, xl0, xsel_1, w0]
    by_cases hb : b = n
    · subst hb
      rw [if_pos (nI_le (Nat.le_refl _) (by omega))]
    · have e := M_dl71 (h := h) E (b := b) (by omega) (fM_digest_l59 f) xfu 0 (by decide) (by decide)
      have e' : fM_digest_l71 (fM_digest_l59 f) xfu (nI b) 0 (xsel ν 2 (mixL h (b * 6) (μ.1 0))) = _ := e
      rw [if_neg (nI_ge (by omega) (by omega)), e']
      exact M_dl59 E f (b + 1) (by omega) (by omega)
theorem M_dl33 {ν : xM} {h : Int64} : ∀ (f i : Nat), i ≤ 5 → 5 < i + f → fM_digest_l33 f (nI i) (xsel ν 2 (mixL h i (fun i => ν.1 0 (3 + i)))) = fM_digest_l59 xfu 0 (xsel ν 2 (mixL h 5 (fun i => ν.1 0 (3 + i))))
  | 0, i, h1, h2 => absurd h2 (by omega)
  | f + 1, i, h1, h2 => by
    unfold fM_digest_l33
    by_cases hi : i = 5
    · subst hi
      rw [if_pos (by decide)]
    · rw [if_neg (show ¬ (5 : Int32) ≤ nI i from nI_ge (b := 5) (by omega) (by decide)), xsel_1, show (3 : Int32) + nI i = nI (3 + i) from nI_add 3 i, xck_nI (by omega) (by decide), nI_clamp (by omega), M_mix, bnd, nI_1]
      exact M_dl33 f (i + 1) (by omega) (by omega)
def ctF (μ : xM) (x : Nat) : Int32 := match fH_count (nI x) μ with
  | some r => r.1
  | none => 0
theorem ctF_eq {μ ν : xM} (h : xRel μ ν) {x : Nat} (hx : x ≤ 10) (a : Int64) : fH_count (nI x) μ = some (ctF μ x, μ) ∧ fM_countOf (xsel ν 2 a) (nI x) = some (ctF μ x) := by
  obtain ⟨r, e1, e2⟩ := count_both (rel_sel h (a := a)) hx
  have e : ctF μ x = r := by
    unfold ctF
    rw [e1]
  rw [e]
  exact ⟨e1, e2⟩
theorem M_dl9 {μ ν : xM} (h : xRel μ ν) {a : Int64} : ∀ (f i : Nat), i ≤ 11 → 11 < i + f → fM_digest_l9 f (nI i) (xsel ν 2 (mixL a i (ctF μ))) = fM_digest_l33 xfu 0 (xsel ν 2 (mixL a 11 (ctF μ)))
  | 0, i, h1, h2 => absurd h2 (by omega)
  | f + 1, i, h1, h2 => by
    unfold fM_digest_l9
    by_cases hi : i = 11
    · subst hi
      rw [if_pos (by decide)]
    · rw [if_neg (show ¬ (11 : Int32) ≤ nI i from nI_ge (b := 11) (by omega) (by decide)), (ctF_eq h (by omega) _).2, bnd, M_mix, bnd, nI_1]
      exact M_dl9 h f (i + 1) (by omega) (by omega)
theorem H_dl6 {μ ν : xM} (h : xRel μ ν) {a : Int64} : ∀ (f i : Nat), i ≤ 11 → 11 < i + f → fH_digest_l6 f (mixL a i (ctF μ)) (nI i) μ = ((fT_mixedInto 2 μ (mixL a 11 (ctF μ))).bind fun r39 => (fT_mixedInto 0 μ r39).bind fun r54 => (fT_mixedInto 3 μ r54).bind fun r66 => (fT_mixedInto 4 μ r66).bind fun r78 => (fT_mixedInto 5 μ r78).bind fun r90 => (fT_mixedInto 6 μ r90).bind fun r102 => some ((((31 : Int64) * (((31 : Int64) * r102) + (μ.2 0))) + (μ.2 1)), μ))
  | 0, i, h1, h2 => absurd h2 (by omega)
  | f + 1, i, h1, h2 => by
    unfold fH_digest_l6
    by_cases hi : i = 11
    · subst hi
      rw [if_pos (by decide)]
    · rw [if_neg (show ¬ (10 : Int32) < nI i from Int32.not_lt.mpr (nI_le (b := 10) (by omega) (by decide))), (ctF_eq (ν := ν) h (x := i) (by omega) 0).1, bnd, nI_1]
      exact H_dl6 h f (i + 1) (by omega) (by omega)
theorem st_digest {μ ν : xM} (h : xRel μ ν) : ∃ (r : Int64) (μ2 ν2 : xM), (fH_digest μ = some (r, μ2)) ∧ (fM_digest ν = some (r, ν2)) ∧ xRel μ2 ν2 := by
  obtain ⟨n, k, y, hh, a, q, u, B, U, W, hC, hW, hI, hH, hN, hM, hP⟩ := rel_op h
  obtain ⟨b1, b2, b3, b4, b5, b6, b7⟩ := id B
  obtain ⟨u0, u1, u2, u3, u4, u5, u6, uy⟩ := U
  obtain ⟨w0, w1, w2, w3, w4, w5, w6⟩ := W
  have E := bE_0 b1 b2 u0 w0 hC
  obtain ⟨-, -, -, -, ⟨f1, f2⟩, -⟩ := id h
  have G2 : mixL (mixL 1523 11 (ctF μ)) 5 (fun i => ν.1 0 (3 + i)) = mixL (mixL 1523 11 (ctF μ)) (5 * wN 2) (μ.1 2) := mixL_congr (n := 5) (fun i hi => (hW i hi).1.symm)
  have G3 : ∀ h', mixL h' k (fun i => ν.1 0 (44 + i)) = mixL h' (k * wN 3) (μ.1 3) := fun h' => by
    rw [show k * wN 3 = k by show k * 1 = k; omega]
    exact mixL_congr (fun i hi => (hI i hi).symm)
  have G4 : ∀ h', mixL h' (2 * hh) (fun i => ν.1 0 (49 + i)) = mixL h' (hh * wN 4) (μ.1 4) := fun h' => by
    rw [show hh * wN 4 = 2 * hh by show hh * 2 = _; omega]
    refine mixL_congr (fun i hi => ?_)
    obtain ⟨r, hr⟩ : ∃ r, i = r * 2 ∨ i = r * 2 + 1 := ⟨i / 2, by omega⟩
    rcases hr with rfl | rfl
    · rw [(hH r (by omega)).1, show 49 + 2 * r = 49 + r * 2 by omega]
    · rw [(hH r (by omega)).2.1, show 49 + 2 * r + 1 = 49 + (r * 2 + 1) by omega]
  have G5 : ∀ h', mixL h' (5 * a) (fun i => ν.1 0 (62 + i)) = mixL h' (a * wN 5) (μ.1 5) := fun h' => by
    rw [show a * wN 5 = 5 * a by show a * 5 = _; omega]
    refine mixL_congr (fun i hi => ?_)
    obtain ⟨r, c, hc, rfl⟩ : ∃ r c, c < 5 ∧ i = r * 5 + c := ⟨i / 5, i % 5, by omega, by omega⟩
    rw [hN r c (by omega) hc, show 62 + 5 * r + c = 62 + (r * 5 + c) by omega]
  have G6 : ∀ h', mixL h' (6 * q) (fun i => ν.1 0 (93 + i)) = mixL h' (q * wN 6) (μ.1 6) := fun h' => by
    rw [show q * wN 6 = 6 * q by show q * 6 = _; omega]
    refine mixL_congr (fun i hi => ?_)
    obtain ⟨r, c, hc, rfl⟩ : ∃ r c, c < 6 ∧ i = r * 6 + c := ⟨i / 6, i % 6, by omega, by omega⟩
    rw [(hM r (by omega)).1 c hc, show 93 + 6 * r + c = 93 + (r * 6 + c) by omega]
  have A := H_dl6 h (a := 1523) xfu 0 (by decide) (by decide)
  rw [H_mi (t := 2) (u := 5) (by decide) u2 (by decide), bnd, H_mi (t := 0) (u := n) (by decide) u0 b1, bnd, H_mi (t := 3) (u := k) (by decide) u3 b2, bnd, H_mi (t := 4) (u := hh) (by decide) u4 b4, bnd, H_mi (t := 5) (u := a) (by decide) u5 b5, bnd, H_mi (t := 6) (u := q) (by decide) u6 b6, bnd] at A
  have B9 := M_dl9 h (a := 1523) xfu 0 (by decide) (by decide)
  have B33 := M_dl33 (ν := ν) (h := mixL 1523 11 (ctF μ)) xfu 0 (by decide) (by decide)
  have B59 := M_dl59 (h := mixL (mixL 1523 11 (ctF μ)) 5 (fun i => ν.1 0 (3 + i))) E xfu 0 (by omega) (by show n < 0 + 100000; omega)
  have B102 := fun h' => M_dl102 (ν := ν) (h := h') (k := k) (by omega) w1 xfu 0 (by omega) (by show k < 0 + 100000; omega)
  have B134 := fun h' => M_dl134 (ν := ν) (h := h') b4 w3 xfu 0 (by omega) (by show 2 * hh < 0 + 100000; omega)
  have B169 := fun h' => M_dl169 (ν := ν) (h := h') b5 w4 xfu 0 (by omega) (by show 5 * a < 0 + 100000; omega)
  have B204 := fun h' => M_dl204 (ν := ν) (h := h') b6 w5 xfu 0 (by omega) (by show 6 * q < 0 + 100000; omega)
  rw [Nat.zero_mul, mixL_0, nI_0] at B59
  rw [mixL_0, nI_0] at B9 B33
  simp only [mixL_0, nI_0] at B102 B134 B169 B204
  rw [mixL_0, nI_0] at A
  have Z : n * wN 0 = n * 6 := rfl
  rw [B33, B59, B102, B134, B169, B204, G6, G5, G4, G3, G2, ← f1, ← f2] at B9
  rw [Z] at A
  have eA : fH_digest μ = fH_digest_l6 xfu 1523 0 μ := by unfold fH_digest; rfl
  have eB : fM_digest ν = fM_digest_l9 xfu 0 (xsel ν 2 1523) := by unfold fM_digest; rfl
  exact ⟨_, μ, _, eA.trans A, eB.trans B9, rel_sel h⟩
