/-! BASE: copies of rows; what may be undone -/
/-- a copy of n places: block js from s to block jd from d -/
def xcb (m : xM) (jd js d s n : Nat) : xM := (fun j x => if j = jd ∧ d ≤ x ∧ x < d + n then m.1 js (s + (x - d)) else m.1 j x, m.2)
section XCB
variable {m : xM} {jd js d s n j x : Nat}
theorem xcb_at : (xcb m jd js d s n).1 j x = if j = jd ∧ d ≤ x ∧ x < d + n then m.1 js (s + (x - d)) else m.1 j x := rfl
theorem xcb_nb (h : j ≠ jd) : (xcb m jd js d s n).1 j x = m.1 j x := if_neg (fun z => h z.1)
theorem xcb_lo (h : x < d) : (xcb m jd js d s n).1 j x = m.1 j x := if_neg (fun z => by omega)
theorem xcb_hi (h : d + n ≤ x) : (xcb m jd js d s n).1 j x = m.1 j x := if_neg (fun z => by omega)
theorem xcb_in (h1 : d ≤ x) (h2 : x < d + n) : (xcb m jd js d s n).1 jd x = m.1 js (s + (x - d)) := if_pos ⟨rfl, h1, h2⟩
theorem xcb_0 : xcb m jd js d s 0 = m := by
  unfold xcb
  have e : (fun j x => if j = jd ∧ d ≤ x ∧ x < d + 0 then m.1 js (s + (x - d)) else m.1 j x) = m.1 := by
    funext j x
    exact if_neg (fun z => by omega)
  rw [e]
theorem xcb_step (h : jd ≠ js ∨ d ≤ s ∨ s + n < d) : xcb (xset m jd d (m.1 js s)) jd js (d + 1) (s + 1) n = xcb m jd js d s (n + 1) := by
  unfold xcb
  refine Prod.ext ?_ rfl
  funext j x
  show (if j = jd ∧ d + 1 ≤ x ∧ x < d + 1 + n then (xset m jd d (m.1 js s)).1 js (s + 1 + (x - (d + 1))) else (xset m jd d (m.1 js s)).1 j x) = if j = jd ∧ d ≤ x ∧ x < d + (n + 1) then m.1 js (s + (x - d)) else m.1 j x
  by_cases c1 : j = jd ∧ d + 1 ≤ x ∧ x < d + 1 + n
  · rw [if_pos c1, if_pos (by omega), xset_at, if_neg (by omega), show s + 1 + (x - (d + 1)) = s + (x - d) by omega]
  · rw [if_neg c1]
    by_cases c2 : j = jd ∧ x = d
    · obtain ⟨rfl, rfl⟩ := c2
      rw [if_pos (by omega), xset_eq, show s + (x - x) = s by omega]
    · rw [if_neg (by omega), xset_at, if_neg c2]
theorem xcb_xcb {n1 n2 : Nat} (h : jd ≠ js ∨ d ≤ s ∨ s + n1 + n2 ≤ d) : xcb (xcb m jd js d s n1) jd js (d + n1) (s + n1) n2 = xcb m jd js d s (n1 + n2) := by
  unfold xcb
  refine Prod.ext ?_ rfl
  funext j x
  show (if j = jd ∧ d + n1 ≤ x ∧ x < d + n1 + n2 then (xcb m jd js d s n1).1 js (s + n1 + (x - (d + n1))) else (xcb m jd js d s n1).1 j x) = if j = jd ∧ d ≤ x ∧ x < d + (n1 + n2) then m.1 js (s + (x - d)) else m.1 j x
  by_cases c1 : j = jd ∧ d + n1 ≤ x ∧ x < d + n1 + n2
  · rw [if_pos c1, if_pos (by omega), xcb_at, if_neg (by omega), show s + n1 + (x - (d + n1)) = s + (x - d) by omega]
  · rw [if_neg c1, xcb_at]
    by_cases c2 : j = jd ∧ d ≤ x ∧ x < d + n1
    · rw [if_pos c2, if_pos (by omega)]
    · rw [if_neg c2, if_neg (by omega)]
end XCB
theorem frH_cb {m m' : xM} {jd js d s n : Nat} (hk : ∀ x, d ≤ x → x < d + n → ¬ kH jd x) (h : frH m m') : frH m (xcb m' jd js d s n) := by
  refine ⟨fun j x k => ?_, h.2⟩
  rw [xcb_at, if_neg (fun z => hk x z.2.1 z.2.2 (by rw [← z.1]; exact k))]
  exact h.1 j x k
theorem frM_cb {m m' : xM} {jd js d s n : Nat} (hk : ∀ x, d ≤ x → x < d + n → ¬ kM jd x) (h : frM m m') : frM m (xcb m' jd js d s n) := by
  refine ⟨fun j x k => ?_, h.2⟩
  rw [xcb_at, if_neg (fun z => hk x z.2.1 z.2.2 (by rw [← z.1]; exact k))]
  exact h.1 j x k
/-- the reference keeps: the last loop -/
theorem M_l93 {e : Nat} (he : 130 ≤ e) (he2 : e + 37 ≤ 426) : ∀ (f i : Nat) (m : xM), i ≤ 36 → 36 < i + f → fM_minds_l93 f (nI e) (nI i) m = some (xset (xcb m 0 0 (e + 1 + i) (8 + i) (36 - i)) 0 129 (m.1 0 129 + 1))
  | 0, i, m, h1, h2 => absurd h2 (by omega)
  | f + 1, i, m, h1, h2 => by
    unfold fM_minds_l93
    by_cases hi : i = 36
    · subst hi
      rw [if_pos (by decide), xk129, xk129, xl129, show 36 - 36 = 0 from rfl, xcb_0]
    · rw [if_neg (show ¬ (36 : Int32) ≤ nI i from nI_ge (b := 36) (by omega) (by decide)), show (8 : Int32) + nI i = nI (8 + i) from nI_add 8 i, nI_1, nI_add, nI_1, xck_nI (by omega) (by decide), xck_nI (by omega) (by decide), nI_clamp (by omega), nI_clamp (by omega), M_l93 he he2 f (i + 1) _ (by omega) (by omega), xset_nj (by omega)]
      have e1 : 36 - i = 36 - (i + 1) + 1 := by omega
      rw [e1, ← xcb_step (m := m) (by omega)]
      rfl
theorem M_l15 : ∀ (f i : Nat) (m : xM), i ≤ 259 → 259 < i + f → fM_minds_l15 f (nI i) m = fM_minds_b63 (xset (xcb m 0 0 (130 + i) (167 + i) (259 - i)) 0 129 (m.1 0 129 - 1))
  | 0, i, m, h1, h2 => absurd h2 (by omega)
  | f + 1, i, m, h1, h2 => by
    unfold fM_minds_l15
    by_cases hi : i = 259
    · subst hi
      rw [if_pos (by decide), xk129, xk129, xl129, show 259 - 259 = 0 from rfl, xcb_0]
    · rw [if_neg (show ¬ (259 : Int32) ≤ nI i from nI_ge (b := 259) (by omega) (by decide)), show (130 : Int32) + nI i = nI (130 + i) from nI_add 130 i, show nI (130 + i) + 37 = nI (130 + i + 37) from nI_add _ 37, nI_1, xck_nI (by omega) (by decide), xck_nI (by omega) (by decide), nI_clamp (by omega), nI_clamp (by omega), M_l15 f (i + 1) _ (by omega) (by omega), xset_nj (by omega)]
      have e1 : 259 - i = 259 - (i + 1) + 1 := by omega
      have e2 : 130 + i + 37 = 167 + i := by omega
      rw [e1, e2, ← xcb_step (m := m) (by omega)]
      rfl
/-- the class keeps: its two loops -/
theorem H_k11 {r b : Nat} (hr : r < 8) (hb : b < 6) (k2 : Int32 → Int32 → xM → Option xM) : ∀ (f c : Nat) (m : xM), c ≤ 6 → 6 < c + f → fB_keepIn_l11 0 1 k2 f (nI r) (nI b) (nI c) m = k2 (nI r) (nI (b + 1)) (xcb m 1 0 (r * 37 + 6 * b + c) (6 * b + c) (6 - c))
  | 0, c, m, h1, h2 => absurd h2 (by omega)
  | f + 1, c, m, h1, h2 => by
    unfold fB_keepIn_l11
    by_cases hc : c = 6
    · subst hc
      rw [if_pos (by decide), show 6 - 6 = 0 from rfl, xcb_0, nI_1]
    · rw [if_neg (show ¬ (6 : Int32) ≤ nI c from nI_ge (b := 6) (by omega) (by decide)), B_get (β := 0) (b := b) (c := c) (by decide) rfl rfl (by omega) hb, bnd, show (6 : Int32) * nI b + nI c = nI (6 * b + c) by rw [show (6 : Int32) = nI 6 from rfl, nI_mul, nI_add], T_put (t := 1) (r := r) (c := 6 * b + c) (by decide) rfl rfl (by show _ < 37; omega) (by show _ < 8; omega), bnd, nI_1, H_k11 hr hb k2 f (c + 1) _ (by omega) (by omega)]
      have e1 : 6 - c = 6 - (c + 1) + 1 := by omega
      have e2 : r * wN 1 + (6 * b + c) = r * 37 + 6 * b + c := by show r * 37 + (6 * b + c) = _; omega
      have e3 : m.1 (xtb 0) (b * 6 + c) = m.1 0 (6 * b + c) := by rw [Nat.mul_comm b 6]; rfl
      rw [e1, e2, e3, ← xcb_step (m := m) (Or.inl (by decide))]
      rfl
theorem H_k2 {r : Nat} (hr : r < 8) : ∀ (f b : Nat) (m : xM), b ≤ 6 → 6 < b + f → fB_keepIn_l2 0 1 f (nI r) (nI b) m = some (xset (xcb m 1 0 (r * 37 + 6 * b) (6 * b) (36 - 6 * b)) 1 (r * 37 + 36) (m.1 37 0))
  | 0, b, m, h1, h2 => absurd h2 (by omega)
  | f + 1, b, m, h1, h2 => by
    unfold fB_keepIn_l2
    by_cases hb : b = 6
    · subst hb
      rw [if_pos (by decide), T_put (t := 1) (r := r) (c := 36) (v2 := 36) (by decide) rfl rfl (by decide) (by show _ < 8; omega), bnd, show 36 - 6 * 6 = 0 from rfl, xcb_0]
      rfl
    · rw [if_neg (show ¬ (6 : Int32) ≤ nI b from nI_ge (b := 6) (by omega) (by decide)), show (0 : Int32) = nI 0 from rfl, H_k11 hr (by omega) _ xfu 0 m (by omega) (by show 6 < 0 + 100000; omega), H_k2 hr f (b + 1) _ (by omega) (by omega), xcb_nb (by decide)]
      have e1 : r * 37 + 6 * (b + 1) = r * 37 + 6 * b + 6 := by omega
      have e2 : 6 * (b + 1) = 6 * b + 6 := by omega
      have e3 : 36 - 6 * b = 6 + (36 - (6 * b + 6)) := by omega
      rw [e1, e2, e3, ← xcb_xcb (m := m) (Or.inl (by decide))]
      rfl
/-- both keep the boards of the town that stands, where there is room -/
theorem rem_lt {μ ν : xM} (h : xRel μ ν) {u : Nat} (hu : u < 8) (u1 : μ.1 36 1 = nI u) : ∃ μ1 ν1, fW_remember_b19 0 μ = some μ1 ∧ fM_minds_b63 ν = some ν1 ∧ xRel μ1 ν1 ∧ (∀ j i, j ≠ 1 → (j ≠ 36 ∨ i ≠ 1) → μ1.1 j i = μ.1 j i) ∧ (∀ i, i < 129 → ν1.1 0 i = ν.1 0 i) := by
  obtain ⟨n, k, y, hh, a, q, u', B, U, W, hC, hW, hI, hH, hN, hM, hP⟩ := rel_op h
  obtain ⟨b1, b2, b3, b4, b5, b6, b7⟩ := id B
  obtain ⟨u0, u1', u2, u3, u4, u5, u6, uy⟩ := U
  obtain ⟨w0, w1, w2, w3, w4, w5, w6⟩ := W
  have eu : u' = u := (nI_eq (by omega) (by omega)).mp (u1'.symm.trans u1)
  subst eu
  refine ⟨xset (xcb (xset μ 36 1 (nI (u' + 1))) 1 0 (u' * 37) 0 36) 1 (u' * 37 + 36) (μ.1 37 0), xset (xcb (xset ν 0 (130 + 37 * u') (ν.1 0 2)) 0 0 (131 + 37 * u') 8 36) 0 129 (nI (u' + 1)), ?_, ?_, ?_, ?_, ?_⟩
  · unfold fW_remember_b19 fB_keepIn
    have s0 : fT_newRow (7 * 0 + 1) μ = some (nI u', xset μ 36 1 (nI (u' + 1))) := T_newRow (t := 1) (by decide) u1 hu
    have s1 := H_k2 hu xfu 0 (xset μ 36 1 (nI (u' + 1))) (by decide) (by decide)
    rw [s0, bnd]
    show (fB_keepIn_l2 0 1 xfu (nI u') (nI 0) (xset μ 36 1 (nI (u' + 1)))).bind _ = _
    rw [s1]
    rfl
  · unfold fM_minds_b63
    have e : (130 : Int32) + 37 * nI u' = nI (130 + 37 * u') := by rw [show (37 : Int32) = nI 37 from rfl, nI_mul, show (130 : Int32) = nI 130 from rfl, nI_add]
    have s1 := M_l93 (e := 130 + 37 * u') (by omega) (by omega) xfu 0 (xset ν 0 (130 + 37 * u') (ν.1 0 2)) (by decide) (by decide)
    rw [xk129, xk2, xl129, xl2, w6, e, xck_nI (by omega) (by decide), nI_clamp (by omega), show (0 : Int32) = nI 0 from rfl, s1, xset_nj (by omega), w6, nI_1, show 130 + 37 * u' + 1 + 0 = 131 + 37 * u' by omega]
  · refine rel_cl h (frH_set (by unfold kH; omega) (frH_cb (fun x _ _ => (by unfold kH; omega)) (frH_set (by unfold kH; omega) frH_refl))) (frM_set (by unfold kM; omega) (frM_cb (fun x _ _ => (by unfold kM; omega)) (frM_set (by unfold kM; omega) frM_refl))) (n := n) (k := k) (y := y) (hh := hh) (a := a) (q := q) (u := u' + 1) ⟨⟨b1, b2, b3, b4, b5, b6, by omega⟩, ⟨by simp (disch := omega) only [xcb_nb, xcb_lo, xcb_hi, xcb_in, xset_ne, xset_nj, xset_eq, Nat.add_zero]; exact u0, by simp (disch := omega) only [xcb_nb, xcb_lo, xcb_hi, xcb_in, xset_ne, xset_nj, xset_eq, Nat.add_zero], by simp (disch := omega) only [xcb_nb, xcb_lo, xcb_hi, xcb_in, xset_ne, xset_nj, xset_eq, Nat.add_zero]; exact u2, by simp (disch := omega) only [xcb_nb, xcb_lo, xcb_hi, xcb_in, xset_ne, xset_nj, xset_eq, Nat.add_zero]; exact u3, by simp (disch := omega) only [xcb_nb, xcb_lo, xcb_hi, xcb_in, xset_ne, xset_nj, xset_eq, Nat.add_zero]; exact u4, by simp (disch := omega) only [xcb_nb, xcb_lo, xcb_hi, xcb_in, xset_ne, xset_nj, xset_eq, Nat.add_zero]; exact u5, by simp (disch := omega) only [xcb_nb, xcb_lo, xcb_hi, xcb_in, xset_ne, xset_nj, xset_eq, Nat.add_zero]; exact u6, by simp (disch := omega) only [xcb_nb, xcb_lo, xcb_hi, xcb_in, xset_ne, xset_nj, xset_eq, Nat.add_zero]; exact uy⟩, ⟨by simp (disch := omega) only [xcb_nb, xcb_lo, xcb_hi, xcb_in, xset_ne, xset_nj, xset_eq, Nat.add_zero]; exact w0, by simp (disch := omega) only [xcb_nb, xcb_lo, xcb_hi, xcb_in, xset_ne, xset_nj, xset_eq, Nat.add_zero]; exact w1, by simp (disch := omega) only [xcb_nb, xcb_lo, xcb_hi, xcb_in, xset_ne, xset_nj, xset_eq, Nat.add_zero]; exact w2, by simp (disch := omega) only [xcb_nb, xcb_lo, xcb_hi, xcb_in, xset_ne, xset_nj, xset_eq, Nat.add_zero]; exact w3, by simp (disch := omega) only [xcb_nb, xcb_lo, xcb_hi, xcb_in, xset_ne, xset_nj, xset_eq, Nat.add_zero]; exact w4, by simp (disch := omega) only [xcb_nb, xcb_lo, xcb_hi, xcb_in, xset_ne, xset_nj, xset_eq, Nat.add_zero]; exact w5, by simp (disch := omega) only [xcb_nb, xcb_lo, xcb_hi, xcb_in, xset_ne, xset_nj, xset_eq, Nat.add_zero]⟩, pC_congr b1 (fun i hi => by simp (disch := omega) only [xcb_nb, xcb_lo, xcb_hi, xcb_in, xset_ne, xset_nj, xset_eq, Nat.add_zero]) (fun i h1 h2 => by simp (disch := omega) only [xcb_nb, xcb_lo, xcb_hi, xcb_in, xset_ne, xset_nj, xset_eq, Nat.add_zero]) hC, pW_congr (fun i hi => by simp (disch := omega) only [xcb_nb, xcb_lo, xcb_hi, xcb_in, xset_ne, xset_nj, xset_eq, Nat.add_zero]) (fun i h1 h2 => by simp (disch := omega) only [xcb_nb, xcb_lo, xcb_hi, xcb_in, xset_ne, xset_nj, xset_eq, Nat.add_zero]) hW, pI_congr b2 (fun i hi => by simp (disch := omega) only [xcb_nb, xcb_lo, xcb_hi, xcb_in, xset_ne, xset_nj, xset_eq, Nat.add_zero]) (fun i h1 h2 => by simp (disch := omega) only [xcb_nb, xcb_lo, xcb_hi, xcb_in, xset_ne, xset_nj, xset_eq, Nat.add_zero]) hI, pH_congr b4 (fun i hi => by simp (disch := omega) only [xcb_nb, xcb_lo, xcb_hi, xcb_in, xset_ne, xset_nj, xset_eq, Nat.add_zero]) (fun i h1 h2 => by simp (disch := omega) only [xcb_nb, xcb_lo, xcb_hi, xcb_in, xset_ne, xset_nj, xset_eq, Nat.add_zero]) hH, pN_congr b5 (fun i hi => by simp (disch := omega) only [xcb_nb, xcb_lo, xcb_hi, xcb_in, xset_ne, xset_nj, xset_eq, Nat.add_zero]) (fun i h1 h2 => by simp (disch := omega) only [xcb_nb, xcb_lo, xcb_hi, xcb_in, xset_ne, xset_nj, xset_eq, Nat.add_zero]) hN, pM_congr b6 (fun i hi => by simp (disch := omega) only [xcb_nb, xcb_lo, xcb_hi, xcb_in, xset_ne, xset_nj, xset_eq, Nat.add_zero]) (fun i h1 h2 => by simp (disch := omega) only [xcb_nb, xcb_lo, xcb_hi, xcb_in, xset_ne, xset_nj, xset_eq, Nat.add_zero]) hM, fun r hr => ?_⟩
    by_cases e : r = u'
    · subst e
      have cell : ∀ b c, b < n → c < 6 → (xset (xcb (xset μ 36 1 (nI (r + 1))) 1 0 (r * 37) 0 36) 1 (r * 37 + 36) (μ.1 37 0)).1 1 (r * 37 + (6 * b + c)) = μ.1 0 (b * 6 + c) := by
        intro b c hb hc
        simp (disch := omega) only [xcb_nb, xcb_lo, xcb_hi, xcb_in, xset_ne, xset_nj, xset_eq, Nat.add_zero]
        rw [show 0 + (r * 37 + (6 * b + c) - r * 37) = b * 6 + c by omega]
      refine ⟨⟨y, b3, by simp (disch := omega) only [xcb_nb, xcb_lo, xcb_hi, xcb_in, xset_ne, xset_nj, xset_eq, Nat.add_zero]; exact uy⟩, by simp (disch := omega) only [xcb_nb, xcb_lo, xcb_hi, xcb_in, xset_ne, xset_nj, xset_eq, Nat.add_zero]; rw [uy, w2], fun b c hb hc => ?_, vB_congr (fun b c hb hc => (cell b c hb hc).symm) hC.2⟩
      rw [cell b c hb hc]
      simp (disch := omega) only [xcb_nb, xcb_lo, xcb_hi, xcb_in, xset_ne, xset_nj, xset_eq, Nat.add_zero]
      rw [hC.1 b c hb hc, show 8 + (131 + 37 * r + (6 * c + b) - (131 + 37 * r)) = 8 + 6 * c + b by omega]
    · obtain ⟨p1, p2, p3, p4⟩ := hP r (by omega)
      refine ⟨by simp (disch := omega) only [xcb_nb, xcb_lo, xcb_hi, xcb_in, xset_ne, xset_nj, xset_eq, Nat.add_zero]; exact p1, by simp (disch := omega) only [xcb_nb, xcb_lo, xcb_hi, xcb_in, xset_ne, xset_nj, xset_eq, Nat.add_zero]; exact p2, fun b c hb hc => by simp (disch := omega) only [xcb_nb, xcb_lo, xcb_hi, xcb_in, xset_ne, xset_nj, xset_eq, Nat.add_zero]; exact p3 b c hb hc, vB_congr (fun b c hb hc => by simp (disch := omega) only [xcb_nb, xcb_lo, xcb_hi, xcb_in, xset_ne, xset_nj, xset_eq, Nat.add_zero]) p4⟩
  · intro j i h1 h2
    rcases h2 with h2 | h2
    · simp (disch := omega) only [xcb_nb, xcb_lo, xcb_hi, xcb_in, xset_ne, xset_nj, xset_eq, Nat.add_zero]
    · simp (disch := omega) only [xcb_nb, xcb_lo, xcb_hi, xcb_in, xset_ne, xset_nj, xset_eq, Nat.add_zero]
  · intro i hi
    simp (disch := omega) only [xcb_nb, xcb_lo, xcb_hi, xcb_in, xset_ne, xset_nj, xset_eq, Nat.add_zero]
