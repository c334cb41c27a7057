/-! STEPS: read; an item, in both -/
section ITE
variable {tx : Nat → Nat} {L : Nat}
theorem itR_x {p : Nat} {m ν : xM} {H M : Option (Int32 × xM)} (h : itR tx L p m ν H M) : itR tx L p m ν (H.bind fun r => some (xnb r.1, r.2)) M := by
  obtain ⟨m', ν', f, g, e, z⟩ := h
  refine ⟨m', ν', f, g, e, ?_⟩
  rcases z with ⟨p', n', k', y', z1, z2, z3, z4⟩ | ⟨z1, z2⟩
  · refine Or.inl ⟨p', n', k', y', z1, ?_, z3, z4⟩
    rw [z2, bnd]
    show some (xnb 1, m') = _
    rw [xnb_1]
  · refine Or.inr ⟨?_, z2⟩
    rw [z1, bnd]
    show some (xnb 0, m') = _
    rw [xnb_0]
theorem wv_cases {q len : Nat} : wv tx q len = 0 ∨ wv tx q len = 1 ∨ wv tx q len = 2 ∨ wv tx q len = 3 ∨ wv tx q len = 4 ∨ wv tx q len = 5 ∨ wv tx q len = 6 ∨ wv tx q len = -1 := by
  unfold wv
  repeat' split
  all_goals simp
theorem wv_0 {q : Nat} : wv tx q 0 = -1 := by
  unfold wv mt wlen
  simp
theorem word_both {q e n k y : Nat} {s v1 : Int32} {m ν : xM} (hq : q < e) (R : RS tx L e n k y m ν) (ss : sE m ν) (hw : m.1 40 2 = s) (hs : s = 0 ∨ s = 1 ∨ s = 2 ∨ s = 3 ∨ s = 4 ∨ s = 5 ∨ s = 6 ∨ s = -1) : itR tx L q m ν (if s = 0 then fR_readItem_b19 v1 1 m else fR_readItem_b19 v1 0 m) (if s + 1 = 1 then fM_readsItem_b20 (s + 1) 1 v1 ν else fM_readsItem_b20 (s + 1) 0 v1 ν) := by
  have no : itR tx L q m ν (some (xnb 0, m)) (some (xnb 0, ν)) := by
    rw [xnb_0]
    exact itR_no scH_refl scM_refl ss
  have no2 : itR tx L q m ν (some (xnb 0, m)) (fM_readsItem_b123 ν) := by
    rw [xnb_0, b123_eq]
    exact itR_no scH_refl scM_refl ss
  rcases hs with rfl | rfl | rfl | rfl | rfl | rfl | rfl | rfl
  · rw [if_pos (show (0 : Int32) = 0 from rfl), if_pos (show (0 : Int32) + 1 = 1 from rfl), show (0 : Int32) + 1 = 1 from rfl]
    unfold fR_readItem_b19 fM_readsItem_b20
    by_cases c : v1 = 1
    · rw [if_pos c, if_pos c.symm, hw, if_pos (show (1 : Int32) = 1 from rfl), if_pos (show (0 : Int32) = 0 from rfl)]
      exact itR_from scH_refl scM_refl (by omega) (stop_fin R)
    · rw [if_neg c, if_neg (fun z => c z.symm)]
      exact no
  · rw [if_neg (show ¬ (1 : Int32) = 0 by decide), if_neg (show ¬ (1 : Int32) + 1 = 1 by decide), show (1 : Int32) + 1 = 2 from rfl]
    unfold fR_readItem_b19 fM_readsItem_b20
    by_cases c : v1 = 0
    · rw [if_pos c, if_pos c.symm, hw, if_neg (show ¬ (2 : Int32) = 1 by decide), if_pos (show (2 : Int32) = 2 from rfl), if_neg (show ¬ (1 : Int32) = 0 by decide), if_pos (show (1 : Int32) = 1 from rfl)]
      exact itR_from scH_refl scM_refl (by omega) (itR_x (wets_both R))
    · rw [if_neg c, if_neg (fun z => c z.symm)]
      exact no
  · rw [if_neg (show ¬ (2 : Int32) = 0 by decide), if_neg (show ¬ (2 : Int32) + 1 = 1 by decide), show (2 : Int32) + 1 = 3 from rfl]
    unfold fR_readItem_b19 fM_readsItem_b20
    by_cases c : v1 = 0
    · rw [if_pos c, if_pos c.symm, hw, if_neg (show ¬ (3 : Int32) = 1 by decide), if_neg (show ¬ (3 : Int32) = 2 by decide), if_pos (show (3 : Int32) = 3 from rfl), if_neg (show ¬ (2 : Int32) = 0 by decide), if_neg (show ¬ (2 : Int32) = 1 by decide), if_pos (show (2 : Int32) = 2 from rfl)]
      exact itR_from scH_refl scM_refl (by omega) (itR_x (board_both R ss))
    · rw [if_neg c, if_neg (fun z => c z.symm)]
      exact no
  · rw [if_neg (show ¬ (3 : Int32) = 0 by decide), if_neg (show ¬ (3 : Int32) + 1 = 1 by decide), show (3 : Int32) + 1 = 4 from rfl]
    unfold fR_readItem_b19 fM_readsItem_b20
    by_cases c : v1 = 0
    · rw [if_pos c, if_pos c.symm, hw, if_neg (show ¬ (4 : Int32) = 1 by decide), if_neg (show ¬ (4 : Int32) = 2 by decide), if_neg (show ¬ (4 : Int32) = 3 by decide), if_pos (show (4 : Int32) = 4 from rfl), if_neg (show ¬ (3 : Int32) = 0 by decide), if_neg (show ¬ (3 : Int32) = 1 by decide), if_neg (show ¬ (3 : Int32) = 2 by decide), if_pos (show (3 : Int32) = 3 from rfl)]
      exact itR_from scH_refl scM_refl (by omega) (itR_x (make_both R ss))
    · rw [if_neg c, if_neg (fun z => c z.symm)]
      exact no
  · rw [if_neg (show ¬ (4 : Int32) = 0 by decide), if_neg (show ¬ (4 : Int32) + 1 = 1 by decide), show (4 : Int32) + 1 = 5 from rfl]
    unfold fR_readItem_b19 fM_readsItem_b20
    by_cases c : v1 = 0
    · rw [if_pos c, if_pos c.symm, hw, if_neg (show ¬ (5 : Int32) = 1 by decide), if_neg (show ¬ (5 : Int32) = 2 by decide), if_neg (show ¬ (5 : Int32) = 3 by decide), if_neg (show ¬ (5 : Int32) = 4 by decide), if_pos (show (5 : Int32) = 5 from rfl), if_neg (show ¬ (4 : Int32) = 0 by decide), if_neg (show ¬ (4 : Int32) = 1 by decide), if_neg (show ¬ (4 : Int32) = 2 by decide), if_neg (show ¬ (4 : Int32) = 3 by decide), if_pos (show (4 : Int32) = 4 from rfl)]
      exact itR_from scH_refl scM_refl (by omega) (itR_x (cut_both R))
    · rw [if_neg c, if_neg (fun z => c z.symm)]
      exact no
  · rw [if_neg (show ¬ (5 : Int32) = 0 by decide), if_neg (show ¬ (5 : Int32) + 1 = 1 by decide), show (5 : Int32) + 1 = 6 from rfl]
    unfold fR_readItem_b19 fM_readsItem_b20
    by_cases c : v1 = 0
    · rw [if_pos c, if_pos c.symm, hw, if_neg (show ¬ (6 : Int32) = 1 by decide), if_neg (show ¬ (6 : Int32) = 2 by decide), if_neg (show ¬ (6 : Int32) = 3 by decide), if_neg (show ¬ (6 : Int32) = 4 by decide), if_neg (show ¬ (6 : Int32) = 5 by decide), if_pos (show (6 : Int32) = 6 from rfl), if_neg (show ¬ (5 : Int32) = 0 by decide), if_neg (show ¬ (5 : Int32) = 1 by decide), if_neg (show ¬ (5 : Int32) = 2 by decide), if_neg (show ¬ (5 : Int32) = 3 by decide), if_neg (show ¬ (5 : Int32) = 4 by decide), if_pos (show (5 : Int32) = 5 from rfl)]
      exact itR_from scH_refl scM_refl (by omega) (itR_x (worm_both R))
    · rw [if_neg c, if_neg (fun z => c z.symm)]
      exact no
  · rw [if_neg (show ¬ (6 : Int32) = 0 by decide), if_neg (show ¬ (6 : Int32) + 1 = 1 by decide), show (6 : Int32) + 1 = 7 from rfl]
    unfold fR_readItem_b19 fM_readsItem_b20
    by_cases c : v1 = 0
    · rw [if_pos c, if_pos c.symm, hw, if_neg (show ¬ (7 : Int32) = 1 by decide), if_neg (show ¬ (7 : Int32) = 2 by decide), if_neg (show ¬ (7 : Int32) = 3 by decide), if_neg (show ¬ (7 : Int32) = 4 by decide), if_neg (show ¬ (7 : Int32) = 5 by decide), if_neg (show ¬ (7 : Int32) = 6 by decide), if_pos (show (7 : Int32) = 7 from rfl), if_neg (show ¬ (6 : Int32) = 0 by decide), if_neg (show ¬ (6 : Int32) = 1 by decide), if_neg (show ¬ (6 : Int32) = 2 by decide), if_neg (show ¬ (6 : Int32) = 3 by decide), if_neg (show ¬ (6 : Int32) = 4 by decide), if_neg (show ¬ (6 : Int32) = 5 by decide), if_pos (show (6 : Int32) = 6 from rfl)]
      exact itR_from scH_refl scM_refl (by omega) (itR_x (years_both R))
    · rw [if_neg c, if_neg (fun z => c z.symm)]
      exact no
  · rw [if_neg (show ¬ (-1 : Int32) = 0 by decide), if_neg (show ¬ (-1 : Int32) + 1 = 1 by decide), show (-1 : Int32) + 1 = 0 from rfl]
    unfold fR_readItem_b19 fM_readsItem_b20
    by_cases c : v1 = 0
    · rw [if_pos c, if_pos c.symm, hw, if_neg (show ¬ (0 : Int32) = 1 by decide), if_neg (show ¬ (0 : Int32) = 2 by decide), if_neg (show ¬ (0 : Int32) = 3 by decide), if_neg (show ¬ (0 : Int32) = 4 by decide), if_neg (show ¬ (0 : Int32) = 5 by decide), if_neg (show ¬ (0 : Int32) = 6 by decide), if_neg (show ¬ (0 : Int32) = 7 by decide), if_neg (show ¬ (-1 : Int32) = 0 by decide), if_neg (show ¬ (-1 : Int32) = 1 by decide), if_neg (show ¬ (-1 : Int32) = 2 by decide), if_neg (show ¬ (-1 : Int32) = 3 by decide), if_neg (show ¬ (-1 : Int32) = 4 by decide), if_neg (show ¬ (-1 : Int32) = 5 by decide), if_neg (show ¬ (-1 : Int32) = 6 by decide)]
      exact no2
    · rw [if_neg c, if_neg (fun z => c z.symm)]
      exact no
theorem item_both {q n k y : Nat} {v1 : Int32} {m ν : xM} (hL : L ≤ 150) (hx : ∀ j, j < L → tx j ≤ 127) (hq : q ≤ L) (hs : sk tx L q = q) (h0 : m.1 40 0 = tS tx L q) (h1 : m.1 40 1 = nI q) (h2 : m.1 40 2 = tV tx L q) (K : tkS tx L m (nx tx L q)) (ha : ν.1 6 1 = nI q) (T : txM tx L ν) (D : RD n k y m ν) : itR tx L q m ν (fR_readItem v1 m) (fM_readsItem v1 ν) := by
  obtain ⟨ν1, a1, a2, a3, a4⟩ := M_takesWord hL hx hq T ha
  rw [hs] at a2 a3
  have T1 := txM_fr T a4
  have ss : sE m ν1 := ⟨by rw [h1, a3], q, by omega, h1⟩
  have le : el tx L q ≤ L := ru_le hq
  have ge : q ≤ el tx L q := ru_ge hq
  unfold fR_readItem fM_readsItem
  rw [a1, bnd, M_word (q := q) (len := el tx L q - q) hL hx T1 a3 (by rw [a2]; congr 1; omega) (by omega), bnd, h0]
  by_cases c : tS tx L q = 0
  · have cw := (tS_word hq).mp c
    have gt : q < el tx L q := ru_yes cw.1 cw.2
    have en : nx tx L q = el tx L q := by
      unfold nx tend
      rw [if_pos cw.1, if_pos cw.2]
    have ev : tV tx L q = wv tx q (el tx L q - q) := by
      unfold tV
      rw [if_neg (by omega), if_pos cw.2]
    rw [en] at K
    rw [ev] at h2
    have R : RS tx L (el tx L q) n k y m ν1 := ⟨⟨hL, hx⟩, le, K, a2, T1, RD_fr D cH_refl a4⟩
    rw [if_pos c, h2]
    have w := word_both (q := q) (v1 := v1) gt R ss h2 wv_cases
    exact itR_from scH_refl (cM_sc a4) (Nat.le_refl _) w
  · have ne : ¬ (q < L ∧ inR 97 122 tx q = true) := fun z => c ((tS_word hq).mpr z)
    have e0 : el tx L q = q := by
      by_cases d : q < L
      · exact ru_no d (Bool.eq_false_iff.mpr (fun z => ne ⟨d, z⟩))
      · rw [show q = L by omega]
        exact ru_L
    rw [if_neg c, e0, Nat.sub_self, wv_0, if_neg (show ¬ (-1 : Int32) + 1 = 1 by decide), show (-1 : Int32) + 1 = 0 from rfl, xnb_0]
    have no : itR tx L q m ν (some (0, m)) (some (0, ν1)) := itR_no scH_refl (cM_sc a4) ss
    unfold fM_readsItem_b20
    by_cases d : (0 : Int32) = v1
    · subst d
      simp only [show ¬ (0 : Int32) = 1 by decide, show ¬ (0 : Int32) = 2 by decide, show ¬ (0 : Int32) = 3 by decide, show ¬ (0 : Int32) = 4 by decide, show ¬ (0 : Int32) = 5 by decide, show ¬ (0 : Int32) = 6 by decide, show ¬ (0 : Int32) = 7 by decide, if_false, if_true, b123_eq]
      exact no
    · rw [if_neg (fun z => d z.symm), xnb_0]
      exact no
end ITE
