/-! THE RELATION of the two memories -/
/-- how many below n -/
def cntB : Nat → (Nat → Bool) → Nat
  | 0, _ => 0
  | n + 1, f => cntB n f + (if f n then 1 else 0)
/-- boards that may be: n of them, k instruments -/
def vB (n k : Nat) (C : Nat → Nat → Int32) : Prop :=
  (∀ b, b < n → (∃ x, x < 6 ∧ C b 0 = nI x) ∧ (∃ x, x ≤ 99 ∧ C b 1 = nI x) ∧ (∃ x, x ≤ 9 ∧ C b 2 = nI x) ∧ (∃ x, x < 4 ∧ C b 3 = nI x) ∧ (C b 4 = 0 ∨ C b 4 = 1) ∧ (C b 5 = -1 ∨ ∃ i, i < k ∧ C b 5 = nI i)) ∧
  ∀ i, i < k → cntB n (fun b => C b 5 == nI i) ≤ 4
/-- the parts of a town: its boards, wets, kinds of instruments, heard ones, notes, marks, what may be undone: in the class (rows v) and in a region w of the reference -/
def pC (n k : Nat) (v : Nat → Nat → Int32) (w : Nat → Int32) : Prop := (∀ b c, b < n → c < 6 → v 0 (b * 6 + c) = w (8 + 6 * c + b)) ∧ vB n k (fun b c => v 0 (b * 6 + c))
def pW (v : Nat → Nat → Int32) (w : Nat → Int32) : Prop := ∀ j, j < 5 → v 2 j = w (3 + j) ∧ ∃ x, x ≤ 4 ∧ v 2 j = nI x
def pI (k : Nat) (v : Nat → Nat → Int32) (w : Nat → Int32) : Prop := ∀ i, i < k → v 3 i = w (44 + i)
def pH (h : Nat) (v : Nat → Nat → Int32) (w : Nat → Int32) : Prop := ∀ r, r < h → v 4 (r * 2) = w (49 + 2 * r) ∧ v 4 (r * 2 + 1) = w (49 + 2 * r + 1) ∧ ∃ x, x < 4 ∧ v 4 (r * 2) = nI x
def pN (a : Nat) (v : Nat → Nat → Int32) (w : Nat → Int32) : Prop := ∀ r c, r < a → c < 5 → v 5 (r * 5 + c) = w (62 + 5 * r + c)
def pM (q : Nat) (v : Nat → Nat → Int32) (w : Nat → Int32) : Prop := ∀ r, r < q → (∀ c, c < 6 → v 6 (r * 6 + c) = w (93 + 6 * r + c)) ∧ (∃ x, x ≤ 200 ∧ v 6 (r * 6 + 1) = nI x) ∧ (∃ x, x ≤ 4 ∧ v 6 (r * 6 + 2) = nI x) ∧ (∃ x, x ≤ 4 ∧ v 6 (r * 6 + 3) = nI x) ∧ ∃ x, x < 4 ∧ v 6 (r * 6 + 4) = nI x
def pP (n k u : Nat) (v : Nat → Nat → Int32) (w : Nat → Int32) : Prop := ∀ r, r < u → (∃ x, x ≤ 999 ∧ v 1 (r * 37 + 36) = nI x) ∧ v 1 (r * 37 + 36) = w (130 + 37 * r) ∧ (∀ b c, b < n → c < 6 → v 1 (r * 37 + (6 * b + c)) = w (131 + 37 * r + (6 * c + b))) ∧ vB n k (fun b c => v 1 (r * 37 + (6 * b + c)))
/-- a town of the class and a region w of the reference: n boards, k instruments, year y, h heard, a notes, q marks, u to undo -/
def rT (n k y h a q u : Nat) (v : Nat → Nat → Int32) (us : Nat → Int32) (yr : Int32) (w : Nat → Int32) : Prop :=
  (n ≤ 6 ∧ k ≤ 4 ∧ y ≤ 999 ∧ h ≤ 6 ∧ a ≤ 6 ∧ q ≤ 6 ∧ u ≤ 8) ∧
  (us 0 = nI n ∧ us 1 = nI u ∧ us 2 = 5 ∧ us 3 = nI k ∧ us 4 = nI h ∧ us 5 = nI a ∧ us 6 = nI q ∧ yr = nI y) ∧
  (w 0 = nI n ∧ w 1 = nI k ∧ w 2 = nI y ∧ w 48 = nI h ∧ w 61 = nI a ∧ w 92 = nI q ∧ w 129 = nI u) ∧
  pC n k v w ∧ pW v w ∧ pI k v w ∧ pH h v w ∧ pN a v w ∧ pM q v w ∧ pP n k u v w
def vw (m : xM) (t : Nat) : Nat → Nat → Int32 := fun j i => m.1 (7 * t + j) i
def uw (m : xM) (t : Nat) : Nat → Int32 := fun j => m.1 36 (7 * t + j)
def rw' (m : xM) (r : Nat) : Nat → Int32 := fun i => m.1 0 (r + i)
/-- some town of the class and some region -/
def rTw (μ : xM) (t : Nat) (ν : xM) (r : Nat) : Prop := ∃ n k y h a q u, rT n k y h a q u (vw μ t) (uw μ t) (μ.1 37 t) (rw' ν r)
/-- an image: kept in both, or in none -/
def rIm (μ ν : xM) (i : Nat) : Prop := (μ.1 38 i = 0 ∧ ν.1 1 i = 0) ∨ (μ.1 38 i = 1 ∧ ν.1 1 i = 1 ∧ rTw μ (i + 1) ν (426 + 426 * i))
def rTx (μ ν : xM) : Prop := ∃ L, L ≤ 150 ∧ μ.1 36 29 = nI L ∧ ν.1 6 0 = nI L ∧ ∀ j, j < L → μ.1 29 j = ν.1 2 j ∧ ∃ x, x ≤ 127 ∧ μ.1 29 j = nI x
/-- all but the town that stands -/
def rRest (μ ν : xM) : Prop := rIm μ ν 0 ∧ rIm μ ν 1 ∧ rTx μ ν ∧ (μ.2 0 = ν.2 0 ∧ μ.2 1 = ν.2 1) ∧ μ.1 38 2 = ν.1 3 0 ∧ μ.1 38 3 = ν.1 3 1 ∧ μ.1 38 4 = ν.1 3 2
def xRel (μ ν : xM) : Prop := rTw μ 0 ν 0 ∧ rRest μ ν
theorem cntB_congr {n : Nat} {f g : Nat → Bool} (h : ∀ b, b < n → f b = g b) : cntB n f = cntB n g := by
  induction n with
  | zero => rfl
  | succ n ih =>
    show cntB n f + (if f n then 1 else 0) = cntB n g + (if g n then 1 else 0)
    rw [ih (fun b hb => h b (by omega)), h n (by omega)]
theorem vB_congr {n k : Nat} {C C' : Nat → Nat → Int32} (h : ∀ b c, b < n → c < 6 → C b c = C' b c) (hv : vB n k C) : vB n k C' := by
  refine ⟨fun b hb => ?_, fun i hi => ?_⟩
  · obtain ⟨h0, h1, h2, h3, h4, h5⟩ := hv.1 b hb
    rw [h b 0 hb (by decide)] at h0
    rw [h b 1 hb (by decide)] at h1
    rw [h b 2 hb (by decide)] at h2
    rw [h b 3 hb (by decide)] at h3
    rw [h b 4 hb (by decide)] at h4
    rw [h b 5 hb (by decide)] at h5
    exact ⟨h0, h1, h2, h3, h4, h5⟩
  · rw [← cntB_congr (n := n) (f := fun b => C b 5 == nI i) (fun b hb => by rw [h b 5 hb (by decide)])]
    exact hv.2 i hi
section PCG
variable {n k h a q u : Nat} {v v' : Nat → Nat → Int32} {w w' : Nat → Int32}
theorem pC_congr (hn : n ≤ 6) (hv : ∀ i, i < 36 → v 0 i = v' 0 i) (hw : ∀ i, 8 ≤ i → i < 44 → w i = w' i) (H : pC n k v w) : pC n k v' w' := by
  refine ⟨fun b c hb hc => ?_, vB_congr (fun b c hb hc => hv _ (by omega)) H.2⟩
  rw [← hv _ (by omega), ← hw _ (by omega) (by omega)]
  exact H.1 b c hb hc
theorem pW_congr (hv : ∀ i, i < 5 → v 2 i = v' 2 i) (hw : ∀ i, 3 ≤ i → i < 8 → w i = w' i) (H : pW v w) : pW v' w' := by
  intro j hj
  rw [← hv _ hj, ← hw _ (by omega) (by omega)]
  exact H j hj
theorem pI_congr (hk : k ≤ 4) (hv : ∀ i, i < 4 → v 3 i = v' 3 i) (hw : ∀ i, 44 ≤ i → i < 48 → w i = w' i) (H : pI k v w) : pI k v' w' := by
  intro j hj
  rw [← hv _ (by omega), ← hw _ (by omega) (by omega)]
  exact H j hj
theorem pH_congr (hh : h ≤ 6) (hv : ∀ i, i < 12 → v 4 i = v' 4 i) (hw : ∀ i, 49 ≤ i → i < 61 → w i = w' i) (H : pH h v w) : pH h v' w' := by
  intro r hr
  rw [← hv _ (by omega), ← hv _ (by omega), ← hw _ (by omega) (by omega), ← hw _ (by omega) (by omega)]
  exact H r hr
theorem pN_congr (ha : a ≤ 6) (hv : ∀ i, i < 30 → v 5 i = v' 5 i) (hw : ∀ i, 62 ≤ i → i < 92 → w i = w' i) (H : pN a v w) : pN a v' w' := by
  intro r c hr hc
  rw [← hv _ (by omega), ← hw _ (by omega) (by omega)]
  exact H r c hr hc
theorem pM_congr (hq : q ≤ 6) (hv : ∀ i, i < 36 → v 6 i = v' 6 i) (hw : ∀ i, 93 ≤ i → i < 129 → w i = w' i) (H : pM q v w) : pM q v' w' := by
  intro r hr
  obtain ⟨h1, h2⟩ := H r hr
  refine ⟨fun c hc => ?_, ?_⟩
  · rw [← hv _ (by omega), ← hw _ (by omega) (by omega)]
    exact h1 c hc
  · rw [← hv _ (by omega), ← hv _ (by omega), ← hv _ (by omega), ← hv _ (by omega)]
    exact h2
theorem pP_congr (hn : n ≤ 6) (hu : u ≤ 8) (hv : ∀ i, i < 296 → v 1 i = v' 1 i) (hw : ∀ i, 130 ≤ i → i < 426 → w i = w' i) (H : pP n k u v w) : pP n k u v' w' := by
  intro r hr
  obtain ⟨p1, p2, p3, p4⟩ := H r hr
  refine ⟨?_, ?_, fun b c hb hc => ?_, vB_congr (fun b c hb hc => hv _ (by omega)) p4⟩
  · rw [← hv _ (by omega)]
    exact p1
  · rw [← hv _ (by omega), ← hw _ (by omega) (by omega)]
    exact p2
  · rw [← hv _ (by omega), ← hw _ (by omega) (by omega)]
    exact p3 b c hb hc
end PCG
/-- the relation looks at a town's rows, and 426 places of a region -/
theorem rT_congr {n k y h a q u : Nat} {v v' : Nat → Nat → Int32} {us us' : Nat → Int32} {yr yr' : Int32} {w w' : Nat → Int32} (hv : ∀ j i, j < 7 → i < xlen j → v j i = v' j i) (hu : ∀ j, j < 7 → us j = us' j) (hy : yr = yr') (hw : ∀ i, i < 426 → w i = w' i) (H : rT n k y h a q u v us yr w) : rT n k y h a q u v' us' yr' w' := by
  obtain ⟨B, U, W, hC, hW, hI, hH, hN, hM, hP⟩ := H
  obtain ⟨b1, b2, b3, b4, b5, b6, b7⟩ := id B
  refine ⟨B, ?_, ?_, pC_congr b1 (fun i hi => hv 0 i (by decide) hi) (fun i _ hi => hw i (by omega)) hC, pW_congr (fun i hi => hv 2 i (by decide) hi) (fun i _ hi => hw i (by omega)) hW, pI_congr b2 (fun i hi => hv 3 i (by decide) hi) (fun i _ hi => hw i (by omega)) hI, pH_congr b4 (fun i hi => hv 4 i (by decide) hi) (fun i _ hi => hw i (by omega)) hH, pN_congr b5 (fun i hi => hv 5 i (by decide) hi) (fun i _ hi => hw i (by omega)) hN, pM_congr b6 (fun i hi => hv 6 i (by decide) hi) (fun i _ hi => hw i (by omega)) hM, pP_congr b1 b7 (fun i hi => hv 1 i (by decide) hi) (fun i _ hi => hw i hi) hP⟩
  · rw [← hu 0 (by decide), ← hu 1 (by decide), ← hu 2 (by decide), ← hu 3 (by decide), ← hu 4 (by decide), ← hu 5 (by decide), ← hu 6 (by decide), ← hy]
    exact U
  · rw [← hw 0 (by decide), ← hw 1 (by decide), ← hw 2 (by decide), ← hw 48 (by decide), ← hw 61 (by decide), ← hw 92 (by decide), ← hw 129 (by decide)]
    exact W
theorem rTw_congr {μ μ' ν ν' : xM} {t r : Nat} (hv : ∀ j i, j < 7 → μ.1 (7 * t + j) i = μ'.1 (7 * t + j) i) (hu : ∀ j, j < 7 → μ.1 36 (7 * t + j) = μ'.1 36 (7 * t + j)) (hy : μ.1 37 t = μ'.1 37 t) (hw : ∀ i, i < 426 → ν.1 0 (r + i) = ν'.1 0 (r + i)) (h : rTw μ t ν r) : rTw μ' t ν' r := by
  obtain ⟨n, k, y, hh, a, q, u, H⟩ := h
  exact ⟨n, k, y, hh, a, q, u, rT_congr (fun j i hj _ => hv j i hj) hu hy hw H⟩
/-- the rest stays, where the writes touch none of it -/
theorem rRest_congr {μ μ' ν ν' : xM} (hv : ∀ j i, 7 ≤ j → j < 21 → μ.1 j i = μ'.1 j i) (hu : ∀ j, 7 ≤ j → j < 21 → μ.1 36 j = μ'.1 36 j) (hy : ∀ t, 1 ≤ t → t < 3 → μ.1 37 t = μ'.1 37 t) (hw : ∀ i, 426 ≤ i → i < 1278 → ν.1 0 i = ν'.1 0 i)
    (h29 : μ.1 29 = μ'.1 29 ∧ μ.1 36 29 = μ'.1 36 29) (h38 : μ.1 38 = μ'.1 38) (h2 : μ.2 0 = μ'.2 0 ∧ μ.2 1 = μ'.2 1) (g1 : ν.1 1 = ν'.1 1) (g2 : ν.1 2 = ν'.1 2) (g3 : ν.1 3 = ν'.1 3) (g6 : ν.1 6 0 = ν'.1 6 0) (gl : ν.2 0 = ν'.2 0 ∧ ν.2 1 = ν'.2 1) (h : rRest μ ν) : rRest μ' ν' := by
  have im : ∀ i, i < 2 → rIm μ ν i → rIm μ' ν' i := by
    intro i hi h
    unfold rIm
    rw [← h38, ← g1]
    rcases h with h | ⟨h1, h3, h4⟩
    · exact Or.inl h
    · exact Or.inr ⟨h1, h3, rTw_congr (fun j x hj => hv _ _ (by omega) (by omega)) (fun j hj => hu _ (by omega) (by omega)) (hy _ (by omega) (by omega)) (fun x hx => hw _ (by omega) (by omega)) h4⟩
  obtain ⟨a1, a2, ⟨L, t1, t2, t3, t4⟩, ⟨f1, f2⟩, s1, s2, s3⟩ := h
  refine ⟨im 0 (by decide) a1, im 1 (by decide) a2, ⟨L, t1, ?_, ?_, ?_⟩, ⟨?_, ?_⟩, ?_, ?_, ?_⟩
  · rw [← h29.2]; exact t2
  · rw [← g6]; exact t3
  · rw [← h29.1, ← g2]; exact t4
  · rw [← h2.1, ← gl.1]; exact f1
  · rw [← h2.2, ← gl.2]; exact f2
  · rw [← h38, ← g3]; exact s1
  · rw [← h38, ← g3]; exact s2
  · rw [← h38, ← g3]; exact s3
/-- refusals keep the relation -/
theorem rel_st {μ ν : xM} (h : xRel μ ν) (i j : Nat) (hi : i = j + 2) (hj : j < 3) : xRel (xset μ 38 i (μ.1 38 i + 1)) (xset ν 3 j (ν.1 3 j + 1)) := by
  obtain ⟨h1, ⟨a1, a2, ⟨L, t1, t2, t3, t4⟩, f, s⟩⟩ := h
  have im : ∀ x, x < 2 → rIm μ ν x → rIm (xset μ 38 i (μ.1 38 i + 1)) (xset ν 3 j (ν.1 3 j + 1)) x := by
    intro x hx h
    unfold rIm
    rw [xset_nj (by omega), xset_ne (by decide)]
    rcases h with h | ⟨g1, g3, g4⟩
    · exact Or.inl h
    · exact Or.inr ⟨g1, g3, rTw_congr (fun j x hj => (xset_ne (by omega)).symm) (fun j hj => (xset_ne (by decide)).symm) (xset_ne (by decide)).symm (fun x hx => (xset_ne (by decide)).symm) g4⟩
  refine ⟨rTw_congr (fun j x hj => (xset_ne (by omega)).symm) (fun j hj => (xset_ne (by decide)).symm) (xset_ne (by decide)).symm (fun x hx => (xset_ne (by decide)).symm) h1, im 0 (by decide) a1, im 1 (by decide) a2, ⟨L, t1, ?_, ?_, ?_⟩, f, ?_⟩
  · rw [xset_ne (by decide)]; exact t2
  · rw [xset_ne (by decide)]; exact t3
  · intro x hx
    rw [xset_ne (by decide), xset_ne (by decide)]
    exact t4 x hx
  · obtain ⟨s1, s2, s3⟩ := s
    subst hi
    rcases (show j = 0 ∨ j = 1 ∨ j = 2 by omega) with rfl | rfl | rfl
    · exact ⟨by rw [xset_eq, xset_eq, s1], by rw [xset_nj (by decide), xset_nj (by decide)]; exact s2, by rw [xset_nj (by decide), xset_nj (by decide)]; exact s3⟩
    · exact ⟨by rw [xset_nj (by decide), xset_nj (by decide)]; exact s1, by rw [xset_eq, xset_eq, s2], by rw [xset_nj (by decide), xset_nj (by decide)]; exact s3⟩
    · exact ⟨by rw [xset_nj (by decide), xset_nj (by decide)]; exact s1, by rw [xset_nj (by decide), xset_nj (by decide)]; exact s2, by rw [xset_eq, xset_eq, s3]⟩
theorem rel_bad {μ ν : xM} (h : xRel μ ν) : xRel (xset μ 38 2 (μ.1 38 2 + 1)) (xset ν 3 0 (ν.1 3 0 + 1)) := rel_st h 2 0 rfl (by decide)
theorem rel_no {μ ν : xM} (h : xRel μ ν) : xRel (xset μ 38 3 (μ.1 38 3 + 1)) (xset ν 3 1 (ν.1 3 1 + 1)) := rel_st h 3 1 rfl (by decide)
theorem rel_full {μ ν : xM} (h : xRel μ ν) : xRel (xset μ 38 4 (μ.1 38 4 + 1)) (xset ν 3 2 (ν.1 3 2 + 1)) := rel_st h 4 2 rfl (by decide)
