/-! STEPS: read; the items, in both -/
theorem xk1278 {ρ : Type} {F : Option ρ} : xck 1752 (1278 : Int32) F = F := xck_in (k := 1278) rfl (by decide) (by decide)
theorem xk1279 {ρ : Type} {F : Option ρ} : xck 1752 (1279 : Int32) F = F := xck_in (k := 1279) rfl (by decide) (by decide)
theorem xk1280 {ρ : Type} {F : Option ρ} : xck 1752 (1280 : Int32) F = F := xck_in (k := 1280) rfl (by decide) (by decide)
theorem xl1278 : (1278 : Int32).toNatClampNeg = 1278 := by decide
theorem xl1279 : (1279 : Int32).toNatClampNeg = 1279 := by decide
theorem xl1280 : (1280 : Int32).toNatClampNeg = 1280 := by decide
theorem le_pred {x n : Nat} (hx : x < 1000) (hn : n < 1000) (h : nI x ≤ nI n - 1) : x < n := by
  have h' : nI x ≤ zI n := h
  rw [← zI_s x, zI_le (by omega) (by omega)] at h'
  omega
section ITM
variable {tx : Nat → Nat} {L : Nat}
theorem RS_up {p n k y n' k' y' : Nat} {m ν m' ν' : xM} (h : RS tx L p n k y m ν) (h1 : m'.1 30 = m.1 30) (h2 : m'.1 36 30 = m.1 36 30) (h3 : m'.1 41 0 = m.1 41 0) (h4 : ν'.1 6 = ν.1 6) (h5 : ν'.1 2 = ν.1 2) (D : RD n' k' y' m' ν') : RS tx L p n' k' y' m' ν' := by
  obtain ⟨hx, hp, K, ha, T, -⟩ := h
  exact ⟨hx, hp, tkS_fr K h1 h2 h3, by rw [h4]; exact ha, ⟨by rw [h4]; exact T.1, fun j hj => by rw [h5]; exact T.2 j hj⟩, D⟩
/-- an item, in both: read, or at fault at one place -/
def itR (tx : Nat → Nat) (L p : Nat) (m ν : xM) (H M : Option (Int32 × xM)) : Prop := ∃ m' ν', scH m m' ∧ scM ν ν' ∧ sE m' ν' ∧ ((∃ p' n' k' y', p < p' ∧ H = some (1, m') ∧ M = some (1, ν') ∧ RS tx L p' n' k' y' m' ν') ∨ (H = some (0, m') ∧ M = some (0, ν')))
theorem itR_from {p p1 : Nat} {m ν m1 ν1 : xM} {H M : Option (Int32 × xM)} (F : scH m m1) (G : scM ν ν1) (hp : p ≤ p1) (h : itR tx L p1 m1 ν1 H M) : itR tx L p m ν H M := by
  obtain ⟨m', ν', f, g, e, z⟩ := h
  refine ⟨m', ν', scH_trans F f, scM_trans G g, e, z.imp (fun ⟨p', n', k', y', z1, z2⟩ => ⟨p', n', k', y', by omega, z2⟩) id⟩
theorem itR_no {p : Nat} {m ν m1 ν1 : xM} (F : scH m m1) (G : scM ν ν1) (e : sE m1 ν1) : itR tx L p m ν (some (0, m1)) (some (0, ν1)) := ⟨m1, ν1, F, G, e, Or.inr ⟨rfl, rfl⟩⟩
theorem stop_fin {p n k y : Nat} {m ν : xM} (h : RS tx L p n k y m ν) : itR tx L p m ν ((fR_takeStop m).bind fun r => some (xnb r.1, r.2)) (fM_readsItem_b119 ν) := by
  obtain ⟨m', ν', f, g, e, z⟩ := stop_both h
  refine ⟨m', ν', cH_sc f, cM_sc g, e, ?_⟩
  unfold fM_readsItem_b119 fM_readsItem_b124
  rw [xi1]
  rcases z with ⟨p', z1, z2, z3, z4⟩ | ⟨z1, z2⟩
  · rw [z2, z3, bnd, bnd]
    refine Or.inl ⟨p', n, k, y, z1, (show some (xnb 1, m') = some (1, m') by rw [xnb_1]), ?_, z4⟩
    show (if (1 : Int32) = 0 then some (xnb 0, ν') else some (xnb 1, ν')) = _
    rw [xi1, xnb_1]
  · rw [z1, z2, bnd, bnd]
    refine Or.inr ⟨(show some (xnb 0, m') = some (0, m') by rw [xnb_0]), ?_⟩
    show (if (0 : Int32) = 0 then some (xnb 0, ν') else some (xnb 1, ν')) = _
    rw [xi0, xnb_0]
theorem b123_eq {ν : xM} : fM_readsItem_b123 ν = some (0, ν) := by
  unfold fM_readsItem_b123 fM_readsItem_b124
  rw [xi0, xnb_0]
/-- behind an item's own: its stop -/
def mC (X : Option (Int32 × xM)) : Option (Int32 × xM) := X.bind fun r => if r.1 = 0 then fM_readsItem_b123 r.2 else fM_readsItem_b119 r.2
theorem mC_1 {ν : xM} : mC (some (1, ν)) = fM_readsItem_b119 ν := by
  unfold mC
  rw [bnd]
  exact if_neg (show ¬ (1 : Int32) = 0 by decide)
theorem mC_0 {ν : xM} : mC (some (0, ν)) = some (0, ν) := by
  unfold mC
  rw [bnd]
  exact (if_pos (show (0 : Int32) = 0 from rfl)).trans b123_eq
theorem bE_set {n k b c : Nat} {v : Int32} {m ν : xM} (h : bE n k 3 1278 m ν) (hb : b < n) (hc : c < 6) (hv : vB n k (fun b' c' => (xset m 21 (b * 6 + c) v).1 21 (b' * 6 + c'))) : bE n k 3 1278 (xset m 21 (b * 6 + c) v) (xset ν 0 (1286 + 6 * c + b) v) := by
  obtain ⟨hβ, hR, hn, hk, u0, w0, hE, hV⟩ := h
  refine ⟨hβ, hR, hn, hk, ?_, ?_, fun b' c' hb' hc' => ?_, hv⟩
  · show (xset m 21 (b * 6 + c) v).1 36 21 = _
    simp (disch := omega) only [xset_ne, xset_nj, xset_eq, Nat.add_zero]
    exact u0
  · simp (disch := omega) only [xset_ne, xset_nj, xset_eq, Nat.add_zero]
    exact w0
  · show (xset m 21 (b * 6 + c) v).1 21 (b' * 6 + c') = _
    by_cases e : b' = b ∧ c' = c
    · obtain ⟨rfl, rfl⟩ := e
      rw [xset_eq, show 1278 + 8 + 6 * c' + b' = 1286 + 6 * c' + b' by omega, xset_eq]
    · have q : m.1 21 (b' * 6 + c') = ν.1 0 (1278 + 8 + 6 * c' + b') := hE b' c' hb' hc'
      simp (disch := omega) only [xset_ne, xset_nj, xset_eq, Nat.add_zero]
      exact q
theorem RD_set {n k y b c : Nat} {v : Int32} {m ν : xM} (h : RD n k y m ν) (hb : b < n) (hc : c < 6) (hv : vB n k (fun b' c' => (xset m 21 (b * 6 + c) v).1 21 (b' * 6 + c'))) : RD n k y (xset m 21 (b * 6 + c) v) (xset ν 0 (1286 + 6 * c + b) v) := by
  obtain ⟨a1, a2, a3, a4, a5, a6, ⟨a7, a8⟩, ⟨b1, b2, b3, b4, b5⟩, c1, c2, c3, c4⟩ := h
  have hn := a1.2.2.1
  exact ⟨bE_set a1 hb hc hv, a2, by simp (disch := omega) only [xset_ne, xset_nj, xset_eq, Nat.add_zero]; exact a3, by simp (disch := omega) only [xset_ne, xset_nj, xset_eq, Nat.add_zero]; exact a4, fun j hj => by simp (disch := omega) only [xset_ne, xset_nj, xset_eq, Nat.add_zero]; exact a5 j hj, fun i hi => by simp (disch := omega) only [xset_ne, xset_nj, xset_eq, Nat.add_zero]; exact a6 i hi, ⟨by simp (disch := omega) only [xset_ne, xset_nj, xset_eq, Nat.add_zero]; exact a7, by simp (disch := omega) only [xset_ne, xset_nj, xset_eq, Nat.add_zero]; exact a8⟩, ⟨by simp (disch := omega) only [xset_ne, xset_nj, xset_eq, Nat.add_zero]; exact b1, by simp (disch := omega) only [xset_ne, xset_nj, xset_eq, Nat.add_zero]; exact b2, by simp (disch := omega) only [xset_ne, xset_nj, xset_eq, Nat.add_zero]; exact b3, by simp (disch := omega) only [xset_ne, xset_nj, xset_eq, Nat.add_zero]; exact b4, by simp (disch := omega) only [xset_ne, xset_nj, xset_eq, Nat.add_zero]; exact b5⟩, by simp (disch := omega) only [xset_ne, xset_nj, xset_eq, Nat.add_zero]; exact c1, by simp (disch := omega) only [xset_ne, xset_nj, xset_eq, Nat.add_zero]; exact c2, by simp (disch := omega) only [xset_ne, xset_nj, xset_eq, Nat.add_zero]; exact c3, by simp (disch := omega) only [xset_ne, xset_nj, xset_eq, Nat.add_zero]; exact c4⟩
theorem worm_both {p n k y : Nat} {m ν : xM} (h : RS tx L p n k y m ν) : itR tx L p m ν (fR_readWorm m) (mC (fM_readsWorm ν)) := by
  have D := h.2.2.2.2.2
  have hn := D.1.2.2.1
  have un : fB_many 3 m = some (nI n) := by
    unfold fB_many
    rw [B_many, bnd, D.1.2.2.2.2.1]
  have wn : ν.1 0 1278 = nI n := D.1.2.2.2.2.2.1
  unfold fR_readWorm fM_readsWorm
  rw [un, bnd, xk1278, xl1278, wn]
  obtain ⟨m1, ν1, f, g, e, z⟩ := num_both (lo := 0) (hi := nI n - 1) h
  rcases z with ⟨x, p', x1, x2, x3, x4, z1, z2, z3, z4⟩ | ⟨z1, z2⟩
  · have hx := le_pred (by omega) (by omega) x3
    have D1 := z4.2.2.2.2.2
    rw [z1, z2, bnd, bnd]
    show itR tx L p m ν (if nI x = -1 then _ else (fB_set 3 (nI x) 4 1 m1).bind _) (mC (if (1 : Int32) = 0 then _ else _))
    rw [if_neg (fun q => nI_m1 (by omega) q.symm), xi1, z3, show (1310 : Int32) + nI x = nI (1310 + x) from nI_add 1310 x, xck_nI (by omega) (by decide), nI_clamp (by omega), xnb_1, mC_1]
    unfold fB_set
    rw [B_put (β := 3) (b := x) (c := 4) (v2 := 4) (by decide) rfl rfl (by decide) (by omega), bnd, bnd, show xtb 3 = 21 from rfl, show 1310 + x = 1286 + 6 * 4 + x by omega]
    have D2 : RD n k y (xset m1 21 (x * 6 + 4) 1) (xset ν1 0 (1286 + 6 * 4 + x) 1) := RD_set D1 hx (by decide) (vB_cell (B0 := x) (c0 := 4) D1.1.2.2.2.2.2.2.2 (fun b' c hb' hc e => by show m1.1 21 _ = _; simp (disch := omega) only [xset_ne, xset_nj, xset_eq, Nat.add_zero]) (by decide) (fun _ => ⟨fun z => absurd z (by decide), fun z => absurd z (by decide), fun z => absurd z (by decide), fun z => absurd z (by decide), fun _ => Or.inr xset_eq⟩))
    exact itR_from (scH_trans (cH_sc f) (scH_set (by unfold sH; omega) scH_refl)) (scM_trans (cM_sc g) (scM_set (by unfold sM; omega) scM_refl)) (by omega) (stop_fin (RS_up z4 (by funext x; simp (disch := omega) only [xset_ne, xset_nj, xset_eq, Nat.add_zero]) (by simp (disch := omega) only [xset_ne, xset_nj, xset_eq, Nat.add_zero]) (by simp (disch := omega) only [xset_ne, xset_nj, xset_eq, Nat.add_zero]) (by funext x; simp (disch := omega) only [xset_ne, xset_nj, xset_eq, Nat.add_zero]) (by funext x; simp (disch := omega) only [xset_ne, xset_nj, xset_eq, Nat.add_zero]) D2))
  · rw [z1, z2, bnd, bnd]
    show itR tx L p m ν (if (-1 : Int32) = -1 then _ else _) (mC (if (0 : Int32) = 0 then _ else _))
    rw [if_pos rfl, xi0, xnb_0, mC_0]
    exact itR_no (cH_sc f) (cM_sc g) e
theorem yrs_skip {X : Nat} (hX : X < 1000) : ∀ (f c : Nat) (ν : xM), c ≤ X → X < c + f → ν.1 6 3 = nI X → ν.1 0 1280 = 999 → fM_readsYears_l14 f (nI c) ν = some (1, ν)
  | 0, c, ν, h1, h2, h3, h4 => absurd h2 (by omega)
  | f + 1, c, ν, h1, h2, h3, h4 => by
    unfold fM_readsYears_l14
    rw [h3]
    by_cases hc : c = X
    · subst hc
      rw [if_pos (nI_le (Nat.le_refl _) (by omega)), xnb_1]
    · rw [if_neg (nI_ge (by omega) (by omega)), xk1280, xl1280, h4, if_pos (by decide)]
      unfold fM_readsYears_b43
      rw [nI_1]
      exact yrs_skip hX f (c + 1) ν (by omega) (by omega) h3 h4
theorem yrs_l {n k X : Nat} (hX : X < 1000) : ∀ (f c y : Nat) (m ν : xM), c ≤ X → X < c + f → ν.1 6 3 = nI X → RD n k y m ν → ∃ m' ν' y', fW_passYears_l2 3 f (nI X) (nI c) m = some m' ∧ fM_readsYears_l14 f (nI c) ν = some (1, ν') ∧ RD n k y' m' ν' ∧ (∀ j i, j ≠ 21 → (j ≠ 37 ∨ i ≠ 3) → m'.1 j i = m.1 j i) ∧ m'.2 = m.2 ∧ (∀ j i, (j ≠ 0 ∨ i < 1278) → ν'.1 j i = ν.1 j i) ∧ ν'.2 = ν.2
  | 0, c, y, m, ν, h1, h2, h3, D => absurd h2 (by omega)
  | f + 1, c, y, m, ν, h1, h2, h3, D => by
    obtain ⟨a1, a2, a3, a4, a5, a6, ⟨a7, a8⟩, ⟨b1, b2, b3, b4, b5⟩, c1, c2, c3, c4⟩ := id D
    unfold fW_passYears_l2
    by_cases hc : c = X
    · subst hc
      unfold fM_readsYears_l14
      rw [h3, if_pos (nI_le (Nat.le_refl _) (by omega)), if_pos (nI_le (Nat.le_refl _) (by omega)), xnb_1]
      exact ⟨m, ν, y, rfl, rfl, D, fun _ _ _ _ => rfl, rfl, fun _ _ _ => rfl, rfl⟩
    · rw [if_neg (nI_ge (by omega) (by omega)), a3]
      by_cases hy : y < 999
      · obtain ⟨m1, ν1, p1, p2, p3, p4, p5, p6, p7, p8, p9⟩ := pass_both (t1 := 23) a1 (by omega) a3 a4 (Or.inr rfl) (fun j hj => by rw [show 1278 + 3 + j = 1281 + j by omega]; exact a5 j hj)
        have xt : xtb 3 = 21 := rfl
        rw [xt] at p6
        have p1' : fB_passYear 3 (7 * 3 + 2) m = some m1 := p1
        have p2' : fM_passes 1278 ν = some ν1 := p2
        have q6 : ∀ j i, j ≠ 21 → (j ≠ 37 ∨ i ≠ 3) → m1.1 j i = m.1 j i := p6
        have q8 : ∀ i, i ≠ 1280 → (i < 1292 ∨ 1316 ≤ i) → ν1.1 0 i = ν.1 0 i := fun i z1 z2 => p8 0 i (by omega)
        have hk := a1.2.2.2.1
        have D1 : RD n k (y + 1) m1 ν1 := by
          refine ⟨p3, by omega, p4, p5, fun j hj => ?_, fun i hi => ?_, ⟨?_, ?_⟩, ⟨?_, ?_, ?_, ?_, ?_⟩, ?_, ?_, ?_, ?_⟩
          · rw [q6 23 j (by decide) (by omega), q8 _ (by omega) (by omega)]; exact a5 j hj
          · rw [q6 24 i (by decide) (by omega), q8 _ (by omega) (by omega)]; exact a6 i hi
          · rw [q6 _ _ (by decide) (by decide)]; exact a7
          · rw [q8 _ (by decide) (by decide)]; exact a8
          · rw [q6 _ _ (by decide) (by decide)]; exact b1
          · rw [q6 _ _ (by decide) (by decide)]; exact b2
          · rw [q6 _ _ (by decide) (by decide)]; exact b3
          · rw [q6 _ _ (by decide) (by decide)]; exact b4
          · rw [q6 _ _ (by decide) (by decide)]; exact b5
          · rw [q8 _ (by decide) (by decide)]; exact c1
          · rw [q8 _ (by decide) (by decide)]; exact c2
          · rw [q8 _ (by decide) (by decide)]; exact c3
          · rw [q8 _ (by decide) (by decide)]; exact c4
        obtain ⟨m2, ν2, y', r1, r2, r3, r4, r5, r6, r7⟩ := yrs_l hX f (c + 1) (y + 1) m1 ν1 (by omega) (by omega) (by rw [p8 6 3 (by decide)]; exact h3) D1
        have c9 : ¬ (999 : Int32) ≤ nI y := nI_ge (b := 999) (by omega) (by decide)
        refine ⟨m2, ν2, y', ?_, ?_, r3, fun j i z1 z2 => (r4 j i z1 z2).trans (q6 j i z1 z2), r5.trans p7, fun j i z => (r6 j i z).trans (p8 j i (by omega)), r7.trans p9⟩
        · rw [if_neg c9, p1', bnd, nI_1]
          exact r1
        · unfold fM_readsYears_l14
          rw [h3, if_neg (nI_ge (by omega) (by omega)), xk1280, xl1280, a4, if_neg c9, p2', bnd]
          unfold fM_readsYears_b43
          rw [nI_1]
          exact r2
      · have y9 : y = 999 := by omega
        subst y9
        rw [if_pos (by decide)]
        exact ⟨m, ν, 999, rfl, yrs_skip hX (f + 1) c ν h1 (by omega) h3 a4, D, fun _ _ _ _ => rfl, rfl, fun _ _ _ => rfl, rfl⟩
theorem years_both {p n k y : Nat} {m ν : xM} (h : RS tx L p n k y m ν) : itR tx L p m ν (fR_readYears m) (mC (fM_readsYears ν)) := by
  unfold fR_readYears fM_readsYears
  obtain ⟨m1, ν1, f, g, e, z⟩ := num_both (lo := 1) (hi := 99) h
  rcases z with ⟨x, p', x1, x2, x3, x4, z1, z2, z3, z4⟩ | ⟨z1, z2⟩
  · obtain ⟨m2, ν2, y', r1, r2, r3, r4, r5, r6, r7⟩ := yrs_l (X := x) (by omega) xfu 0 y m1 ν1 (by omega) (by show x < 0 + 100000; omega) z3 z4.2.2.2.2.2
    have r1' : fW_passYears 3 (nI x) m1 = some m2 := r1
    have r2' : fM_readsYears_l14 xfu 0 ν1 = some (1, ν2) := r2
    rw [z1, z2, bnd, bnd]
    show itR tx L p m ν (if nI x = -1 then _ else (fW_passYears 3 (nI x) m1).bind _) (mC (if (1 : Int32) = 0 then _ else _))
    rw [if_neg (fun q => nI_m1 (by omega) q.symm), xi1, r1', r2', bnd, mC_1]
    have F : scH m1 m2 := ⟨fun j i z => by unfold sH at z; exact r4 j i (by omega) (by omega), by rw [r5], by rw [r5]⟩
    have G : scM ν1 ν2 := ⟨fun j i z => by unfold sM at z; exact r6 j i (by omega), by rw [r7], by rw [r7]⟩
    exact itR_from (scH_trans (cH_sc f) F) (scM_trans (cM_sc g) G) (by omega) (stop_fin (RS_up z4 (by funext x; exact r4 30 x (by decide) (by omega)) (r4 36 30 (by decide) (by decide)) (r4 41 0 (by decide) (by decide)) (by funext x; exact r6 6 x (by omega)) (by funext x; exact r6 2 x (by omega)) r3))
  · rw [z1, z2, bnd, bnd]
    show itR tx L p m ν (if (-1 : Int32) = -1 then _ else _) (mC (if (0 : Int32) = 0 then _ else _))
    rw [if_pos rfl, xi0, xnb_0, mC_0]
    exact itR_no (cH_sc f) (cM_sc g) e
end ITM
