/-! BASE: what plays is the same where its boards are; STEPS: dry -/
theorem snd_congr {β1 β2 b : Nat} {m1 m2 : xM} {s : Int32} (hβ1 : β1 < 5) (hβ2 : β2 < 5) (hb : b < 6) (hc : ∀ c, c < 5 → m1.1 (xtb β1) (b * 6 + c) = m2.1 (xtb β2) (b * 6 + c)) : fB_soundOf β1 m1 (nI b) s = fB_soundOf β2 m2 (nI b) s := by
  unfold fB_soundOf
  rw [B_get (b := b) (c := 0) (v2 := 0) hβ1 rfl rfl (by decide) hb, B_get (b := b) (c := 1) (v2 := 1) hβ1 rfl rfl (by decide) hb, B_get (b := b) (c := 2) (v2 := 2) hβ1 rfl rfl (by decide) hb, B_get (b := b) (c := 4) (v2 := 4) hβ1 rfl rfl (by decide) hb, B_get (b := b) (c := 0) (v2 := 0) hβ2 rfl rfl (by decide) hb, B_get (b := b) (c := 1) (v2 := 1) hβ2 rfl rfl (by decide) hb, B_get (b := b) (c := 2) (v2 := 2) hβ2 rfl rfl (by decide) hb, B_get (b := b) (c := 4) (v2 := 4) hβ2 rfl rfl (by decide) hb, hc 0 (by decide), hc 1 (by decide), hc 2 (by decide), hc 4 (by decide)]
theorem po_norm {β b : Nat} {m : xM} {v M : Int32} (hβ : β < 5) (hb : b < 6) {ρ : Type} {X Y : Option ρ} : ((fB_cell β m (nI b) 5).bind fun r => if r = v then X else (fH_holdsBit M (nI b)).bind fun r => if r = 0 then Y else X) = if (m.1 (xtb β) (b * 6 + 5) = v ∨ hoB M b = true) then X else Y := by
  unfold fB_cell
  rw [B_get (b := b) (c := 5) (v2 := 5) hβ rfl rfl (by decide) hb, bnd, bnd, holds_eq]
  by_cases c : m.1 (xtb β) (b * 6 + 5) = v
  · rw [if_pos c, if_pos (Or.inl c)]
  · rw [if_neg c]
    by_cases d : hoB M b = true
    · rw [if_pos d, if_pos (Or.inr d)]
    · rw [if_neg d, if_neg (fun z => z.elim c d)]
theorem po_congr {β1 β2 n : Nat} {m1 m2 : xM} {v M1 M2 s : Int32} (hβ1 : β1 < 5) (hβ2 : β2 < 5) (hn : n ≤ 6) (u1 : m1.1 36 (xtb β1) = nI n) (u2 : m2.1 36 (xtb β2) = nI n) (hg : fT_get 3 m1 v 0 = fT_get 3 m2 v 0) (hm : ∀ b, b < n → ((m1.1 (xtb β1) (b * 6 + 5) = v ∨ hoB M1 b = true) ↔ (m2.1 (xtb β2) (b * 6 + 5) = v ∨ hoB M2 b = true))) (hc : ∀ b, b < n → (m1.1 (xtb β1) (b * 6 + 5) = v ∨ hoB M1 b = true) → ∀ c, c < 5 → m1.1 (xtb β1) (b * 6 + c) = m2.1 (xtb β2) (b * 6 + c)) : ∀ (f b : Nat) (x h c : Int32), b ≤ n → n < b + f → fW_playOn_l12 0 β1 m1 f v s M1 x h c (nI b) = fW_playOn_l12 0 β2 m2 f v s M2 x h c (nI b)
  | 0, b, x, h, c, h1, h2 => absurd h2 (by omega)
  | f + 1, b, x, h, c, h1, h2 => by
    have g1 : fB_many β1 m1 = some (nI n) := by
      unfold fB_many
      rw [B_many, bnd, u1]
    have g2 : fB_many β2 m2 = some (nI n) := by
      unfold fB_many
      rw [B_many, bnd, u2]
    unfold fW_playOn_l12
    rw [g1, g2, bnd, bnd]
    by_cases hb : b = n
    · subst hb
      rw [if_pos (nI_le (Nat.le_refl _) (by omega)), if_pos (nI_le (Nat.le_refl _) (by omega)), show 7 * 0 + 3 = 3 from rfl, hg]
    · have hb' : b < n := by omega
      rw [if_neg (nI_ge hb' (by omega)), if_neg (nI_ge hb' (by omega)), po_norm hβ1 (by omega), po_norm hβ2 (by omega)]
      have ih := fun x h c => po_congr (s := s) hβ1 hβ2 hn u1 u2 hg hm hc f (b + 1) x h c (by omega) (by omega)
      unfold fW_playOn_b42 fW_playOn_b71
      rw [nI_1]
      by_cases d : m1.1 (xtb β1) (b * 6 + 5) = v ∨ hoB M1 b = true
      · rw [if_pos d, if_pos ((hm b hb').mp d), snd_congr hβ1 hβ2 (by omega) (hc b hb' d)]
        unfold fB_cell
        rw [B_get (b := b) (c := 3) (v2 := 3) hβ1 rfl rfl (by decide) (by omega), B_get (b := b) (c := 3) (v2 := 3) hβ2 rfl rfl (by decide) (by omega), hc b hb' d 3 (by decide)]
        congr 1
        funext r
        exact ih _ _ _
      · rw [if_neg d, if_neg (fun z => d ((hm b hb').mpr z))]
        exact ih _ _ _
/-- the class's memory, its boards tried as the reference's -/
def mir (m ν : xM) : xM := (fun j x => if j = 28 then ν.1 0 (1712 + 6 * (x % 6) + x / 6) else if j = 36 ∧ x = 28 then ν.1 0 1704 else m.1 j x, m.2)
theorem mir_at {m ν : xM} {j x : Nat} : (mir m ν).1 j x = if j = 28 then ν.1 0 (1712 + 6 * (x % 6) + x / 6) else if j = 36 ∧ x = 28 then ν.1 0 1704 else m.1 j x := rfl
theorem mir_c {m ν : xM} {b c : Nat} (hc : c < 6) : (mir m ν).1 28 (b * 6 + c) = ν.1 0 (1712 + 6 * c + b) := by
  rw [mir_at, if_pos rfl, show (b * 6 + c) % 6 = c by omega, show (b * 6 + c) / 6 = b by omega]
theorem mir_o {m ν : xM} {j x : Nat} (h1 : j ≠ 28) (h2 : j ≠ 36) : (mir m ν).1 j x = m.1 j x := by
  rw [mir_at, if_neg h1, if_neg (fun z => h2 z.1)]
theorem mir_bE {n k : Nat} {m ν : xM} (hn : n ≤ 6) (hk : k ≤ 4) (w0 : ν.1 0 1704 = nI n) (hV : vB n k (fun b c => ν.1 0 (1712 + 6 * c + b))) : bE n k 4 1704 (mir m ν) ν := by
  refine ⟨by decide, by decide, hn, hk, ?_, w0, fun b c hb hc => ?_, vB_congr (fun b c hb hc => (mir_c hc).symm) hV⟩
  · show (mir m ν).1 36 28 = nI n
    rw [mir_at, if_neg (by decide), if_pos ⟨rfl, rfl⟩]
    exact w0
  · exact mir_c hc
/-- boards β with a mask play as those tried -/
theorem mir_play {n k β i s : Nat} {M : Int32} {m ν : xM} (hβ : β < 5) (hn : n ≤ 6) (hk : k ≤ 4) (hi : i < k) (hs : s < 4) (u0 : m.1 36 (xtb β) = nI n) (w0 : ν.1 0 1704 = nI n) (hI : ∀ i, i < k → m.1 3 i = ν.1 0 (1748 + i)) (hV : vB n k (fun b c => ν.1 0 (1712 + 6 * c + b))) (hm : ∀ b, b < n → ((m.1 (xtb β) (b * 6 + 5) = nI i ∨ hoB M b = true) ↔ ν.1 0 (1742 + b) = nI i)) (hc : ∀ b, b < n → ν.1 0 (1742 + b) = nI i → ∀ c, c < 5 → m.1 (xtb β) (b * 6 + c) = ν.1 0 (1712 + 6 * c + b)) : ∃ p, p ≤ 1000 ∧ fW_playOn 0 β m (nI i) (nI s) M = some (nI p) ∧ fM_playsIn ν 1704 (nI i) (nI s) = some (nI p) := by
  have hE := mir_bE (m := m) hn hk w0 hV
  obtain ⟨p, hp, e1, e2⟩ := play_both hE hi hs (by rw [mir_o (by decide) (by decide), show 1704 + 44 + i = 1748 + i by omega]; exact hI i hi)
  refine ⟨p, hp, ?_, e2⟩
  rw [← e1]
  have in5 : ∀ b, (mir m ν).1 (xtb 4) (b * 6 + 5) = ν.1 0 (1742 + b) := fun b => by
    show (mir m ν).1 28 (b * 6 + 5) = _
    rw [mir_c (by decide), show 1712 + 6 * 5 + b = 1742 + b by omega]
  refine po_congr (β1 := β) (β2 := 4) (n := n) hβ (by decide) hn u0 hE.2.2.2.2.1 ?_ (fun b hb => ?_) (fun b hb z c hc' => ?_) xfu 0 0 0 0 (by omega) (by show n < 0 + 100000; omega)
  · rw [T_get (t := 3) (r := i) (c := 0) (v2 := 0) (by decide) rfl rfl (by decide) (by show i < 4; omega), T_get (t := 3) (r := i) (c := 0) (v2 := 0) (by decide) rfl rfl (by decide) (by show i < 4; omega), mir_o (by decide) (by decide)]
  · rw [hm b hb, in5, hoB_0 b (by omega)]
    exact ⟨Or.inl, fun z => z.elim id (fun y => absurd y (by decide))⟩
  · show _ = (mir m ν).1 28 (b * 6 + c)
    rw [mir_c (by omega)]
    exact hc b hb ((hm b hb).mp z) c hc'
theorem rT_sc {n k y hh a q u : Nat} {μ ν μ' ν' : xM} (F : scH μ μ') (G : scM ν ν') (H : rT n k y hh a q u μ.1 (μ.1 36) (μ.1 37 0) (ν.1 0)) : rT n k y hh a q u μ'.1 (μ'.1 36) (μ'.1 37 0) (ν'.1 0) :=
  rT_congr (fun j i hj _ => (F.1 _ _ (by unfold sH; omega)).symm) (fun j hj => (F.1 _ _ (by unfold sH; omega)).symm) (F.1 _ _ (by unfold sH; omega)).symm (fun i hi => (G.1 _ _ (by unfold sM; omega)).symm) H
theorem less_N : ∀ x, x < 10 → ∀ d, d < 10 → fM_less (nI x) (nI d) = some (nI (x - d)) ∧ xmax (nI x - nI d) 0 = nI (x - d) := by decide +kernel
theorem H_dried {n d : Nat} {v1 v2 : Int32} (hn : n ≤ 6) : ∀ (f b : Nat) (m : xM), b ≤ n → n < b + f → m.1 36 28 = nI n → ∃ m', fH_playDried_l17 f v1 v2 (nI d) (nI b) m = ((fW_playOn 0 4 m' v1 v2 0).bind fun r => some (r, m')) ∧ (∀ b' c, b' < n → c < 6 → m'.1 28 (b' * 6 + c) = if c = 2 ∧ b ≤ b' then xmax (m.1 28 (b' * 6 + c) - nI d) 0 else m.1 28 (b' * 6 + c)) ∧ m'.1 36 28 = nI n ∧ scH m m'
  | 0, b, m, h1, h2, u0 => absurd h2 (by omega)
  | f + 1, b, m, h1, h2, u0 => by
    have g1 : fB_many 4 m = some (nI n) := by
      unfold fB_many
      rw [B_many, bnd]
      show some (m.1 36 28) = _
      rw [u0]
    unfold fH_playDried_l17
    rw [g1, bnd]
    by_cases hb : b = n
    · subst hb
      rw [if_pos (nI_le (Nat.le_refl _) (by omega))]
      exact ⟨m, rfl, fun b' c hb' hc => by rw [if_neg (by omega)], u0, scH_refl⟩
    · have hb' : b < n := by omega
      rw [if_neg (nI_ge hb' (by omega))]
      unfold fB_lessDamp
      rw [B_get (β := 4) (b := b) (c := 2) (v2 := 2) (by decide) rfl rfl (by decide) (by omega), bnd, B_put (β := 4) (b := b) (c := 2) (v2 := 2) (by decide) rfl rfl (by decide) (by omega), bnd, bnd, nI_1, show xtb 4 = 28 from rfl]
      have F : scH m (xset m 28 (b * 6 + 2) (xmax (m.1 28 (b * 6 + 2) - nI d) 0)) := scH_set (by unfold sH; omega) scH_refl
      obtain ⟨m', g1, g2, g3, g4⟩ := H_dried (d := d) (v1 := v1) (v2 := v2) hn f (b + 1) (xset m 28 (b * 6 + 2) (xmax (m.1 28 (b * 6 + 2) - nI d) 0)) (by omega) (by omega) (by simp (disch := omega) only [xset_ne, xset_nj, xset_eq, Nat.add_zero]; exact u0)
      refine ⟨m', g1, fun b' c q1 q2 => ?_, g3, scH_trans F g4⟩
      rw [g2 b' c q1 q2]
      by_cases e : b' = b ∧ c = 2
      · obtain ⟨rfl, rfl⟩ := e
        rw [if_neg (by omega), if_pos ⟨rfl, Nat.le_refl _⟩]
        simp (disch := omega) only [xset_ne, xset_nj, xset_eq, Nat.add_zero]
      · rw [xset_nj (by omega)]
        by_cases z : c = 2 ∧ b + 1 ≤ b'
        · rw [if_pos z, if_pos (by omega)]
        · rw [if_neg z, if_neg (by omega)]
theorem M_dried {n d : Nat} {v1 v2 v3 : Int32} (hn : n ≤ 6) (k37 : Int32 → Int32 → Int32 → Int32 → xM → Option (Int32 × xM)) (hd : d < 10) : ∀ (f b : Nat) (ν : xM), b ≤ n → n < b + f → ν.1 0 0 = nI n → (∀ b', b' < n → ∃ x, x < 10 ∧ ν.1 0 (20 + b') = nI x) → ∃ ν', fM_dry_l51 k37 f v1 v2 v3 (nI d) (nI b) ν = ((fM_playsIn ν' 1704 v1 v2).bind fun r => if r < v3 then k37 v1 v2 v3 (nI (d + 1)) ν' else some (nI d, ν')) ∧ (∀ b', b ≤ b' → b' < n → ν'.1 0 (1724 + b') = if ν.1 0 (38 + b') = v1 then xmax (ν.1 0 (20 + b') - nI d) 0 else ν.1 0 (20 + b')) ∧ (∀ j i, (j ≠ 0 ∨ ¬ (1724 + b ≤ i ∧ i < 1724 + n)) → ν'.1 j i = ν.1 j i) ∧ ν'.2 = ν.2
  | 0, b, ν, h1, h2, w0, hx => absurd h2 (by omega)
  | f + 1, b, ν, h1, h2, w0, hx => by
    unfold fM_dry_l51
    rw [xk0, xl0, w0]
    by_cases hb : b = n
    · subst hb
      rw [if_pos (nI_le (Nat.le_refl _) (by omega)), nI_1]
      exact ⟨ν, rfl, fun b' q1 q2 => absurd q2 (by omega), fun _ _ _ => rfl, rfl⟩
    · have hb' : b < n := by omega
      obtain ⟨x, hx1, hx2⟩ := hx b hb'
      rw [if_neg (nI_ge hb' (by omega)), show (38 : Int32) + nI b = nI (38 + b) from nI_add 38 b, show (20 : Int32) + nI b = nI (20 + b) from nI_add 20 b, show (1724 : Int32) + nI b = nI (1724 + b) from nI_add 1724 b, xck_nI (by omega) (by decide), xck_nI (by omega) (by decide), xck_nI (by omega) (by decide), nI_clamp (by omega), nI_clamp (by omega), hx2, (less_N x hx1 d hd).1, bnd]
      unfold fM_dry_b114
      rw [xck_nI (by omega) (by decide), xck_nI (by omega) (by decide), nI_clamp (by omega), nI_1]
      have step : ∀ D : Int32, D = (if ν.1 0 (38 + b) = v1 then xmax (ν.1 0 (20 + b) - nI d) 0 else ν.1 0 (20 + b)) → ∃ ν', fM_dry_l51 k37 f v1 v2 v3 (nI d) (nI (b + 1)) (xset ν 0 (1724 + b) D) = ((fM_playsIn ν' 1704 v1 v2).bind fun r => if r < v3 then k37 v1 v2 v3 (nI (d + 1)) ν' else some (nI d, ν')) ∧ (∀ b', b ≤ b' → b' < n → ν'.1 0 (1724 + b') = if ν.1 0 (38 + b') = v1 then xmax (ν.1 0 (20 + b') - nI d) 0 else ν.1 0 (20 + b')) ∧ (∀ j i, (j ≠ 0 ∨ ¬ (1724 + b ≤ i ∧ i < 1724 + n)) → ν'.1 j i = ν.1 j i) ∧ ν'.2 = ν.2 := by
        intro D hD
        obtain ⟨ν', g1, g2, g3, g4⟩ := M_dried (v1 := v1) (v2 := v2) (v3 := v3) hn k37 hd f (b + 1) (xset ν 0 (1724 + b) D) (by omega) (by omega) (by simp (disch := omega) only [xset_ne, xset_nj, xset_eq, Nat.add_zero]; exact w0) (fun b' hb' => by simp (disch := omega) only [xset_ne, xset_nj, xset_eq, Nat.add_zero]; exact hx b' hb')
        refine ⟨ν', g1, fun b' q1 q2 => ?_, fun j i q => ?_, g4⟩
        · by_cases e : b' = b
          · subst e
            rw [g3 0 _ (by omega), xset_eq]
            exact hD
          · rw [g2 b' (by omega) q2]
            simp (disch := omega) only [xset_ne, xset_nj, xset_eq, Nat.add_zero]
        · rw [g3 j i (by omega)]
          by_cases q0 : j = 0
          · subst q0
            simp (disch := omega) only [xset_ne, xset_nj, xset_eq, Nat.add_zero]
          · simp (disch := omega) only [xset_ne, xset_nj, xset_eq, Nat.add_zero]
      by_cases c : ν.1 0 (38 + b) = v1
      · rw [if_pos c]
        exact step _ (by rw [if_pos c, hx2, (less_N x hx1 d hd).2])
      · rw [if_neg c]
        exact step _ (by rw [if_neg c, hx2])
theorem dry_l {n k y hh a q u i s : Nat} {x : Int32} (hi : i < k) (hs : s < 4) : ∀ (f d : Nat) (μ ν : xM), d ≤ 10 → 10 < d + f → rT n k y hh a q u μ.1 (μ.1 36) (μ.1 37 0) (ν.1 0) → ∃ r m' ν', fH_dry_l37 f (nI i) (nI s) x (nI d) μ = some (r, m') ∧ fM_dry_l37 f (nI i) (nI s) x (nI d) ν = some (r, ν') ∧ scH μ m' ∧ scM ν ν'
  | 0, d, μ, ν, h1, h2, H => absurd h2 (by omega)
  | f + 1, d, μ, ν, h1, h2, H => by
    obtain ⟨B, U, W, hC, hW, hI, hH, hN, hM, hP⟩ := id H
    obtain ⟨b1, b2, b3, b4, b5, b6, b7⟩ := id B
    obtain ⟨u0, u1, u2, u3, u4, u5, u6, uy⟩ := U
    obtain ⟨w0, w1, w2, w3, w4, w5, w6⟩ := W
    unfold fH_dry_l37 fM_dry_l37
    by_cases hd : d = 10
    · subst hd
      rw [if_pos (by decide), if_pos (by decide)]
      exact ⟨_, _, _, rfl, rfl, scH_refl, scM_refl⟩
    · have c1 : ¬ (9 : Int32) < nI d := nI_nlt (b := d) (a := 9) (by omega) (by decide)
      have c2 : ¬ (10 : Int32) ≤ nI d := nI_ge (b := 10) (by omega) (by decide)
      obtain ⟨m1, ν1, p1, p2, p3, p4, p5, p6, p7, p8⟩ := try_both H
      obtain ⟨hE, y1, y2, hW', hI', k1, k2⟩ := p3
      obtain ⟨m2, g1, g2, g3, g4⟩ := H_dried (d := d) (v1 := nI i) (v2 := nI s) b1 xfu 0 m1 (by omega) (by show n < 0 + 100000; omega) hE.2.2.2.2.1
      have l17 : fH_playDried (nI i) (nI s) (nI d) μ = ((fW_playOn 0 4 m2 (nI i) (nI s) 0).bind fun r => some (r, m2)) := by
        unfold fH_playDried
        rw [p1, bnd]
        exact g1
      have cell : ∀ b c, b < n → c < 6 → ν1.1 0 (8 + 6 * c + b) = μ.1 0 (b * 6 + c) := fun b c hb hc => by rw [p7 _ (by omega)]; exact (hC.1 b c hb hc).symm
      have damp : ∀ b', b' < n → ∃ x, x < 10 ∧ ν1.1 0 (20 + b') = nI x := fun b hb => by
        obtain ⟨-, -, ⟨dd, hdd, ed⟩, -⟩ := hC.2.1 b hb
        exact ⟨dd, by omega, by rw [show 20 + b = 8 + 6 * 2 + b by omega, cell b 2 hb (by decide)]; exact ed⟩
      obtain ⟨ν2, q1, q2, q3, q4⟩ := M_dried (v1 := nI i) (v2 := nI s) (v3 := x) (d := d) b1 (fM_dry_l37 f) (by omega) xfu 0 ν1 (by omega) (by show n < 0 + 100000; omega) (by rw [p7 0 (by decide)]; exact w0) damp
      have q1' : fM_dry_l51 (fM_dry_l37 f) xfu (nI i) (nI s) x (nI d) 0 ν1 = _ := q1
      have G2 : scM ν1 ν2 := ⟨fun j i z => by unfold sM at z; exact q3 j i (by omega), by rw [q4], by rw [q4]⟩
      -- the boards tried in the reference
      have t0 : ∀ b c, b < n → c < 6 → c ≠ 2 → ν2.1 0 (1712 + 6 * c + b) = μ.1 0 (b * 6 + c) := fun b c hb hc h2 => by
        rw [q3 0 _ (by omega), show 1712 + 6 * c + b = 1704 + (8 + 6 * c + b) by omega, p8 _ (by omega)]
        exact (hC.1 b c hb hc).symm
      have in5 : ∀ b, b < n → ν1.1 0 (38 + b) = μ.1 0 (b * 6 + 5) := fun b hb => by
        rw [show 38 + b = 8 + 6 * 5 + b by omega]
        exact cell b 5 hb (by decide)
      have t2 : ∀ b, b < n → ν2.1 0 (1712 + 6 * 2 + b) = if μ.1 0 (b * 6 + 5) = nI i then xmax (μ.1 0 (b * 6 + 2) - nI d) 0 else μ.1 0 (b * 6 + 2) := fun b hb => by
        rw [show 1712 + 6 * 2 + b = 1724 + b by omega, q2 b (by omega) hb, in5 b hb, show 20 + b = 8 + 6 * 2 + b by omega, cell b 2 hb (by decide)]
      have vt : vB n k (fun b c => ν2.1 0 (1712 + 6 * c + b)) := by
        refine ⟨fun b hb => ?_, fun i' hi' => ?_⟩
        · obtain ⟨v0, v1, ⟨dd, hdd, ed⟩, v3, v4, v5⟩ := hC.2.1 b hb
          refine ⟨v0.imp (fun x hx => ⟨hx.1, (t0 b 0 hb (by decide) (by decide)).trans hx.2⟩), v1.imp (fun x hx => ⟨hx.1, (t0 b 1 hb (by decide) (by decide)).trans hx.2⟩), ?_, v3.imp (fun x hx => ⟨hx.1, (t0 b 3 hb (by decide) (by decide)).trans hx.2⟩), ?_, ?_⟩
          · have ed : μ.1 0 (b * 6 + 2) = nI dd := ed
            have e2 := t2 b hb
            rw [ed] at e2
            by_cases z : μ.1 0 (b * 6 + 5) = nI i
            · rw [if_pos z, (less_N dd (by omega) d (by omega)).2] at e2
              exact ⟨dd - d, by omega, e2⟩
            · rw [if_neg z] at e2
              exact ⟨dd, hdd, e2⟩
          · exact v4.imp (fun z => (t0 b 4 hb (by decide) (by decide)).trans z) (fun z => (t0 b 4 hb (by decide) (by decide)).trans z)
          · exact v5.imp (fun z => (t0 b 5 hb (by decide) (by decide)).trans z) (fun ⟨i, i1, i2⟩ => ⟨i, i1, (t0 b 5 hb (by decide) (by decide)).trans i2⟩)
        · have e := hC.2.2 i' hi'
          rw [cntB_congr (g := fun b => μ.1 0 (b * 6 + 5) == nI i') (fun b hb => by show (ν2.1 0 (1712 + 6 * 5 + b) == nI i') = _; rw [t0 b 5 hb (by decide) (by decide)])]
          exact e
      have m25 : ∀ b, b < n → m2.1 28 (b * 6 + 5) = μ.1 0 (b * 6 + 5) := fun b hb => by
        rw [g2 b 5 hb (by decide), if_neg (by omega), p6 b 5 hb (by decide)]
      obtain ⟨p, hp, e1, e2⟩ := mir_play (β := 4) (M := 0) (m := m2) (ν := ν2) (by decide) b1 b2 hi hs g3 (by rw [q3 0 _ (by omega)]; exact hE.2.2.2.2.2.1) (fun i hi => by rw [g4.1 3 i (by unfold sH; omega), hI' i hi, q3 0 _ (by omega)]) vt (fun b hb => by
        show (m2.1 28 (b * 6 + 5) = nI i ∨ _) ↔ _
        rw [m25 b hb, hoB_0 b (by omega), show 1742 + b = 1712 + 6 * 5 + b by omega, t0 b 5 hb (by decide) (by decide)]
        exact ⟨fun z => z.elim id (fun y => absurd y (by decide)), Or.inl⟩) (fun b hb z c hc => by
        show m2.1 28 (b * 6 + c) = _
        rw [show 1742 + b = 1712 + 6 * 5 + b by omega, t0 b 5 hb (by decide) (by decide)] at z
        rw [g2 b c hb (by omega), p6 b c hb (by omega)]
        by_cases c2 : c = 2
        · subst c2
          rw [if_pos (by omega), t2 b hb, if_pos z]
        · rw [if_neg (by omega), t0 b c hb (by omega) c2])
      rw [if_neg c1, if_neg c2, l17, p2, bnd, q1', e1, e2, bnd, bnd, bnd, nI_1]
      have F2 := scH_trans p4 g4
      have G3 := scM_trans p5 G2
      by_cases z : nI p < x
      · rw [if_pos z, if_pos z]
        obtain ⟨r, m3, ν3, r1, r2, r3, r4⟩ := dry_l (x := x) hi hs f (d + 1) m2 ν2 (by omega) (by omega) (rT_sc F2 G3 H)
        exact ⟨r, m3, ν3, r1, r2, scH_trans F2 r3, scM_trans G3 r4⟩
      · rw [if_neg z, if_neg z]
        exact ⟨_, _, _, rfl, rfl, F2, G3⟩
theorem st_dry {μ ν : xM} (h : xRel μ ν) (v1 : Int32) (v2 : Int32) (v3 : Int32) : ∃ (r : Int32) (μ2 ν2 : xM), (fH_dry v1 v2 v3 μ = some (r, μ2)) ∧ (fM_dry v1 v2 v3 ν = some (r, ν2)) ∧ xRel μ2 ν2 := by
  unfold fH_dry fM_dry
  obtain ⟨n, k, y, hh, a, q, u, H⟩ := rel_op h
  obtain ⟨B, U, W, -⟩ := id H
  rcases xin (Nat.le_trans B.2.1 (by decide)) U.2.2.2.1 W.2.1 v1 with ⟨i, hi, rfl, e1, e2⟩ | ⟨e1, e2⟩
  · rw [e1, e2, bnd, bnd, xi1, xi1, xsgb, xsmb]
    by_cases c1 : 0 ≤ v2 ∧ v2 ≤ 3
    · rw [if_pos c1, if_pos c1, xwb, xib2 (y := 1) (z := 200) (a := 1) (b := 200) rfl rfl]
      obtain ⟨s, hs, rfl⟩ := nI_of2 (M := 3) (n := 3) rfl (Int32.not_lt.mpr c1.1) c1.2
      by_cases c2 : 1 ≤ v3 ∧ v3 ≤ 200
      · rw [if_pos c2, if_pos c2]
        obtain ⟨r, m2, ν2, q1, q2, q3, q4⟩ := dry_l (x := v3) hi (s := s) (by omega) xfu 0 μ ν (by decide) (by decide) H
        exact ⟨r, m2, ν2, q1, q2, rel_sc h q3 q4⟩
      · rw [if_neg c2, if_neg c2]
        exact ⟨-2, _, _, rfl, rfl, rel_bad h⟩
    · rw [if_neg c1, if_neg c1]
      exact ⟨-2, _, _, rfl, rfl, rel_bad h⟩
  · rw [e1, e2, bnd, bnd, xi0, xi0]
    exact ⟨-2, _, _, rfl, rfl, rel_bad h⟩
