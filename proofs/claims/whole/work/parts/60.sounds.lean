/-! STEPS: sounds, about -/
theorem door_eq (a d : Int32) : fD_door a d = fM_door a d := by
  unfold fD_door fM_door xmax
  by_cases h : a / 4 + 6 - d < 0
  · rw [if_pos h, if_neg (Int32.not_le.mpr h)]
  · rw [if_neg h, if_pos (Int32.not_lt.mp h)]
theorem sound_eq (k s a d : Int32) : fD_soundBy k s a d = fM_soundOf k s a d := by
  unfold fD_soundBy fM_soundOf fM_stair fM_sill fD_stair fD_sill fD_attic fD_kitchen fD_marble
  rw [door_eq, door_eq]
  obtain ⟨x, hx⟩ : ∃ x, fM_door a d = some x := by unfold fM_door; split <;> exact ⟨_, rfl⟩
  obtain ⟨x0, hx0⟩ : ∃ x, fM_door a 0 = some x := by unfold fM_door; split <;> exact ⟨_, rfl⟩
  rw [hx, hx0]
  by_cases k1 : k = 1
  · rw [if_pos k1, if_pos k1, bnd]
    by_cases s2 : s = 2
    · rw [if_pos s2, if_pos s2]; rfl
    · rw [if_neg s2, if_neg s2]; rfl
  · rw [if_neg k1, if_neg k1]
    by_cases k2 : k = 2
    · rw [if_pos k2, if_pos k2, bnd]
      by_cases s3 : s = 3
      · rw [if_pos s3, if_pos s3]; rfl
      · rw [if_neg s3, if_neg s3]; rfl
    · rw [if_neg k2, if_neg k2]
      by_cases k3 : k = 3
      · rw [if_pos k3, if_pos k3, bnd]
        by_cases s2 : s < 2
        · rw [if_pos s2, if_neg (Int32.not_le.mpr s2)] <;> rfl
        · rw [if_neg s2, if_pos (Int32.not_lt.mp s2)] <;> rfl
      · rw [if_neg k3, if_neg k3]
        by_cases k4 : k = 4
        · rw [if_pos k4, if_pos k4, bnd]
          by_cases s2 : s = 2
          · rw [if_pos s2, bnd, if_neg (by rw [s2]; decide), if_neg (by rw [s2]; decide), if_pos s2]; rfl
          · rw [if_neg s2, bnd]
            by_cases s0 : s = 0
            · rw [if_pos s0, if_pos s0, if_neg s2]; rfl
            · rw [if_neg s0, if_neg s0, if_neg s2]; rfl
        · rw [if_neg k4, if_neg k4]
          by_cases k5 : k = 5
          · rw [if_pos k5, if_pos k5, bnd]
            by_cases s3 : s = 3
            · rw [if_pos s3, if_pos s3]; rfl
            · rw [if_neg s3, if_neg s3]; rfl
          · rw [if_neg k5, if_neg k5]
/-- a board's sound is no big number -/
theorem door_N : ∀ a, a < 100 → ∀ d, d < 10 → ∃ D, D < 31 ∧ fM_door (nI a) (nI d) = some (nI D) := by decide +kernel
theorem div3_N : ∀ D, D < 61 → nI D / 3 = nI (D / 3) := by decide +kernel
theorem half_N : ∀ D, D < 70 → nI D / 2 = nI (D / 2) := by decide +kernel
theorem sound_N {k s a d : Nat} (hk : k < 6) (hs : s < 4) (ha : a ≤ 99) (hd : d ≤ 9) : ∃ x, x < 70 ∧ fM_soundOf (nI k) (nI s) (nI a) (nI d) = some (nI x) := by
  obtain ⟨D, h1, hD⟩ := door_N a (by omega) d (by omega)
  obtain ⟨D0, h2, hD0⟩ := door_N a (by omega) 0 (by omega)
  have hD0 : fM_door (nI a) 0 = some (nI D0) := hD0
  unfold fM_soundOf fM_stair fM_sill
  rw [hD, hD0]
  have add : ∀ x y, nI x + (OfNat.ofNat y : Int32) = nI (x + y) := fun x y => nI_add x y
  rcases (show k = 0 ∨ k = 1 ∨ k = 2 ∨ k = 3 ∨ k = 4 ∨ k = 5 by omega) with rfl | rfl | rfl | rfl | rfl | rfl
  · exact ⟨D, by omega, rfl⟩
  · by_cases c : nI s = 2
    · exact ⟨D + 3, by omega, by rw [if_pos (show nI 1 = 1 from rfl), if_pos c, ← nI_add] <;> rfl⟩
    · exact ⟨D, by omega, by rw [if_pos (show nI 1 = 1 from rfl), if_neg c] <;> rfl⟩
  · by_cases c : nI s = 3
    · exact ⟨2 * D, by omega, by rw [if_neg (by decide), if_pos (show nI 2 = 2 from rfl), if_pos c, ← nI_mul] <;> rfl⟩
    · exact ⟨D, by omega, by rw [if_neg (by decide), if_pos (show nI 2 = 2 from rfl), if_neg c] <;> rfl⟩
  · by_cases c : 2 ≤ nI s
    · exact ⟨D + 5, by omega, by rw [if_neg (by decide), if_neg (by decide), if_pos (show nI 3 = 3 from rfl), if_pos c, ← nI_add] <;> rfl⟩
    · exact ⟨D, by omega, by rw [if_neg (by decide), if_neg (by decide), if_pos (show nI 3 = 3 from rfl), if_neg c] <;> rfl⟩
  · by_cases c0 : nI s = 0
    · exact ⟨D0 + 4, by omega, by rw [if_neg (by decide), if_neg (by decide), if_neg (by decide), if_pos (show nI 4 = 4 from rfl), if_pos c0, if_neg (by rw [c0]; decide), ← nI_add] <;> rfl⟩
    · by_cases c : nI s = 2
      · exact ⟨D0 + 3, by omega, by rw [if_neg (by decide), if_neg (by decide), if_neg (by decide), if_pos (show nI 4 = 4 from rfl), if_neg c0, if_pos c, ← nI_add] <;> rfl⟩
      · exact ⟨D0, by omega, by rw [if_neg (by decide), if_neg (by decide), if_neg (by decide), if_pos (show nI 4 = 4 from rfl), if_neg c0, if_neg c] <;> rfl⟩
  · by_cases c : nI s = 3
    · exact ⟨2 * D / 3, by omega, by rw [if_neg (by decide), if_neg (by decide), if_neg (by decide), if_neg (by decide), if_pos (show nI 5 = 5 from rfl), if_pos c, ← div3_N _ (by omega), ← nI_mul] <;> rfl⟩
    · exact ⟨D / 3, by omega, by rw [if_neg (by decide), if_neg (by decide), if_neg (by decide), if_neg (by decide), if_pos (show nI 5 = 5 from rfl), if_neg c, ← div3_N _ (by omega)] <;> rfl⟩
/-- boards β of the class, and of region R of the reference: n of them, k instruments -/
def bE (n k β R : Nat) (m ν : xM) : Prop := β < 5 ∧ R ≤ 1704 ∧ n ≤ 6 ∧ k ≤ 4 ∧ m.1 36 (xtb β) = nI n ∧ ν.1 0 R = nI n ∧ (∀ b c, b < n → c < 6 → m.1 (xtb β) (b * 6 + c) = ν.1 0 (R + 8 + 6 * c + b)) ∧ vB n k (fun b c => m.1 (xtb β) (b * 6 + c))
theorem bE_0 {μ ν : xM} {n k : Nat} (hn : n ≤ 6) (hk : k ≤ 4) (u0 : μ.1 36 0 = nI n) (w0 : ν.1 0 0 = nI n) (hC : pC n k μ.1 (ν.1 0)) : bE n k 0 0 μ ν :=
  ⟨by decide, by decide, hn, hk, u0, w0, fun b c hb hc => by rw [show 0 + 8 + 6 * c + b = 8 + 6 * c + b by omega]; exact hC.1 b c hb hc, hC.2⟩
theorem snd_both {n k β R : Nat} {m ν : xM} (h : bE n k β R m ν) {b s : Nat} (hb : b < n) (hs : s < 4) : ∃ x, x < 70 ∧ fB_soundOf β m (nI b) (nI s) = some (nI x) ∧ fM_soundsIn ν (nI R) (nI b) (nI s) = some (nI x) := by
  obtain ⟨hβ, hR, hn, hk, u0, w0, hE, hV⟩ := h
  obtain ⟨⟨kd, hkd, ek⟩, ⟨a, ha, ea⟩, ⟨d, hd, ed⟩, -, ew, -⟩ := hV.1 b hb
  obtain ⟨x, hx, ex⟩ := sound_N hkd hs ha hd
  have ek : m.1 (xtb β) (b * 6 + 0) = nI kd := ek
  have ea : m.1 (xtb β) (b * 6 + 1) = nI a := ea
  have ed : m.1 (xtb β) (b * 6 + 2) = nI d := ed
  have g : ∀ c (v2 : Int32), v2 = nI c → c < 6 → fT_get (xtb β) m (nI b) v2 = some (m.1 (xtb β) (b * 6 + c)) := fun c v2 e hc => B_get hβ rfl e hc (by omega)
  have e : ∀ c, nI R + nI c + nI b = nI (R + c + b) := fun c => by rw [nI_add, nI_add]
  have q0 : ν.1 0 (R + 8 + b) = nI kd := by rw [show R + 8 + b = R + 8 + 6 * 0 + b by omega, ← hE b 0 hb (by decide)]; exact ek
  have q1 : ν.1 0 (R + 14 + b) = nI a := by rw [show R + 14 + b = R + 8 + 6 * 1 + b by omega, ← hE b 1 hb (by decide)]; exact ea
  have q2 : ν.1 0 (R + 20 + b) = nI d := by rw [show R + 20 + b = R + 8 + 6 * 2 + b by omega, ← hE b 2 hb (by decide)]; exact ed
  have q4 : ν.1 0 (R + 32 + b) = m.1 (xtb β) (b * 6 + 4) := by rw [show R + 32 + b = R + 8 + 6 * 4 + b by omega, ← hE b 4 hb (by decide)]
  have H : fB_soundOf β m (nI b) (nI s) = if m.1 (xtb β) (b * 6 + 4) = 1 then some (nI x / 2) else some (nI x) := by
    unfold fB_soundOf
    rw [g 0 0 rfl (by decide), bnd, g 1 1 rfl (by decide), bnd, g 2 2 rfl (by decide), bnd, ek, ea, ed, sound_eq, ex, bnd, g 4 4 rfl (by decide), bnd]
  have M : fM_soundsIn ν (nI R) (nI b) (nI s) = if m.1 (xtb β) (b * 6 + 4) = 1 then some (nI x / 2) else some (nI x) := by
    unfold fM_soundsIn
    rw [show (8 : Int32) = nI 8 from rfl, show (14 : Int32) = nI 14 from rfl, show (20 : Int32) = nI 20 from rfl, show (32 : Int32) = nI 32 from rfl, e, e, e, e, xck_nI (by omega) (by decide), xck_nI (by omega) (by decide), xck_nI (by omega) (by decide), nI_clamp (by omega), nI_clamp (by omega), nI_clamp (by omega), nI_clamp (by omega), q0, q1, q2, ex, bnd, xck_nI (by omega) (by decide), q4]
  by_cases c : m.1 (xtb β) (b * 6 + 4) = 1
  · rw [if_pos c] at H M
    exact ⟨x / 2, by omega, H.trans (congrArg some (half_N x hx)), M.trans (congrArg some (half_N x hx))⟩
  · rw [if_neg c] at H M
    exact ⟨x, hx, H, M⟩
theorem st_sounds {μ ν : xM} (h : xRel μ ν) (v1 : Int32) (v2 : Int32) : ∃ (r : Int32) (μ2 ν2 : xM), (fH_sounds v1 v2 μ = some (r, μ2)) ∧ (fM_sounds v1 v2 ν = some (r, ν2)) ∧ xRel μ2 ν2 := by
  unfold fH_sounds fM_sounds
  obtain ⟨n, k, y, hh, a, q, u, B, U, W, hC, hW, hI, hH, hN, hM, hP⟩ := rel_op h
  obtain ⟨b1, b2, b3, b4, b5, b6, b7⟩ := id B
  obtain ⟨u0, u1, u2, u3, u4, u5, u6, uy⟩ := U
  obtain ⟨w0, w1, w2, w3, w4, w5, w6⟩ := W
  rcases xbd b1 u0 w0 v1 with ⟨b, hb, rfl, e1, e2⟩ | ⟨e1, e2⟩
  · rw [e1, e2, bnd, bnd, xi1, xi1, xsgb, xsmb]
    by_cases c1 : 0 ≤ v2 ∧ v2 ≤ 3
    · rw [if_pos c1, if_pos c1]
      obtain ⟨s, hs, rfl⟩ := nI_of2 (M := 3) (n := 3) rfl (Int32.not_lt.mpr c1.1) c1.2
      obtain ⟨x, hx, e3, e4⟩ := snd_both (bE_0 b1 b2 u0 w0 hC) hb (s := s) (by omega)
      refine ⟨nI x, μ, ν, ?_, ?_, h⟩
      · rw [e3]; rfl
      · show (fM_soundsIn ν (nI 0) (nI b) (nI s)).bind _ = _
        rw [e4]; rfl
    · rw [if_neg c1, if_neg c1]
      exact ⟨-2, _, _, rfl, rfl, rel_bad h⟩
  · rw [e1, e2, bnd, bnd, xi0, xi0]
    exact ⟨-2, _, _, rfl, rfl, rel_bad h⟩
