/-! STEPS: plays -/
def sdN (o : Option Int32) : Nat := match o with
  | some v => v.toNatClampNeg
  | none => 0
def smN : Nat → (Nat → Bool) → (Nat → Nat) → Nat
  | 0, _, _ => 0
  | n + 1, f, g => smN n f g + (if f n then g n else 0)
theorem smN_congr {n : Nat} {f f' : Nat → Bool} {g g' : Nat → Nat} (h : ∀ b, b < n → f b = f' b ∧ g b = g' b) : smN n f g = smN n f' g' := by
  induction n with
  | zero => rfl
  | succ n ih =>
    unfold smN
    rw [ih (fun b hb => h b (by omega)), (h n (by omega)).1, (h n (by omega)).2]
theorem smN_le {n : Nat} {f : Nat → Bool} {g : Nat → Nat} (h : ∀ b, b < n → g b < 70) : smN n f g ≤ 69 * n := by
  induction n with
  | zero => exact Nat.le_refl _
  | succ n ih =>
    show smN n f g + (if f n = true then g n else 0) ≤ _
    have h1 := ih (fun b hb => h b (by omega))
    have h2 := h n (by omega)
    by_cases c : f n = true
    · rw [if_pos c]; omega
    · rw [if_neg c]; omega
theorem cntB_le {n : Nat} {f : Nat → Bool} : cntB n f ≤ n := by
  induction n with
  | zero => exact Nat.le_refl _
  | succ n ih =>
    show cntB n f + (if f n = true then 1 else 0) ≤ _
    by_cases c : f n = true
    · rw [if_pos c]; omega
    · rw [if_neg c]; omega
/-- a mask holds a board -/
def hoB (M : Int32) (b : Nat) : Bool := ((M >>> (nI b &&& 31)) &&& 1) == 1
theorem hoB_0 : ∀ b, b < 6 → hoB 0 b = false := by decide +kernel
theorem holds_eq {M : Int32} {b : Nat} {ρ : Type} {A B : Option ρ} : ((fH_holdsBit M (nI b)).bind fun r => if r = 0 then A else B) = if hoB M b = true then B else A := by
  unfold fH_holdsBit hoB
  rw [xnb_1, xnb_0]
  by_cases c : (M >>> (nI b &&& 31)) &&& 1 = 1
  · rw [if_pos c, if_pos (beq_iff_eq.mpr c), bnd, xi1]
  · rw [if_neg c, if_neg (fun z => c (beq_iff_eq.mp z)), bnd, xi0]
section PLAY
variable (m : xM) (β : Nat) (v M : Int32) (s : Nat)
/-- a board plays along: it is in the instrument, or in the mask -/
def mbB (b : Nat) : Bool := (m.1 (xtb β) (b * 6 + 5) == v) || hoB M b
def sdB (b : Nat) : Nat := sdN (fB_soundOf β m (nI b) (nI s))
def hsB (b : Nat) : Int32 := m.1 (xtb β) (b * 6 + 3)
end PLAY
theorem H_po {t n k β R : Nat} {m ν : xM} (h : bE n k β R m ν) {v M : Int32} {s : Nat} (hs : s < 4) : ∀ (f b : Nat), b ≤ n → n < b + f → fW_playOn_l12 t β m f v (nI s) M (nI (smN b (mbB m β v M) (sdB m β s))) (hoI b (mbB m β v M) (hsB m β)) (nI (cntB b (mbB m β v M))) (nI b) = if cntB n (mbB m β v M) ≤ 4 then (fT_get (7 * t + 3) m v (0 : Int32)).bind fun r93 => (fJ_bitCount (hoI n (mbB m β v M) (hsB m β))).bind fun r101 => (fS_playBy r93 (nI s) (nI (smN n (mbB m β v M) (sdB m β s))) r101 (nI (cntB n (mbB m β v M)))).bind fun r106 => some r106 else some (-1)
  | 0, b, h1, h2 => absurd h2 (by omega)
  | f + 1, b, h1, h2 => by
    obtain ⟨hβ, hR, hn, hk, u0, w0, hE, hV⟩ := id h
    have gm : fB_many β m = some (nI n) := by
      unfold fB_many
      rw [B_many, bnd, u0]
    unfold fW_playOn_l12
    rw [gm, bnd]
    by_cases hb : b = n
    · subst hb
      have c1 : cntB b (mbB m β v M) ≤ b := cntB_le
      rw [if_pos (nI_le (Nat.le_refl _) (by omega))]
      by_cases c : cntB b (mbB m β v M) ≤ 4
      · rw [if_pos c, if_pos (show nI _ ≤ 4 from nI_le (b := 4) c (by decide))]
      · rw [if_neg c, if_neg (show ¬ nI _ ≤ 4 from nI_ge (a := 4) (by omega) (by omega))]
    · rw [if_neg (nI_ge (by omega) (by omega))]
      obtain ⟨x, hx, e1, -⟩ := snd_both h (b := b) (by omega) hs
      have ih := H_po (t := t) (v := v) (M := M) h hs f (b + 1) (by omega) (by omega)
      have g : ∀ c (v2 : Int32), v2 = nI c → c < 6 → fB_cell β m (nI b) v2 = some (m.1 (xtb β) (b * 6 + c)) := fun c v2 e hc => by
        unfold fB_cell
        rw [B_get hβ rfl e hc (by omega)]
        rfl
      have sx : sdB m β s b = x := by
        unfold sdB
        rw [e1]
        exact nI_clamp (by omega)
      have E1 : smN (b + 1) (mbB m β v M) (sdB m β s) = smN b (mbB m β v M) (sdB m β s) + (if mbB m β v M b = true then sdB m β s b else 0) := rfl
      have E2 : hoI (b + 1) (mbB m β v M) (hsB m β) = if mbB m β v M b = true then hoI b (mbB m β v M) (hsB m β) ||| ((1 : Int32) <<< (hsB m β b &&& 31)) else hoI b (mbB m β v M) (hsB m β) := rfl
      have E3 : cntB (b + 1) (mbB m β v M) = cntB b (mbB m β v M) + (if mbB m β v M b = true then 1 else 0) := rfl
      have yes : mbB m β v M b = true → fW_playOn_b42 t β m (fW_playOn_l12 t β m f) v (nI s) M (nI (smN b (mbB m β v M) (sdB m β s))) (hoI b (mbB m β v M) (hsB m β)) (nI (cntB b (mbB m β v M))) (nI b) = fW_playOn_l12 t β m f v (nI s) M (nI (smN (b + 1) (mbB m β v M) (sdB m β s))) (hoI (b + 1) (mbB m β v M) (hsB m β)) (nI (cntB (b + 1) (mbB m β v M))) (nI (b + 1)) := by
        intro c
        unfold fW_playOn_b42 fW_playOn_b71
        rw [E1, E2, E3, if_pos c, if_pos c, if_pos c, sx, e1, bnd, g 3 3 rfl (by decide), bnd, nI_add, nI_1, nI_1]
        rfl
      have no : ¬ mbB m β v M b = true → fW_playOn_b71 t β m (fW_playOn_l12 t β m f) v (nI s) M (nI (smN b (mbB m β v M) (sdB m β s))) (hoI b (mbB m β v M) (hsB m β)) (nI (cntB b (mbB m β v M))) (nI b) = fW_playOn_l12 t β m f v (nI s) M (nI (smN (b + 1) (mbB m β v M) (sdB m β s))) (hoI (b + 1) (mbB m β v M) (hsB m β)) (nI (cntB (b + 1) (mbB m β v M))) (nI (b + 1)) := by
        intro c
        unfold fW_playOn_b71
        rw [E1, E2, E3, if_neg c, if_neg c, if_neg c, nI_1]
        rfl
      rw [g 5 5 rfl (by decide), bnd, holds_eq]
      by_cases c : m.1 (xtb β) (b * 6 + 5) = v
      · rw [if_pos c, yes (by unfold mbB; rw [beq_iff_eq.mpr c]; rfl)]
        exact ih
      · rw [if_neg c]
        by_cases c2 : hoB M b = true
        · rw [if_pos c2, yes (by unfold mbB; rw [c2, Bool.or_true])]
          exact ih
        · rw [if_neg c2, no (by unfold mbB; rw [beq_false_of_ne c, Bool.false_or]; exact c2)]
          exact ih
theorem lent_N : ∀ X, X < 420 → ∀ h, h < 5 → fS_lent (nI X) (nI h) = some (nI (X - 3 * (h - 1))) ∧ fM_lent (nI X) (nI h) = some (nI (X - 3 * (h - 1))) := by decide +kernel
theorem squeak_N : ∀ X, X < 420 → (nI X + 1) / 2 = nI ((X + 1) / 2) := by decide +kernel
/-- what both make of a sum -/
theorem play_N {kd : Int32} {s X H K : Nat} (hs : s < 4) (hX : X < 420) (hH : H < 5) (hK : K ≤ 6) : ∃ p, p ≤ 1000 ∧ fS_playBy kd (nI s) (nI X) (nI H) (nI K) = some (nI p) ∧ fM_playOf kd (nI s) (nI X) (nI H) (nI K) = some (nI p) := by
  unfold fS_playBy fM_playOf
  obtain ⟨l1, l2⟩ := lent_N X hX H hH
  have hp : X - 3 * (H - 1) < 420 := by omega
  revert l1 l2 hp
  generalize X - 3 * (H - 1) = p
  intro l1 l2 hp
  rw [l1, l2]
  by_cases k1 : kd = 1
  · rw [if_pos k1, if_pos k1]
    exact ⟨p, by omega, rfl, rfl⟩
  rw [if_neg k1, if_neg k1]
  by_cases k2 : kd = 2
  · rw [if_pos k2, if_pos k2]
    unfold fS_cello
    by_cases s0 : nI s = 0
    · rw [if_pos s0]
      exact ⟨2 * X, by omega, by rw [← nI_mul] <;> rfl, by rw [← nI_mul] <;> rfl⟩
    · rw [if_neg s0]
      exact ⟨X, by omega, rfl, rfl⟩
  rw [if_neg k2, if_neg k2]
  by_cases k3 : kd = 3
  · rw [if_pos k3, if_pos k3, bnd]
    unfold fS_tenement
    by_cases h3 : nI H < 3
    · rw [if_pos h3, if_pos h3]
      exact ⟨p, by omega, rfl, rfl⟩
    · rw [if_neg h3, if_neg h3]
      exact ⟨0, by omega, rfl, rfl⟩
  rw [if_neg k3, if_neg k3]
  by_cases k4 : kd = 4
  · rw [if_pos k4, if_pos k4]
    unfold fS_squeak
    by_cases s3 : nI s = 3
    · rw [if_pos s3]
      exact ⟨X + K, by omega, by rw [← nI_add] <;> rfl, by rw [← nI_add]⟩
    · rw [if_neg s3]
      have e := squeak_N X hX
      rw [e]
      exact ⟨(X + 1) / 2, by omega, rfl, rfl⟩
  rw [if_neg k4, if_neg k4]
  by_cases k5 : kd = 5
  · rw [if_pos k5, if_pos k5]
    unfold fS_cello fS_bass
    by_cases s0 : nI s = 0
    · rw [if_pos s0, if_pos s0, bnd, if_neg (by rw [s0]; decide)]
      exact ⟨2 * X, by omega, by rw [← nI_mul] <;> rfl, by rw [← nI_mul] <;> rfl⟩
    · rw [if_neg s0, if_neg s0, bnd]
      by_cases s1 : nI s = 1
      · rw [if_neg (by rw [s1]; decide), if_pos s1]
        exact ⟨X, by omega, rfl, rfl⟩
      · have hs2 : 1 < s := by
          rcases (show s = 0 ∨ s = 1 ∨ 1 < s by omega) with rfl | rfl | h
          · exact absurd rfl s0
          · exact absurd rfl s1
          · exact h
        rw [if_pos (show (1 : Int32) < nI s from nI_lt (a := 1) hs2 (by omega)), if_neg s1]
        exact ⟨0, by omega, rfl, rfl⟩
  rw [if_neg k5, if_neg k5]
  exact ⟨X, by omega, rfl, rfl⟩
