/-! BASE: what a call may scratch; numbers; masks -/
def sH (j i : Nat) : Prop := j < 21 ∨ j = 29 ∨ (j = 36 ∧ (i < 21 ∨ i = 29)) ∨ (j = 37 ∧ i < 3) ∨ j = 38
def sM (j i : Nat) : Prop := (j = 0 ∧ i < 1278) ∨ j = 1 ∨ j = 2 ∨ j = 3 ∨ (j = 6 ∧ i = 0)
def scH (m m' : xM) : Prop := (∀ j i, sH j i → m'.1 j i = m.1 j i) ∧ m'.2 0 = m.2 0 ∧ m'.2 1 = m.2 1
def scM (m m' : xM) : Prop := (∀ j i, sM j i → m'.1 j i = m.1 j i) ∧ m'.2 0 = m.2 0 ∧ m'.2 1 = m.2 1
theorem scH_refl {m : xM} : scH m m := ⟨fun _ _ _ => rfl, rfl, rfl⟩
theorem scM_refl {m : xM} : scM m m := ⟨fun _ _ _ => rfl, rfl, rfl⟩
theorem scH_trans {a b c : xM} (h : scH a b) (g : scH b c) : scH a c := ⟨fun j i k => (g.1 j i k).trans (h.1 j i k), g.2.1.trans h.2.1, g.2.2.trans h.2.2⟩
theorem scM_trans {a b c : xM} (h : scM a b) (g : scM b c) : scM a c := ⟨fun j i k => (g.1 j i k).trans (h.1 j i k), g.2.1.trans h.2.1, g.2.2.trans h.2.2⟩
theorem scH_set {m m' : xM} {a i : Nat} {v : Int32} (hk : ¬ sH a i) (h : scH m m') : scH m (xset m' a i v) := by
  refine ⟨fun j x k => ?_, h.2⟩
  rw [xset_at, if_neg (fun z => hk (by rw [← z.1, ← z.2]; exact k))]
  exact h.1 j x k
theorem scM_set {m m' : xM} {a i : Nat} {v : Int32} (hk : ¬ sM a i) (h : scM m m') : scM m (xset m' a i v) := by
  refine ⟨fun j x k => ?_, h.2⟩
  rw [xset_at, if_neg (fun z => hk (by rw [← z.1, ← z.2]; exact k))]
  exact h.1 j x k
theorem scM_cb {m m' : xM} {jd js d s n : Nat} (hk : ∀ x, d ≤ x → x < d + n → ¬ sM jd x) (h : scM m m') : scM m (xcb m' jd js d s n) := by
  refine ⟨fun j x k => ?_, h.2⟩
  rw [xcb_at, if_neg (fun z => hk x z.2.1 z.2.2 (by rw [← z.1]; exact k))]
  exact h.1 j x k
theorem rel_sc {μ ν μ' ν' : xM} (h : xRel μ ν) (F : scH μ μ') (G : scM ν ν') : xRel μ' ν' :=
  ⟨rTw_congr (fun j i hj => (F.1 _ _ (by unfold sH; omega)).symm) (fun j hj => (F.1 _ _ (by unfold sH; omega)).symm) (F.1 _ _ (by unfold sH; omega)).symm (fun i hi => (G.1 _ _ (by unfold sM; omega)).symm) h.1,
   rRest_congr (fun j i h1 h2 => (F.1 _ _ (by unfold sH; omega)).symm) (fun j h1 h2 => (F.1 _ _ (by unfold sH; omega)).symm) (fun t h1 h2 => (F.1 _ _ (by unfold sH; omega)).symm) (fun i h1 h2 => (G.1 _ _ (by unfold sM; omega)).symm) ⟨by funext i; exact (F.1 29 i (by unfold sH; omega)).symm, (F.1 36 29 (by unfold sH; omega)).symm⟩ (by funext i; exact (F.1 38 i (by unfold sH; omega)).symm) ⟨F.2.1.symm, F.2.2.symm⟩ (by funext i; exact (G.1 1 i (by unfold sM; omega)).symm) (by funext i; exact (G.1 2 i (by unfold sM; omega)).symm) (by funext i; exact (G.1 3 i (by unfold sM; omega)).symm) (G.1 6 0 (by unfold sM; omega)).symm ⟨G.2.1.symm, G.2.2.symm⟩ h.2⟩
theorem nI_lit (k : Nat) : (OfNat.ofNat k : Int32) = nI (OfNat.ofNat k) := rfl
theorem nI_sub {a b : Nat} (h : b ≤ a) : nI a - nI b = nI (a - b) := by
  have e : nI a = nI (a - b) + nI b := by rw [nI_add, Nat.sub_add_cancel h]
  rw [e, Int32.add_sub_cancel]
theorem nI_div {a b : Nat} (ha : a < 2 ^ 31) (hb : b < 2 ^ 31) : nI a / nI b = nI (a / b) := by
  have hm : nI b ≠ -1 := fun e => nI_m1 hb e.symm
  have hd : a / b ≤ a := Nat.div_le_self a b
  apply Int32.toInt_inj.mp
  rw [Int32.toInt_div_of_ne_right _ _ hm, nI_toInt ha, nI_toInt hb, nI_toInt (by omega)]
  rfl
theorem nI_mod {a b : Nat} (ha : a < 2 ^ 31) (hb : b < 2 ^ 31) : nI a - nI a / nI b * nI b = nI (a % b) := by
  have e := Nat.div_add_mod a b
  have hm : b * (a / b) = a / b * b := Nat.mul_comm _ _
  rw [nI_div ha hb, nI_mul, nI_sub (by omega)]
  congr 1
  omega
theorem nI_mask : ∀ n, n ≤ 6 → ((1 : Int32) <<< (nI n &&& 31)) = nI (2 ^ n) := by decide +kernel
/-- both tests of a mask -/
theorem H_has {M : Int32} {b : Nat} : fH_holdsBit M (nI b) = some (if hoB M b = true then 1 else 0) := by
  unfold fH_holdsBit hoB
  rw [xnb_1, xnb_0]
  by_cases c : (M >>> (nI b &&& 31)) &&& 1 = 1
  · rw [if_pos c, if_pos (beq_iff_eq.mpr c)]
  · rw [if_neg c, if_neg (fun z => c (beq_iff_eq.mp z))]
theorem M_has {M : Int32} {b : Nat} : fM_has M (nI b) = some (if hoB M b = true then 1 else 0) := H_has
theorem M_has_eq {M : Int32} {b : Nat} {ρ : Type} {A B : Option ρ} : ((fM_has M (nI b)).bind fun r => if r = 0 then A else B) = if hoB M b = true then B else A := holds_eq
theorem or_64 : ∀ M, M < 64 → ∀ b, b < 6 → (nI M ||| ((1 : Int32) <<< (nI b &&& 31))) = nI (M ||| 2 ^ b) ∧ (M ||| 2 ^ b) < 64 ∧ ∀ j, j < 6 → hoB (nI (M ||| 2 ^ b)) j = (hoB (nI M) j || j == b) := by decide +kernel
theorem hoB_plus : ∀ b, b < 6 → ∀ M, M < 2 ^ b → hoB (nI (M + 2 ^ b)) b = true ∧ hoB (nI M) b = false ∧ ∀ j, j < b → hoB (nI (M + 2 ^ b)) j = hoB (nI M) j := by decide +kernel
theorem hoB_mask {n : Nat} {f : Nat → Bool} (hn : n ≤ 6) : ∀ j, j < n → hoB (nI (maskN n f)) j = f j := by
  induction n with
  | zero => exact fun j hj => absurd hj (Nat.not_lt_zero j)
  | succ n ih =>
    intro j hj
    obtain ⟨h1, h2, h3⟩ := hoB_plus n (by omega) (maskN n f) (maskN_lt n f)
    show hoB (nI (maskN n f + (if f n = true then 2 ^ n else 0))) j = f j
    by_cases c : f n = true
    · rw [if_pos c]
      by_cases e : j = n
      · subst e
        rw [h1, c]
      · rw [h3 j (by omega)]
        exact ih (by omega) j (by omega)
    · rw [if_neg c, Nat.add_zero]
      by_cases e : j = n
      · subst e
        rw [h2]
        exact (Bool.eq_false_iff.mpr c).symm
      · exact ih (by omega) j (by omega)
theorem bit_ho {M : Int32} {b : Nat} (h : (M >>> (nI b &&& 31)) &&& 1 = 0 ∨ (M >>> (nI b &&& 31)) &&& 1 = 1) : (M >>> (nI b &&& 31)) &&& 1 = if hoB M b = true then 1 else 0 := by
  unfold hoB
  rcases h with h | h
  · rw [h]; decide
  · rw [h]; decide
theorem bit_N : ∀ M, M < 64 → ∀ b, b < 6 → ((nI M) >>> (nI b &&& 31)) &&& 1 = if hoB (nI M) b = true then 1 else 0 := by decide +kernel
