/-! BASE: plain rows on numbers, bits, tables -/
theorem xnb_0 : xnb 0 = 0 := by decide
theorem xnb_1 : xnb 1 = 1 := by decide
theorem xnb_ite {p : Prop} [Decidable p] : xnb (if p then 1 else 0) = if p then 1 else 0 := by split <;> decide
theorem xset_at {m : xM} {a i b j : Nat} {v : Int32} : (xset m a i v).1 b j = if b = a ∧ j = i then v else m.1 b j := rfl
theorem xset_2 {m : xM} {a i : Nat} {v : Int32} : (xset m a i v).2 = m.2 := rfl
theorem xsel_1 {m : xM} {i : Nat} {v : Int64} : (xsel m i v).1 = m.1 := rfl
theorem xsel_2 {m : xM} {i j : Nat} {v : Int64} : (xsel m i v).2 j = if j = i then v else m.2 j := rfl
theorem xset_ne {m : xM} {a i b j : Nat} {v : Int32} (h : b ≠ a) : (xset m a i v).1 b j = m.1 b j := by rw [xset_at, if_neg (fun z => h z.1)]
theorem xset_nj {m : xM} {a i b j : Nat} {v : Int32} (h : j ≠ i) : (xset m a i v).1 b j = m.1 b j := by rw [xset_at, if_neg (fun z => h z.2)]
theorem xset_eq {m : xM} {a i : Nat} {v : Int32} : (xset m a i v).1 a i = v := by rw [xset_at, if_pos ⟨rfl, rfl⟩]
/-- a number between two -/
theorem fH_within_eq (v a b : Int32) : fH_within v a b = some (if a ≤ v ∧ v ≤ b then 1 else 0) := by
  unfold fH_within
  rw [xnb_0, xnb_1]
  by_cases h1 : v < a
  · rw [if_pos h1, if_neg (fun z => absurd h1 (Int32.not_lt.mpr z.1))]
  · rw [if_neg h1]
    by_cases h2 : b < v
    · rw [if_pos h2, if_neg (fun z => absurd h2 (Int32.not_lt.mpr z.2))]
    · rw [if_neg h2, if_pos ⟨Int32.not_lt.mp h1, Int32.not_lt.mp h2⟩]
theorem i64_le {a b : Int32} : a.toInt64 ≤ b.toInt64 ↔ a ≤ b := by
  rw [Int64.le_iff_toInt_le, Int32.le_iff_toInt_le, Int32.toInt_toInt64, Int32.toInt_toInt64]
theorem i64_lt {a b : Int32} : a.toInt64 < b.toInt64 ↔ a < b := by
  rw [Int64.lt_iff_toInt_lt, Int32.lt_iff_toInt_lt, Int32.toInt_toInt64, Int32.toInt_toInt64]
theorem lg_lt0 {x y : Int64} : lg_cmp x y < 0 ↔ x < y := by
  unfold lg_cmp
  by_cases h : x > y
  · rw [if_pos h]
    constructor
    · intro z; exact absurd z (by decide)
    · intro z; exact absurd h (Int64.not_lt.mpr (Int64.le_of_lt z))
  · rw [if_neg h]
    by_cases h2 : x = y
    · subst h2
      rw [if_pos rfl]
      constructor
      · intro z; exact absurd z (by decide)
      · intro z; exact absurd z (Int64.lt_irrefl)
    · rw [if_neg h2]
      constructor
      · intro _
        have h3 := Int64.not_lt.mp h
        exact Int64.lt_of_le_of_ne h3 h2
      · intro _; decide
theorem lg_gt0 {x y : Int64} : 0 < lg_cmp x y ↔ y < x := by
  unfold lg_cmp
  by_cases h : x > y
  · rw [if_pos h]
    exact ⟨fun _ => h, fun _ => by decide⟩
  · rw [if_neg h]
    by_cases h2 : x = y
    · subst h2
      rw [if_pos rfl]
      exact ⟨fun z => absurd z (by decide), fun z => absurd z Int64.lt_irrefl⟩
    · rw [if_neg h2]
      exact ⟨fun z => absurd z (by decide), fun z => absurd z h⟩
theorem fM_in_eq (x y z : Int64) : fM_in x y z = some (if y ≤ x ∧ x ≤ z then 1 else 0) := by
  unfold fM_in
  rw [xnb_0, xnb_1]
  by_cases h1 : x < y
  · rw [if_pos (lg_lt0.mpr h1), if_neg (fun q => absurd h1 (Int64.not_lt.mpr q.1))]
  · rw [if_neg (fun q => h1 (lg_lt0.mp q))]
    by_cases h2 : z < x
    · rw [if_pos (lg_gt0.mpr h2), if_neg (fun q => absurd h2 (Int64.not_lt.mpr q.2))]
    · rw [if_neg (fun q => h2 (lg_gt0.mp q)), if_pos ⟨Int64.not_lt.mp h1, Int64.not_lt.mp h2⟩]
/-- the reference's test of a number, as the other one's -/
theorem fM_in_i {v a b : Int32} {y z : Int64} (hy : y = a.toInt64) (hz : z = b.toInt64) : fM_in v.toInt64 y z = some (if a ≤ v ∧ v ≤ b then 1 else 0) := by
  subst hy; subst hz
  rw [fM_in_eq]
  by_cases h : a ≤ v ∧ v ≤ b
  · rw [if_pos h, if_pos ⟨i64_le.mpr h.1, i64_le.mpr h.2⟩]
  · rw [if_neg h, if_neg (fun q => h ⟨i64_le.mp q.1, i64_le.mp q.2⟩)]
theorem nI_mul (a b : Nat) : nI a * nI b = nI (a * b) := (Int32.ofNat_mul a b).symm
def wN (t : Nat) : Nat := ([6, 37, 1, 1, 2, 5, 6, 6, 37, 1, 1, 2, 5, 6, 6, 37, 1, 1, 2, 5, 6, 6, 37, 1, 1, 2, 5, 6, 6, 1, 3, 64, 1, 1, 1, 1] : List Nat).getD t 0
def rN (t : Nat) : Nat := ([6, 8, 5, 4, 6, 6, 6, 6, 8, 5, 4, 6, 6, 6, 6, 8, 5, 4, 6, 6, 6, 6, 8, 5, 4, 6, 6, 6, 6, 150, 151, 4, 64, 4, 6, 4] : List Nat).getD t 0
theorem xw_N : ∀ t, t < 36 → xwid t = nI (wN t) ∧ xrows t = nI (rN t) ∧ xlen t = rN t * wN t ∧ wN t ≤ 64 ∧ rN t ≤ 151 ∧ xlen t ≤ 500 ∧ 1 ≤ wN t := by decide +kernel
theorem rc_lt {r c w n : Nat} (hc : c < w) (hr : r < n) : r * w + c < n * w := by
  have h1 : (r + 1) * w ≤ n * w := Nat.mul_le_mul_right w hr
  rw [Nat.succ_mul] at h1
  omega
theorem T_get {t r c : Nat} {m : xM} {v1 v2 : Int32} (ht : t < 36) (h1 : v1 = nI r) (h2 : v2 = nI c) (hc : c < wN t) (hr : r < rN t) : fT_get t m v1 v2 = some (m.1 t (r * wN t + c)) := by
  obtain ⟨e1, e2, e3, b1, b2, b3, -⟩ := xw_N t ht
  have hx := rc_lt hc hr
  rw [← e3] at hx
  subst h1; subst h2
  have e : nI r * xwid t + nI c = nI (r * wN t + c) := by rw [e1, nI_mul, nI_add]
  unfold fT_get
  rw [e, e1, if_neg (nI_pos (by omega)), if_neg (nI_ge hc (by omega)), if_neg (nI_pos (by omega)), if_pos (show nI (r * wN t + c) < Int32.ofNat (xlen t) from nI_lt hx (by omega))]
  unfold xck
  rw [if_neg (nI_in hx (by omega)), nI_clamp (by omega)]
theorem T_put {t r c : Nat} {m : xM} {v1 v2 v : Int32} (ht : t < 36) (h1 : v1 = nI r) (h2 : v2 = nI c) (hc : c < wN t) (hr : r < rN t) : fT_put t v1 v2 v m = some (xset m t (r * wN t + c) v) := by
  obtain ⟨e1, e2, e3, b1, b2, b3, -⟩ := xw_N t ht
  have hx := rc_lt hc hr
  rw [← e3] at hx
  subst h1; subst h2
  have e : nI r * xwid t + nI c = nI (r * wN t + c) := by rw [e1, nI_mul, nI_add]
  unfold fT_put
  rw [e, e1, if_neg (nI_pos (by omega)), if_neg (nI_ge hc (by omega)), if_neg (nI_pos (by omega)), if_neg (show ¬ Int32.ofNat (xlen t) ≤ nI (r * wN t + c) from nI_ge hx (by omega))]
  unfold xck
  rw [if_neg (nI_in hx (by omega)), nI_clamp (by omega)]
theorem T_many {t : Nat} {m : xM} : fT_many t m = some (m.1 36 t) := rfl
theorem T_empty {t : Nat} {m : xM} : fT_empty t m = some (xset m 36 t 0) := rfl
/-- a new row: there is room; there is none -/
theorem T_newRow {t u : Nat} {m : xM} (ht : t < 36) (hu : m.1 36 t = nI u) (h : u < rN t) : fT_newRow t m = some (nI u, xset m 36 t (nI (u + 1))) := by
  obtain ⟨e1, e2, e3, b1, b2, b3, -⟩ := xw_N t ht
  unfold fT_newRow
  rw [e2, hu, if_neg (nI_ge h (by omega)), nI_1]
theorem T_newRowF {t : Nat} {m : xM} (ht : t < 36) (hu : m.1 36 t = nI (rN t)) : fT_newRow t m = some (-1, m) := by
  obtain ⟨e1, e2, e3, b1, b2, b3, -⟩ := xw_N t ht
  unfold fT_newRow
  rw [e2, hu, if_pos (nI_le (Nat.le_refl _) (by omega))]
theorem xb_N : ∀ b, b < 5 → wN (xtb b) = 6 ∧ rN (xtb b) = 6 ∧ xlen (xtb b) = 36 := by decide +kernel
theorem B_get {β b c : Nat} {m : xM} {v1 v2 : Int32} (hβ : β < 5) (h1 : v1 = nI b) (h2 : v2 = nI c) (hc : c < 6) (hb : b < 6) : fT_get (xtb β) m v1 v2 = some (m.1 (xtb β) (b * 6 + c)) := by
  obtain ⟨e1, e2, -⟩ := xb_N β hβ
  have h := T_get (m := m) (xtb_lt hβ) h1 h2 (by rw [e1]; exact hc) (by rw [e2]; exact hb)
  rw [e1] at h
  exact h
theorem B_put {β b c : Nat} {m : xM} {v1 v2 v : Int32} (hβ : β < 5) (h1 : v1 = nI b) (h2 : v2 = nI c) (hc : c < 6) (hb : b < 6) : fT_put (xtb β) v1 v2 v m = some (xset m (xtb β) (b * 6 + c) v) := by
  obtain ⟨e1, e2, -⟩ := xb_N β hβ
  have h := T_put (m := m) (v := v) (xtb_lt hβ) h1 h2 (by rw [e1]; exact hc) (by rw [e2]; exact hb)
  rw [e1] at h
  exact h
/-- the reference's rows: a place that is there -/
theorem xck_in {n k : Nat} {v : Int32} {ρ : Type} {F : Option ρ} (hv : v = nI k) (h : k < n) (hn : n < 2 ^ 31) : xck n v F = F := by
  subst hv
  unfold xck
  rw [if_neg (nI_in h hn)]
/-- refusals -/
theorem H_badAs (v : Int32) (m : xM) : fH_badAs v m = some (v, xset m 38 2 (m.1 38 2 + 1)) := rfl
theorem H_bad (m : xM) : fH_bad m = some (-2, xset m 38 2 (m.1 38 2 + 1)) := rfl
theorem H_no (m : xM) : fH_no m = some (-3, xset m 38 3 (m.1 38 3 + 1)) := rfl
theorem H_full (m : xM) : fH_full m = some (-4, xset m 38 4 (m.1 38 4 + 1)) := rfl
theorem M_bad (v : Int32) (m : xM) : fM_bad v m = some (v, xset m 3 0 (m.1 3 0 + 1)) := rfl
theorem M_no (m : xM) : fM_no m = some (-3, xset m 3 1 (m.1 3 1 + 1)) := rfl
theorem M_full (m : xM) : fM_full m = some (-4, xset m 3 2 (m.1 3 2 + 1)) := rfl
