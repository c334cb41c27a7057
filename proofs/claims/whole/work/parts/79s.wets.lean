/-! STEPS: read; the wets, in both -/
section WET
variable {tx : Nat → Nat} {L : Nat}
theorem RD_wet {n k y c x : Nat} {m ν : xM} (h : RD n k y m ν) (hc : c < 5) (hx : x ≤ 4) : RD n k y (xset m 23 c (nI x)) (xset ν 0 (1281 + c) (nI x)) := by
  obtain ⟨d1, d2, d3, d4, d5, d6, ⟨d7, d8⟩, ⟨b1, b2, b3, b4, b5⟩, c1, c2, c3, c4⟩ := h
  obtain ⟨hβ, hR, hn, hk, u0, w0, hE, hV⟩ := id d1
  have hE' : ∀ b c, b < n → c < 6 → m.1 21 (b * 6 + c) = ν.1 0 (1278 + 8 + 6 * c + b) := hE
  refine ⟨⟨hβ, hR, hn, hk, ?_, by simp (disch := omega) only [xset_ne, xset_nj, xset_eq, Nat.add_zero]; exact w0, fun b c' hb hc' => ?_, ?_⟩, d2, by simp (disch := omega) only [xset_ne, xset_nj, xset_eq, Nat.add_zero]; exact d3, by simp (disch := omega) only [xset_ne, xset_nj, xset_eq, Nat.add_zero]; exact d4, fun j hj => ?_, fun i hi => by simp (disch := omega) only [xset_ne, xset_nj, xset_eq, Nat.add_zero]; exact d6 i hi, ⟨by simp (disch := omega) only [xset_ne, xset_nj, xset_eq, Nat.add_zero]; exact d7, by simp (disch := omega) only [xset_ne, xset_nj, xset_eq, Nat.add_zero]; exact d8⟩, ⟨by simp (disch := omega) only [xset_ne, xset_nj, xset_eq, Nat.add_zero]; exact b1, by simp (disch := omega) only [xset_ne, xset_nj, xset_eq, Nat.add_zero]; exact b2, by simp (disch := omega) only [xset_ne, xset_nj, xset_eq, Nat.add_zero]; exact b3, by simp (disch := omega) only [xset_ne, xset_nj, xset_eq, Nat.add_zero]; exact b4, by simp (disch := omega) only [xset_ne, xset_nj, xset_eq, Nat.add_zero]; exact b5⟩, by simp (disch := omega) only [xset_ne, xset_nj, xset_eq, Nat.add_zero]; exact c1, by simp (disch := omega) only [xset_ne, xset_nj, xset_eq, Nat.add_zero]; exact c2, by simp (disch := omega) only [xset_ne, xset_nj, xset_eq, Nat.add_zero]; exact c3, by simp (disch := omega) only [xset_ne, xset_nj, xset_eq, Nat.add_zero]; exact c4⟩
  · show (xset m 23 c (nI x)).1 36 21 = _
    simp (disch := omega) only [xset_ne, xset_nj, xset_eq, Nat.add_zero]
    exact u0
  · show (xset m 23 c (nI x)).1 21 (b * 6 + c') = _
    simp (disch := omega) only [xset_ne, xset_nj, xset_eq, Nat.add_zero]
    exact hE' b c' hb hc'
  · exact vB_congr (fun b c' hb hc' => by show m.1 21 (b * 6 + c') = (xset m 23 c (nI x)).1 21 (b * 6 + c'); simp (disch := omega) only [xset_ne, xset_nj, xset_eq, Nat.add_zero]) hV
  · by_cases e : j = c
    · subst e
      rw [xset_eq, xset_eq]
      exact ⟨rfl, x, hx, rfl⟩
    · simp (disch := omega) only [xset_ne, xset_nj, xset_eq, Nat.add_zero]
      exact d5 j hj
theorem wH_eq {p : Nat} {m : xM} {K : Int32 → xM → Option (Int32 × xM)} {v : Int32} (K' : tkS tx L m p) (hp : p ≤ L) : ((fR_take m).bind fun r8 => fR_readWets_b25 K v r8) = (fR_takeNumber 0 4 m).bind fun r => if r.1 = -1 then some (0, r.2) else (fT_put 23 v 0 r.1 r.2).bind fun r56 => K (v + 1) r56 := by
  have sl : sk tx L p ≤ L := ru_le hp
  obtain ⟨m', a1, a2, a3, a4, a5, a6⟩ := H_take K' hp
  unfold fR_takeNumber
  rw [a1, bnd, bnd]
  unfold fR_readWets_b25
  rw [a2, xnb_0]
  by_cases c : tS tx L (sk tx L p) = 1
  · obtain ⟨t1, t2, t3, t4, x, x1, x2⟩ := tV_num sl ((tS_num sl).mp c)
    rw [if_pos c, if_pos c, a4, t1, x2, xwb]
    have ge0 : (0 : Int32) ≤ nI x := nI_le (a := 0) (by omega) (by omega)
    by_cases d : nI x ≤ 4
    · rw [if_pos d, if_pos ⟨ge0, d⟩, bnd]
      exact (if_neg (fun q => nI_m1 (by omega) q.symm)).symm
    · rw [if_neg d, if_neg (fun z => d z.2), bnd]
      exact (if_pos rfl).symm
  · rw [if_neg c, if_neg c, bnd]
    exact (if_pos rfl).symm
theorem wets_l {n k y : Nat} : ∀ (d c f g p : Nat) (m ν : xM), c + d + 1 = 5 → d + 1 < f → d + 2 < g → RS tx L p n k y m ν → itR tx L p m ν ((fR_take m).bind fun r8 => fR_readWets_b25 (fR_readWets_l2 f) (nI c) r8) (mC (fM_readsWet_l2 g (nI c) ν))
  | d, c, 0, g, p, m, ν, e, h1, h2, h => absurd h1 (by omega)
  | d, c, f + 1, 0, p, m, ν, e, h1, h2, h => absurd h2 (by omega)
  | d, c, f + 1, g + 1, p, m, ν, e, h1, h2, h => by
    obtain ⟨⟨hL, hx⟩, hp, K, ha, T, D⟩ := id h
    rw [wH_eq K hp]
    unfold fM_readsWet_l2
    rw [if_neg (show ¬ (5 : Int32) ≤ nI c from nI_ge (b := 5) (by omega) (by decide))]
    obtain ⟨m1, ν1, f1, g1, e1, z⟩ := num_both (lo := 0) (hi := 4) h
    rcases z with ⟨x, p1, x1, x2, x3, x4, z1, z2, z3, h1'⟩ | ⟨z1, z2⟩
    · have x4' : x ≤ 4 := (nI_leI (a := x) (b := 4) (by omega) (by decide)).mp x3
      obtain ⟨-, hp1, K1, ha1, T1, D1⟩ := id h1'
      have q1 : p1 ≤ sk tx L p1 := ru_ge hp1
      have q2 : sk tx L p1 ≤ L := ru_le hp1
      have q3 : sk tx L (sk tx L p1) = sk tx L p1 := ru_ru hp1
      rw [z1, z2, bnd, bnd]
      show itR tx L p m ν (if nI x = -1 then _ else (fT_put 23 (nI c) 0 (nI x) m1).bind fun r56 => fR_readWets_l2 (f + 1) (nI c + 1) r56) (mC (if (1 : Int32) = 0 then _ else xck 1752 ((1281 : Int32) + nI c) ((fM_blanks (xset ν1 0 ((1281 : Int32) + nI c).toNatClampNeg (ν1.1 6 3))).bind _)))
      rw [if_neg (fun q => nI_m1 (by omega) q.symm), xi1, T_put (t := 23) (r := c) (c := 0) (v2 := 0) (by decide) rfl rfl (by decide) (by show c < 5; omega), bnd, show c * wN 23 + 0 = c by show c * 1 + 0 = c; omega, z3, show (1281 : Int32) + nI c = nI (1281 + c) from nI_add 1281 c, xck_nI (by omega) (by decide), nI_clamp (by omega), nI_1]
      have C0 : cM ν1 ν1 := cM_refl
      have T2 : txM tx L (xset ν1 0 (1281 + c) (nI x)) := ⟨by simp (disch := omega) only [xset_ne, xset_nj, xset_eq, Nat.add_zero]; exact T1.1, fun j hj => by simp (disch := omega) only [xset_ne, xset_nj, xset_eq, Nat.add_zero]; exact T1.2 j hj⟩
      obtain ⟨r, b1, b2, b3, b4⟩ := M_blanks hL hx hp1 T2 (show (xset ν1 0 (1281 + c) (nI x)).1 6 1 = nI p1 by simp (disch := omega) only [xset_ne, xset_nj, xset_eq, Nat.add_zero]; exact ha1)
      have Tr := txM_fr T2 b4
      have F : scH m (xset m1 23 c (nI x)) := scH_trans (cH_sc f1) (scH_set (by unfold sH; omega) scH_refl)
      have G : scM ν r := scM_trans (cM_sc g1) (scM_trans (scM_set (by unfold sM; omega) scM_refl) (cM_sc b4))
      have hr : RS tx L (sk tx L p1) n k y (xset m1 23 c (nI x)) r := by
        refine ⟨⟨hL, hx⟩, q2, ?_, b2, Tr, RD_fr (RD_wet D1 (by omega) x4') cH_refl b4⟩
        obtain ⟨rr, dd, k1, k2, k3, k4⟩ := tkS_fr K1 (m' := xset m1 23 c (nI x)) (by funext i; simp (disch := omega) only [xset_ne, xset_nj, xset_eq, Nat.add_zero]) (by simp (disch := omega) only [xset_ne, xset_nj, xset_eq, Nat.add_zero]) (by simp (disch := omega) only [xset_ne, xset_nj, xset_eq, Nat.add_zero])
        exact ⟨rr, dd, by rw [q3]; exact k1, k2, k3, k4⟩
      rw [b1, bnd, b2, M_byte hL Tr (by omega), bnd, in_b (lo := 48) (hi := 57) (y := 48) (z := 57) hx (by decide) (by decide) rfl rfl, bnd, xnb_1]
      obtain ⟨m', a1, a2, a3, a4, a5, a6⟩ := H_take hr.2.2.1 q2
      rw [q3] at a2 a3 a4 a6
      have ss : sE m' r := ⟨by rw [a3, b3], _, by omega, a3⟩
      by_cases dg : sk tx L p1 < L ∧ inR 48 57 tx (sk tx L p1) = true
      · have n2 : ¬ tS tx L (sk tx L p1) = 2 := fun z => by
          have z1 := (tS_stop q2).mp z
          have z2 := inR_i.mp dg.2
          omega
        rw [if_pos dg, xi1]
        cases d with
        | zero =>
          have c5 : c + 1 = 5 := by omega
          rw [c5]
          unfold fR_readWets_l2
          rw [if_pos (show (5 : Int32) ≤ nI 5 by decide)]
          have ts : fR_takeStop (xset m1 23 c (nI x)) = some (0, m') := by
            unfold fR_takeStop
            rw [a1, bnd, a2, if_neg n2, xnb_0]
          cases g with
          | zero => exact absurd h2 (by omega)
          | succ g =>
            unfold fM_readsWet_l2
            rw [if_pos (show (5 : Int32) ≤ nI 5 by decide), ts, bnd, xnb_0, mC_0]
            show itR tx L p m ν (some (xnb 0, m')) _
            rw [xnb_0]
            exact itR_no (scH_trans F (cH_sc a5)) G ss
        | succ d =>
          have ih := wets_l d (c + 1) f g (sk tx L p1) _ _ (by omega) (by omega) (by omega) hr
          have H : fR_readWets_l2 (f + 1) (nI (c + 1)) (xset m1 23 c (nI x)) = (fR_take (xset m1 23 c (nI x))).bind fun r8 => fR_readWets_b25 (fR_readWets_l2 f) (nI (c + 1)) r8 := by
            conv => lhs; unfold fR_readWets_l2
            rw [if_neg (show ¬ (5 : Int32) ≤ nI (c + 1) from nI_ge (b := 5) (by omega) (by decide)), a1, bnd, bnd, a2, if_neg n2]
          rw [H]
          exact itR_from F G (by omega) ih
      · have ed0 : ed tx L (sk tx L p1) = sk tx L p1 := ed_no q2 dg
        have n1 : ¬ tS tx L (sk tx L p1) = 1 := fun z => by
          have := (tS_num q2).mp z
          omega
        rw [if_neg dg, xi0, mC_1]
        have H : fR_readWets_l2 (f + 1) (nI (c + 1)) (xset m1 23 c (nI x)) = (fR_takeStop (xset m1 23 c (nI x))).bind fun r => some (xnb r.1, r.2) := by
          conv => lhs; unfold fR_readWets_l2
          by_cases c5 : c + 1 = 5
          · rw [if_pos (show (5 : Int32) ≤ nI (c + 1) from nI_le (a := 5) (by omega) (by omega))]
          · rw [if_neg (show ¬ (5 : Int32) ≤ nI (c + 1) from nI_ge (b := 5) (by omega) (by decide))]
            unfold fR_takeStop fR_readWets_b25
            rw [a1, bnd, bnd, a2, xnb_0, xnb_1]
            by_cases s2 : tS tx L (sk tx L p1) = 2
            · rw [if_pos s2, if_pos s2, bnd, if_neg (show ¬ nI (c + 1) ≤ 0 from nI_ge (b := c + 1) (a := 0) (by omega) (by omega))]
              show _ = some (xnb 1, m')
              rw [xnb_1]
            · rw [if_neg s2, if_neg s2, if_neg n1, bnd]
              show _ = some (xnb 0, m')
              rw [xnb_0]
        rw [H]
        exact itR_from F G (by omega) (stop_fin hr)
    · rw [z1, z2, bnd, bnd]
      show itR tx L p m ν (if (-1 : Int32) = -1 then _ else _) (mC (if (0 : Int32) = 0 then _ else _))
      rw [if_pos rfl, xi0, xnb_0, mC_0]
      exact itR_no (cH_sc f1) (cM_sc g1) e1
theorem wets_both {p n k y : Nat} {m ν : xM} (h : RS tx L p n k y m ν) : itR tx L p m ν (fR_readWets m) (mC (fM_readsWet ν)) := by
  have e := wets_l 4 0 99999 100000 p m ν rfl (by decide) (by decide) h
  have H : fR_readWets m = (fR_take m).bind fun r8 => fR_readWets_b25 (fR_readWets_l2 99999) (nI 0) r8 := by
    have e0 : fR_readWets m = fR_readWets_l2 (99999 + 1) (nI 0) m := rfl
    rw [e0]
    conv => lhs; unfold fR_readWets_l2
    rw [if_neg (show ¬ (5 : Int32) ≤ nI 0 by decide)]
    congr 1
    funext r8
    by_cases c : r8.1 40 0 = 2
    · rw [if_pos c, if_pos (show nI 0 ≤ 0 by decide)]
    · rw [if_neg c]
  rw [H]
  exact e
end WET
