-- RIVER: the openings of the best way, and the earliest way
theorem opG_le {V : RvT} (hv : Vok V) {j t : Nat} (ht : t ≤ 299) : opG V (GV V) j t ≤ BIG := by
  rcases opG_ok hv (j := j) ht (TB_ok hv V.1.1) with z | z
  · exact Nat.le_of_eq z
  · have h2 : (V.1.1 + 1) * 70000 ≤ 11 * 70000 := Nat.mul_le_mul_right _ (by have := hv.1; omega)
    have z2 : opG V (GV V) j t ≤ (V.1.1 + 1) * 70000 := z
    unfold BIG
    omega
def opA (V : RvT) (i : Nat) : Nat → Int32
  | 0 => nI (tV V i)
  | 1 => nI (cn V (tV V i) - (PV V i).1)
  | _ => nI (PV V (i + 1)).2
theorem p_opnM {N n L w : Nat} {V : RvT} {T0 T : St} {a1 r : Int32} (hv : Vok V) (hm : RVm V T) (hO : Ord V T) (hR : ∀ p t, p < V.1.1 → t ≤ 299 → T.2 18 (301 * p + t) = nI (GV V p t)) (hg : gd V (0, 0)) (hL : L ≤ 10) (hW : ∀ u, u < L → (PV V u).1 < V.1.1) (hE : (PV V L).1 = V.1.1) (hw : w ≤ 2) (hN : 1000 < N) (he : f_X7_bestWaits N n T0 = some (nI (rsG V (GV V) 0 0), T)) (h1 : ¬ a1 < 0) (hr : (∃ i, i < L ∧ a1 = nI i ∧ r = opA V i w) ∨ ((∀ i, i < L → a1 ≠ nI i) ∧ r = -1)) : f_X7_opening N n T0 a1 (nI w) = some (r, T) := by
  have hc2 := hv.1
  have hBB : BIG = 100000000 := rfl
  have hg2 : rsG V (GV V) 0 0 < BIG := hg.2
  unfold f_X7_opening
  rw [p_in N n T0 (lo' := 0) (hi' := 2) (lo := 0) (hi := 2) rfl rfl, bd2_s, b01_t (show (0 : Int32) ≤ nI w ∧ nI w ≤ 2 from in_rng (a := 0) (m := 2) (Nat.zero_le _) hw (by decide)), if_neg one_ne, if_neg h1, he, bd2_s, if_pos (show nI (rsG V (GV V) 0 0) < 100000000 from nI_lt (b := 100000000) hg2 (by decide))]
  refine loop3_run (I := fun i S x y z => S = T ∧ x = nI (PV V i).1 ∧ y = nI (PV V i).2 ∧ z = nI i ∧ ∀ u, u < i → a1 ≠ nI u) (k := L) ⟨rfl, rfl, rfl, rfl, fun u hu => by omega⟩ (by omega) ?_ ?_
  · intro i S x y z hi hI
    obtain ⟨hS, rfl, rfl, rfl, hne⟩ := hI
    rw [hS]
    clear hS
    have c := hW i hi
    have pg := (pth_gd hg i (fun u hu => hW u (by omega))).1
    have gs := gd_st pg c
    have q1 : (PV V i).2 ≤ tV V i := gs.1
    have q2 : tV V i ≤ 299 := gs.2.1
    have q3 : (PV V i).1 < cn V (tV V i) := gs.2.2.1
    have q4 : opG V (GV V) (PV V i).1 (tV V i) = rsG V (GV V) (PV V i).1 (PV V i).2 := gs.2.2.2.1
    have q5 : ∀ t, (PV V i).2 ≤ t → t < tV V i → opG V (GV V) (PV V i).1 t ≠ rsG V (GV V) (PV V i).1 (PV V i).2 := gs.2.2.2.2.1
    have q6 : (PV V i).1 < V.1.1 := c
    have q7 : (PV V (i + 1)).1 = cn V (tV V i) := rfl
    have q8 : (PV V (i + 1)).2 = eo V (PV V i).1 (tV V i) := rfl
    have hA : opA V i 2 = nI (eo V (PV V i).1 (tV V i)) := rfl
    have hA1 : opA V i 1 = nI (cn V (tV V i) - (PV V i).1) := rfl
    have hA0 : opA V i 0 = nI (tV V i) := rfl
    have q9 := rsG_le hv (PV V i).1 (PV V i).2
    rw [q7, q8]
    generalize (PV V i).1 = j at *
    generalize (PV V i).2 = e0 at *
    generalize tV V i = t0 at *
    have opn : ∀ t, t ≤ 299 → f_X7_opens N n T (nI j) (nI t) = some (nI (opG V (GV V) j t), T) := fun t ht => p_opens (d := V.1.1) hv hm hO ht q6 hc2 (TB_ok hv V.1.1) (fun p t _ b c => hR p t b c) hN
    have rst : f_X7_rest N n T (nI j) (nI e0) = some (nI (rsG V (GV V) j e0), T) := p_rest (G := GV V) hv hm (by omega) (by omega) (fun hp t ht => hR _ t hp ht)
    have e9 : t0 + V.2.2.1 + V.2.2.2.1 * (cn V t0 - j) + V.2.2.2.2.1 = eo V j t0 := rfl
    have run : ∀ (rc : St → Int32 → Int32 → Int32 → Option (Int32 × St)) (res : Option (Int32 × St)), (if nI i = a1 then (if nI w = 0 then some (nI t0, T) else if nI w = 1 then some (nI (cn V t0) - nI j, T) else some (nI (eo V j t0), T)) else rc T (nI (cn V t0)) (nI (eo V j t0)) (nI (i + 1))) = res → loop1 (fun (k13 : St → Int32 → Option (Int32 × St)) (S14 : St) (x15 : Int32) =>
              bd2 (f_X7_opens N n S14 (nI j) x15) fun r18 S17 =>
              bd2 (f_X7_rest N n S17 (nI j) (nI e0)) fun r21 S20 =>
              if r18 = r21 then
                bd2 (f_X7_cameBy N n S20 x15) fun r24 S23 =>
                if nI i = a1 then
                  if nI w = 0 then
                    some (x15, S23)
                  else
                    if nI w = 1 then
                      some (r24 - (nI j), S23)
                    else
                      bd2 (f_X7_endOf N n S23 x15 (r24 - (nI j))) fun r30 S29 =>
                      some (r30, S29)
                else
                  bd2 (f_X7_endOf N n S23 x15 (r24 - (nI j))) fun r27 S26 =>
                  rc S26 ((nI j) + (r24 - (nI j))) r27 ((nI i) + 1)
              else
                k13 S20 (x15 + 1)) N T (nI e0) = res := by
      intro rc res hres
      refine loop1_run (I := fun u S x => S = T ∧ x = nI (e0 + u)) (k := t0 - e0) ⟨rfl, rfl⟩ (by omega) ?_ ?_
      · intro u S x hu hI
        obtain ⟨hS, rfl⟩ := hI
        rw [hS]
        refine Or.inl ⟨T, nI (e0 + (u + 1)), ⟨rfl, rfl⟩, fun rc2 => ?_⟩
        have hle := opG_le hv (j := j) (t := e0 + u) (by omega)
        rw [opn _ (by omega), bd2_s, rst, bd2_s, if_neg (fun z => q5 (e0 + u) (by omega) (by omega) ((nI_eq (by omega) (by omega)).mp z)), nI_1]
        rfl
      · intro S x hI rc2
        obtain ⟨hS, rfl⟩ := hI
        rw [hS, show e0 + (t0 - e0) = t0 by omega, opn _ q2, bd2_s, rst, bd2_s, q4, if_pos rfl, p_came hv hm hO (by omega) hN, bd2_s, pk_sub (show j ≤ cn V t0 by omega), p_endM hm, bd2_s, bd2_s, e9, nI_add, nI_1, show j + (cn V t0 - j) = cn V t0 by omega, ← pk_sub (show j ≤ cn V t0 by omega)]
        exact hres
    by_cases ca : nI i = a1
    · refine Or.inr (fun rc => ?_)
      rw [hm.1, if_neg (show ¬ nI V.1.1 ≤ nI j from nI_ge q6 (by omega))]
      refine run rc _ ?_
      rw [if_pos ca]
      have hr2 : r = opA V i w := by
        rcases hr with ⟨i2, hi2, ei, er⟩ | ⟨hno, -⟩
        · have : i2 = i := (nI_eq (by omega) (by omega)).mp (ei.symm.trans ca.symm)
          rw [er, this]
        · exact absurd ca.symm (hno i hi)
      rw [hr2]
      rcases (show w = 0 ∨ w = 1 ∨ w = 2 by omega) with rfl | rfl | rfl
      · rw [if_pos (show nI 0 = 0 from rfl), hA0]
      · rw [if_neg (show ¬ nI 1 = 0 by decide), if_pos (show nI 1 = 1 from rfl), pk_sub (by omega), hA1]
      · rw [if_neg (show ¬ nI 2 = 0 by decide), if_neg (show ¬ nI 2 = 1 by decide), hA]
    · refine Or.inl ⟨T, nI (cn V t0), nI (eo V j t0), nI (i + 1), ⟨rfl, rfl, rfl, rfl, fun u hu => ?_⟩, fun rc => ?_⟩
      · by_cases q : u = i
        · rw [q]; exact fun z => ca z.symm
        · exact hne u (by omega)
      · rw [hm.1, if_neg (show ¬ nI V.1.1 ≤ nI j from nI_ge q6 (by omega))]
        refine run rc _ ?_
        rw [if_neg ca]
  · intro S x y z hI rc
    obtain ⟨hS, rfl, rfl, rfl, hne⟩ := hI
    rw [hS, hm.1, hE, if_pos (show nI V.1.1 ≤ nI V.1.1 from nI_le (Nat.le_refl _) (by omega))]
    rcases hr with ⟨i2, hi2, ei, -⟩ | ⟨-, er⟩
    · exact absurd ei (hne i2 hi2)
    · rw [er]
theorem p_opnM1 {N n : Nat} {T : St} {a1 a2 : Int32} (h : ¬ ((0 : Int32) ≤ a2 ∧ a2 ≤ 2)) : f_X7_opening N n T a1 a2 = some (-1, T) := by
  unfold f_X7_opening
  rw [p_in N n T (lo' := 0) (hi' := 2) (lo := 0) (hi := 2) rfl rfl, bd2_s, b01_f h, if_pos rfl]
theorem p_opnM2 {N n : Nat} {T : St} {a1 a2 : Int32} (h : (0 : Int32) ≤ a2 ∧ a2 ≤ 2) (h1 : a1 < 0) : f_X7_opening N n T a1 a2 = some (-1, T) := by
  unfold f_X7_opening
  rw [p_in N n T (lo' := 0) (hi' := 2) (lo := 0) (hi := 2) rfl rfl, bd2_s, b01_t h, if_neg one_ne, if_pos h1]
theorem p_opnM3 {N n x : Nat} {T T2 : St} {a1 a2 : Int32} (h : (0 : Int32) ≤ a2 ∧ a2 ≤ 2) (h1 : ¬ a1 < 0) (he : f_X7_bestWaits N n T = some (nI x, T2)) (hx : ¬ x < BIG) (hx2 : x ≤ BIG) : f_X7_opening N n T a1 a2 = some (-1, T2) := by
  have hBB : BIG = 100000000 := rfl
  unfold f_X7_opening
  rw [p_in N n T (lo' := 0) (hi' := 2) (lo := 0) (hi := 2) rfl rfl, bd2_s, b01_t h, if_neg one_ne, if_neg h1, he, bd2_s, if_neg (show ¬ nI x < 100000000 from nI_nlt (b := 100000000) (by omega) (by omega))]
theorem d_opening {N n : Nat} {S T : St} (a1 a2 : Int32) (hN : 1000 < N) (h : RV S T) : ∃ (r : Int32) (S2 T2 : St), f_X6_opening N n S a1 a2 = some (r, S2) ∧ f_X7_opening N n T a1 a2 = some (r, T2) ∧ RV S2 T2 ∧ Kp pV qV S S2 ∧ Kp pVM qVM T T2 := by
  obtain ⟨V, a, hv, hc, hm, ha, hp⟩ := id h
  obtain ⟨S2, e1, r1, p1, k1⟩ := p_plan (N := N) (n := n) hv hc hp hN
  obtain ⟨T2, e2, r2, o2, k2, t2⟩ := p_best (N := N) (n := n) hv hm (fun j hj => (ha j hj).1) (fun j hj => (ha j hj).2.1) (fun j hj => (ha j hj).2.2) hN
  have hr := rsG_le hv 0 0
  have rvT : RV S2 T := RV_best hv r1 p1 hm (Kp.rf _ _ _) ha
  have rvT2 : RV S2 T2 := RV_best hv r1 p1 r2 k2 ha
  have kk := k1.mono pPl_V (fun k z => rg_V (a := 15) (b := 19) (by decide) (by decide) z)
  have km := k2.mono (P' := pVM) (fun _ z => by cases z) q1718_V
  have k0 : Kp pVM qVM T T := Kp.rf _ _ _
  unfold f_X6_opening f_X1_openingOfBest
  rw [bd2_id, e1, bs_s, p_within, bd2_s]
  by_cases cw : (0 : Int32) ≤ a2 ∧ a2 ≤ 2
  · obtain ⟨w, -, hw, rfl⟩ := rng (a := 0) (m := 2) cw.1 cw.2 (by decide) (by decide)
    rcases p1.2 with ⟨hg, L, hL, e16, hE, hW⟩ | ⟨hg, e16⟩
    · rw [e16]
      have hW1 : ∀ u, u < L → (PV V u).1 < V.1.1 := fun u hu => (hW u hu).1
      by_cases ci : (0 : Int32) ≤ a1 ∧ a1 ≤ nI L - 1
      · have hL0 : 0 < L := by
          apply Classical.byContradiction
          intro z
          rw [show L = 0 by omega] at ci
          have h1 := (i_le _ _).mp ci.1
          have h2 := (i_le _ _).mp ci.2
          have z0 : (0 : Int32).toInt = 0 := by decide
          have z1 : (nI 0 - 1).toInt = -1 := by decide
          omega
        have ci2 := ci
        rw [nI_m1 hL0] at ci2
        obtain ⟨i, -, hi, rfl⟩ := rng (a := 0) (m := L - 1) ci2.1 ci2.2 (by omega) (by decide)
        have eM := p_opnM (r := opA V i w) hv r2 o2 t2 hg hL hW1 hE hw hN e2 (nI_pos (by omega)) (Or.inl ⟨i, by omega, rfl, rfl⟩)
        have hWi := hW i (by omega)
        rw [b01_t ci, if_neg one_ne, rd_nI (show i < 10 by omega) (by decide), rd_nI (show i < 10 by omega) (by decide), rd_nI (show i < 10 by omega) (by decide), bs_s, bs_s, bs_s, hWi.2.1, hWi.2.2.1, hWi.2.2.2]
        refine ⟨opA V i w, S2, T2, ?_, eM, rvT2, kk, km⟩
        rcases (show w = 0 ∨ w = 1 ∨ w = 2 by omega) with rfl | rfl | rfl
        · rw [if_pos (show nI 0 = 0 from rfl)]; rfl
        · rw [if_neg (show ¬ nI 1 = 0 by decide), if_pos (show nI 1 = 1 from rfl)]; rfl
        · rw [if_neg (show ¬ nI 2 = 0 by decide), if_neg (show ¬ nI 2 = 1 by decide), if_pos (show nI 2 = 2 from rfl)]; rfl
      · rw [b01_f ci, if_pos rfl]
        by_cases ca : a1 < 0
        · exact ⟨-1, S2, T, rfl, p_opnM2 cw ca, rvT, kk, k0⟩
        · refine ⟨-1, S2, T2, rfl, p_opnM hv r2 o2 t2 hg hL hW1 hE hw hN e2 ca (Or.inr ⟨fun i hi z => ci ?_, rfl⟩), rvT2, kk, km⟩
          rw [z, nI_m1 (by omega)]
          exact in_rng (a := 0) (Nat.zero_le _) (by omega) (by omega)
    · have ci : ¬ ((0 : Int32) ≤ a1 ∧ a1 ≤ S2.1 916 - 1) := by
        rw [e16]
        intro ci
        have h1 := (i_le _ _).mp ci.1
        have h2 := (i_le _ _).mp ci.2
        have z0 : (0 : Int32).toInt = 0 := by decide
        have z1 : ((0 : Int32) - 1).toInt = -1 := by decide
        omega
      have hx : ¬ rsG V (GV V) 0 0 < BIG := fun z => hg ⟨Nat.zero_le _, z⟩
      rw [b01_f ci, if_pos rfl]
      by_cases ca : a1 < 0
      · exact ⟨-1, S2, T, rfl, p_opnM2 cw ca, rvT, kk, k0⟩
      · exact ⟨-1, S2, T2, rfl, p_opnM3 cw ca e2 hx hr, rvT2, kk, km⟩
  · have n0 : ¬ a2 = 0 := fun z => cw (by rw [z]; decide)
    have n1 : ¬ a2 = 1 := fun z => cw (by rw [z]; decide)
    have n2 : ¬ a2 = 2 := fun z => cw (by rw [z]; decide)
    rw [if_neg n0, if_neg n1, if_neg n2]
    refine ⟨-1, S2, T, ?_, p_opnM1 cw, rvT, kk, k0⟩
    split <;> rfl
/-- the earliest way -/
def ao (V : RvT) : Nat → Nat → Nat → Nat → Int32
  | 0, _, _, s => nI s
  | d + 1, j, e, s => if j < V.1.1 then (if max e (V.1.2 j) ≤ 299 then ao V d (cn V (max e (V.1.2 j))) (eo V j (max e (V.1.2 j))) (s + Ww V j (max e (V.1.2 j))) else -1) else nI s
theorem ao_st {V : RvT} {d j e s : Nat} (h : ¬ j < V.1.1) : ao V d j e s = nI s := by
  cases d with
  | zero => rfl
  | succ d => exact if_neg h
theorem ao_no {V : RvT} {d j e s : Nat} (h : j < V.1.1) (h2 : ¬ max e (V.1.2 j) ≤ 299) : ao V (d + 1) j e s = -1 := by
  show (if j < V.1.1 then _ else _) = _
  rw [if_pos h, if_neg h2]
theorem ao_go {V : RvT} {d j e s : Nat} (h : j < V.1.1) (h2 : max e (V.1.2 j) ≤ 299) : ao V (d + 1) j e s = ao V d (cn V (max e (V.1.2 j))) (eo V j (max e (V.1.2 j))) (s + Ww V j (max e (V.1.2 j))) := by
  show (if j < V.1.1 then _ else _) = _
  rw [if_pos h, if_pos h2]
theorem mx_nI {e v : Nat} (he : e < 2 ^ 31) (hv : v < 2 ^ 31) : (if nI e < nI v then nI v else nI e) = nI (max e v) := by
  by_cases c : e < v
  · rw [if_pos (nI_lt c hv), Nat.max_eq_right (by omega)]
  · rw [if_neg (nI_nlt (by omega) he), Nat.max_eq_left (by omega)]
theorem p_ewC {N n : Nat} {V : RvT} {S : St} (hv : Vok V) (h : RVc V S) (hN : 1000 < N) : f_X1_earliestWaits N n S = some (ao V 10 0 0 0, S) := by
  have hc2 := hv.1
  unfold f_X1_earliestWaits
  refine loop4_run (I := fun i S2 x y z w => ∃ j e s, S2 = S ∧ x = nI j ∧ y = nI e ∧ z = nI s ∧ w = nI i ∧ i ≤ j ∧ j ≤ V.1.1 ∧ e ≤ 539 ∧ ao V (10 - i) j e s = ao V 10 0 0 0) (k := 10) ⟨0, 0, 0, rfl, rfl, rfl, rfl, rfl, by omega, by omega, by omega, rfl⟩ (by omega) ?_ ?_
  · intro i S2 x y z w hi hI
    obtain ⟨j, e, s, hS, rfl, rfl, rfl, rfl, i1, i2, i3, i4⟩ := hI
    rw [hS]
    obtain ⟨d, hd⟩ : ∃ d, 10 - i = d + 1 := ⟨9 - i, by omega⟩
    rw [hd] at i4
    by_cases c : j < V.1.1
    · have hs := hv.2.2.1 j c
      have pre : ∀ (rc : Option (Int32 × St)) (F : Int32 → Option (Int32 × St)), (if (10 : Int32) ≤ nI i then rc else if S.1 910 ≤ nI j then rc else (rd (S.2 10) 10 (nI j)).bind fun x8 => F (if nI e < x8 then x8 else nI e)) = F (nI (max e (V.1.2 j))) := by
        intro rc F
        rw [if_neg (show ¬ (10 : Int32) ≤ nI i from nI_ge (b := 10) hi (by decide)), h.1, if_neg (show ¬ nI V.1.1 ≤ nI j from nI_ge c (by omega)), rd_nI (show j < 10 by omega) (by decide), bs_s, h.2.1 j c, mx_nI (by omega) (by omega)]
      by_cases c2 : max e (V.1.2 j) ≤ 299
      · rw [ao_go c c2] at i4
        have hj : j < cn V (max e (V.1.2 j)) := (cn_iff hv c).mp (Nat.le_max_right _ _)
        refine Or.inl ⟨S, nI (cn V (max e (V.1.2 j))), nI (eo V j (max e (V.1.2 j))), nI (s + Ww V j (max e (V.1.2 j))), nI (i + 1), ⟨cn V (max e (V.1.2 j)), eo V j (max e (V.1.2 j)), s + Ww V j (max e (V.1.2 j)), rfl, rfl, rfl, rfl, rfl, by omega, cn_le V _, (eo_le hv c2).2, by rw [show 10 - (i + 1) = d by omega]; exact i4⟩, fun rc => ?_⟩
        refine (pre _ (fun t => if t < 300 then bd2 (f_X1_waitsOfOpening N n S (nI j) t) fun r10 S9 => bd2 (f_X1_endOfOpening N n S9 (nI j) t) fun r13 S12 => (rd (S12.2 12) 300 t).bind fun x15 => rc S12 x15 r13 (nI s + r10) (nI i + 1) else some (-1, S))).trans ?_
        rw [if_pos (show nI (max e (V.1.2 j)) < 300 from nI_lt (b := 300) (by omega) (by decide)), p_wwC hv h (by omega) (by omega), bd2_s, p_endC h (by omega) (by omega), bd2_s, rd_nI (by omega) (by decide), bs_s, h.2.2.2.1 _ (by omega), nI_add, nI_1]
      · rw [ao_no c c2] at i4
        refine Or.inr (fun rc => ?_)
        refine (pre _ (fun t => if t < 300 then bd2 (f_X1_waitsOfOpening N n S (nI j) t) fun r10 S9 => bd2 (f_X1_endOfOpening N n S9 (nI j) t) fun r13 S12 => (rd (S12.2 12) 300 t).bind fun x15 => rc S12 x15 r13 (nI s + r10) (nI i + 1) else some (-1, S))).trans ?_
        rw [if_neg (show ¬ nI (max e (V.1.2 j)) < 300 from nI_nlt (b := 300) (by omega) (by omega)), ← i4]
    · rw [ao_st c] at i4
      refine Or.inr (fun rc => ?_)
      rw [if_neg (show ¬ (10 : Int32) ≤ nI i from nI_ge (b := 10) hi (by decide)), h.1, if_pos (show nI V.1.1 ≤ nI j from nI_le (by omega) (by omega)), ← i4]
  · intro S2 x y z w hI rc
    obtain ⟨j, e, s, hS, rfl, rfl, rfl, rfl, i1, i2, i3, i4⟩ := hI
    rw [hS, if_pos (show (10 : Int32) ≤ nI 10 by decide), ← i4]
    rfl
theorem p_ewM {N n : Nat} {V : RvT} {T0 T : St} (hv : Vok V) (hm : RVm V T) (hO : Ord V T) (he : f_X7_sorts N n T0 = some T) (hN : 1000 < N) : f_X7_atOnce N n T0 = some (ao V 10 0 0 0, T) := by
  have hc2 := hv.1
  unfold f_X7_atOnce
  rw [he, bs_s]
  refine loop3_run (I := fun i S2 x y z => ∃ j e s, S2 = T ∧ x = nI j ∧ y = nI e ∧ z = nI s ∧ i ≤ j ∧ j ≤ V.1.1 ∧ e ≤ 539 ∧ ao V (10 - i) j e s = ao V 10 0 0 0) (k := 10) ⟨0, 0, 0, rfl, rfl, rfl, rfl, by omega, by omega, by omega, rfl⟩ (by omega) ?_ ?_
  · intro i S2 x y z hi hI
    obtain ⟨j, e, s, hS, rfl, rfl, rfl, i1, i2, i3, i4⟩ := hI
    rw [hS]
    obtain ⟨d, hd⟩ : ∃ d, 10 - i = d + 1 := ⟨9 - i, by omega⟩
    rw [hd] at i4
    by_cases c : j < V.1.1
    · have hs := hv.2.2.1 j c
      have pre : ∀ (rc : Option (Int32 × St)) (F : St → Int32 → Option (Int32 × St)), (if T.1 7 ≤ nI j then rc else (rd (T.2 17) 10 (nI j)).bind fun x10 => lett F fun j11 => if nI e ≤ x10 then (rd (T.2 17) 10 (nI j)).bind fun x24 => j11 T x24 else j11 T (nI e)) = F T (nI (max e (V.1.2 j))) := by
        intro rc F
        rw [hm.1, if_neg (show ¬ nI V.1.1 ≤ nI j from nI_ge c (by omega)), rd_nI (show j < 10 by omega) (by decide), bs_s, lett_s, hO j c, bs_s]
        by_cases q : e ≤ V.1.2 j
        · rw [if_pos (nI_le q (by omega)), Nat.max_eq_right q]
        · rw [if_neg (nI_ge (by omega) (by omega)), Nat.max_eq_left (by omega)]
      by_cases c2 : max e (V.1.2 j) ≤ 299
      · rw [ao_go c c2] at i4
        have hj : j < cn V (max e (V.1.2 j)) := (cn_iff hv c).mp (Nat.le_max_right _ _)
        refine Or.inl ⟨T, nI (cn V (max e (V.1.2 j))), nI (eo V j (max e (V.1.2 j))), nI (s + Ww V j (max e (V.1.2 j))), ⟨cn V (max e (V.1.2 j)), eo V j (max e (V.1.2 j)), s + Ww V j (max e (V.1.2 j)), rfl, rfl, rfl, rfl, by omega, cn_le V _, (eo_le hv c2).2, by rw [show 10 - (i + 1) = d by omega]; exact i4⟩, fun rc => ?_⟩
        rw [pre]
        generalize max e (V.1.2 j) = t at *
        have e9 : t + V.2.2.1 + V.2.2.2.1 * (cn V t - j) + V.2.2.2.2.1 = eo V j t := rfl
        rw [if_pos (show nI t ≤ 299 from nI_le (b := 299) c2 (by decide)), p_came hv hm hO (by omega) hN, bd2_s, p_wwM hv hm hO (by omega) (by omega) hN, bd2_s, pk_sub (show j ≤ cn V t by omega), p_endM hm, bd2_s, e9, nI_add, nI_add, show j + (cn V t - j) = cn V t by omega]
      · rw [ao_no c c2] at i4
        refine Or.inr (fun rc => ?_)
        rw [pre, if_neg (show ¬ nI (max e (V.1.2 j)) ≤ 299 from nI_ge (a := 299) (by omega) (by omega)), ← i4]
    · rw [ao_st c] at i4
      refine Or.inr (fun rc => ?_)
      rw [hm.1, if_pos (show nI V.1.1 ≤ nI j from nI_le (by omega) (by omega)), ← i4]
  · intro S2 x y z hI rc
    obtain ⟨j, e, s, hS, rfl, rfl, rfl, i1, i2, i3, i4⟩ := hI
    rw [hS, hm.1, if_pos (show nI V.1.1 ≤ nI j from nI_le (by omega) (by omega)), ← i4]
    rfl
theorem d_atOnce {N n : Nat} {S T : St} (hN : 1000 < N) (h : RV S T) : ∃ (r : Int32) (S2 T2 : St), f_X6_atOnce N n S = some (r, S2) ∧ f_X7_atOnce N n T = some (r, T2) ∧ RV S2 T2 ∧ Kp pV qV S S2 ∧ Kp pVM qVM T T2 := by
  obtain ⟨V, a, hv, hc, hm, ha, hp⟩ := id h
  obtain ⟨T1, e1, k1, o1⟩ := p_sorts (N := N) (n := n) hm.1 hv.1 (fun j hj => (ha j hj).1) (fun j hj => (ha j hj).2.1) hN
  have hm1 : RVm V T1 := RVm_kp hm k1 ⟨rfl, rfl⟩ ⟨rfl, rfl⟩
  have hO1 : Ord V T1 := fun j hj => by rw [o1 j hj, (ha j hj).2.2]
  refine ⟨ao V 10 0 0 0, S, T1, ?_, p_ewM hv hm1 hO1 e1 hN, ⟨V, a, hv, hc, hm1, ?_, hp⟩, Kp.rf _ _ _, k1.mono (fun _ z => by cases z) (fun k z => by rw [Nat.eq_of_beq_eq_true z]; rfl)⟩
  · unfold f_X6_atOnce
    rw [bd2_id]
    exact p_ewC hv hc hN
  · rw [k1.2 6 rfl]
    exact ha
