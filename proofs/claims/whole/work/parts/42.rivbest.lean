-- RIVER: the reference's least waits
theorem RVm_kp {V : RvT} {T T2 : St} {P Q : Nat → Bool} (h : RVm V T) (k : Kp P Q T T2) (hP : P 7 = false ∧ P 9 = false) (hQ : Q 7 = false ∧ Q 8 = false) : RVm V T2 := by
  unfold RVm at h ⊢
  rw [k.1 7 hP.1, k.1 9 hP.2, k.2 7 hQ.1, k.2 8 hQ.2]
  exact h
theorem ix301b (p e : Nat) : 301 * nI p + nI e = nI (301 * p + e) := by
  rw [show 301 * nI p = nI (301 * p) from pk_mul 301 p, nI_add]
theorem p_rest {N n p e : Nat} {V : RvT} {G : Nat → Nat → Nat} {T : St} (hv : Vok V) (h : RVm V T) (hp : p ≤ V.1.1) (he : e ≤ 1000) (hR : p < V.1.1 → ∀ t, t ≤ 299 → T.2 18 (301 * p + t) = nI (G p t)) : f_X7_rest N n T (nI p) (nI e) = some (nI (rsG V G p e), T) := by
  have hc2 := hv.1
  unfold f_X7_rest rsG
  rw [h.1]
  by_cases c : p = V.1.1
  · rw [if_pos c, if_pos (show nI p = nI V.1.1 by rw [c])]
    rfl
  · rw [if_neg c, if_neg (show ¬ nI p = nI V.1.1 from fun z => c ((nI_eq (by omega) (by omega)).mp z))]
    by_cases d : e ≤ 299
    · rw [if_pos d, if_pos (show nI e ≤ 299 from nI_le (b := 299) d (by decide)), ix301b, rd_nI (by omega) (by decide), bs_s, hR (by omega) e d]
    · rw [if_neg d, if_neg (show ¬ nI e ≤ 299 from nI_ge (a := 299) (by omega) (by omega))]
      rfl
theorem p_opens {N n j t d : Nat} {V : RvT} {G : Nat → Nat → Nat} {T : St} (hv : Vok V) (h : RVm V T) (hO : Ord V T) (ht : t ≤ 299) (hj : j < V.1.1) (hd : d ≤ 10) (hG : ∀ p e, okv d (G p e)) (hR : ∀ p t, j < p → p < V.1.1 → t ≤ 299 → T.2 18 (301 * p + t) = nI (G p t)) (hN : 1000 < N) : f_X7_opens N n T (nI j) (nI t) = some (nI (opG V G j t), T) := by
  have hc2 := hv.1
  have hc := cn_le V t
  unfold f_X7_opens opG
  rw [p_came hv h hO (by omega) hN, bd2_s]
  by_cases c : j < cn V t
  · have heo := (eo_le hv (j := j) ht).2
    rw [if_pos c, if_pos (show nI j < nI (cn V t) from nI_lt c (by omega)), pk_sub (by omega), p_endM h, bd2_s]
    have e9 : t + V.2.2.1 + V.2.2.2.1 * (cn V t - j) + V.2.2.2.2.1 = eo V j t := rfl
    rw [e9, p_rest (G := G) hv h hc (by omega) (fun hp t ht => hR _ t c hp ht), bd2_s]
    have hr : rsG V G (cn V t) (eo V j t) ≤ BIG := by
      unfold rsG
      split
      · decide
      · split
        · exact okv_le (hG _ _) hd
        · exact Nat.le_refl _
    have hBB : BIG = 100000000 := rfl
    by_cases b : rsG V G (cn V t) (eo V j t) < BIG
    · rw [if_pos b, if_pos (show nI (rsG V G (cn V t) (eo V j t)) < 100000000 from nI_lt (b := 100000000) b (by decide)), p_wwM hv h hO (by omega) (by omega) hN, bd2_s, nI_add]
    · rw [if_neg b, if_neg (show ¬ nI (rsG V G (cn V t) (eo V j t)) < 100000000 from nI_nlt (b := 100000000) (by omega) (by omega))]
      rfl
  · rw [if_neg c, if_neg (show ¬ nI j < nI (cn V t) from nI_nlt (by omega) (by omega))]
    rfl
def q1718 (k : Nat) : Bool := Nat.ble 17 k && Nat.ble k 18
theorem p_rowM {N n j d : Nat} {V : RvT} {G : Nat → Nat → Nat} {T : St} {k4 : St → Int32 → Option (Int32 × St)} {z : Int32} (hv : Vok V) (h : RVm V T) (hO : Ord V T) (hj : j < V.1.1) (hd : d ≤ 9) (hG : ∀ p e, okv d (G p e)) (hR : ∀ p t, j < p → p < V.1.1 → t ≤ 299 → T.2 18 (301 * p + t) = nI (G p t)) (hN : 1000 < N) : ∃ T2, loop1 (fun (k11 : St → Int32 → Option (Int32 × St)) (S12 : St) (x13 : Int32) =>
        if x13 < 0 then
          k4 S12 z
        else
          lett (fun (S16 : St) (x17 : Int32) =>
            bd2 (f_X7_opens N n S16 (nI j) x13) fun r20 S19 =>
            if x17 < r20 then
              (wr S19 18 3311 ((301 * (nI j)) + x13) x17).bind fun S22 =>
              k11 S22 (x13 + (-1))
            else
              (wr S19 18 3311 ((301 * (nI j)) + x13) r20).bind fun S23 =>
              k11 S23 (x13 + (-1))) fun j15 =>
          if x13 = 299 then
            j15 S12 100000000
          else
            (rd (S12.2 18) 3311 (((301 * (nI j)) + x13) + 1)).bind fun x24 =>
            j15 S12 x24) N T 299 = k4 T2 z ∧ Kp pNo (q1 18) T T2 ∧ (∀ t, t ≤ 299 → T2.2 18 (301 * j + t) = nI (mnr (opG V G j) (300 - t))) ∧ ∀ p t, p ≠ j → t ≤ 299 → T2.2 18 (301 * p + t) = T.2 18 (301 * p + t) := by
  have hc2 := hv.1
  have hg : ∀ t, t ≤ 299 → okv 10 (opG V G j t) := fun t ht => okv_mono (opG_ok hv ht hG) (by omega)
  have hBB : BIG = 100000000 := rfl
  have hm : ∀ k, mnr (opG V G j) k ≤ BIG := fun k => okv_le (mnr_ok hg k) (by omega)
  refine loop1_q (Q := fun o => ∃ T2, o = k4 T2 z ∧ Kp pNo (q1 18) T T2 ∧ (∀ t, t ≤ 299 → T2.2 18 (301 * j + t) = nI (mnr (opG V G j) (300 - t))) ∧ ∀ p t, p ≠ j → t ≤ 299 → T2.2 18 (301 * p + t) = T.2 18 (301 * p + t)) (I := fun u T2 x => x = nI (300 - u) - 1 ∧ Kp pNo (q1 18) T T2 ∧ (∀ t, 300 ≤ t + u → t ≤ 299 → T2.2 18 (301 * j + t) = nI (mnr (opG V G j) (300 - t))) ∧ ∀ p t, p ≠ j → t ≤ 299 → T2.2 18 (301 * p + t) = T.2 18 (301 * p + t)) 300 ?_ ?_ 300 0 N T _ (by omega) ⟨by decide, Kp.rf _ _ _, fun t a b => by omega, fun p t _ _ => rfl⟩ (by omega)
  · intro u T2 x hu hI rc
    obtain ⟨rfl, k, b1, b2⟩ := hI
    have hT2 : RVm V T2 := RVm_kp h k ⟨rfl, rfl⟩ ⟨rfl, rfl⟩
    have hO2 : Ord V T2 := fun i hi => by rw [k.2 17 rfl]; exact hO i hi
    have hgt := okv_le (hg (299 - u) (by omega)) (by omega)
    have hmu := hm u
    rw [show nI (300 - u) - 1 = nI (299 - u) by rw [nI_m1 (by omega)]; congr 1; omega, if_neg (nI_pos (show 299 - u < 2 ^ 31 by omega)), lett_s]
    dsimp only
    have key : ∀ x, x = nI (mnr (opG V G j) u) → ∃ (T3 : St) (y : Int32), (y = nI (300 - (u + 1)) - 1 ∧ Kp pNo (q1 18) T T3 ∧ (∀ t, 300 ≤ t + (u + 1) → t ≤ 299 → T3.2 18 (301 * j + t) = nI (mnr (opG V G j) (300 - t))) ∧ ∀ p t, p ≠ j → t ≤ 299 → T3.2 18 (301 * p + t) = T.2 18 (301 * p + t)) ∧ (bd2 (f_X7_opens N n T2 (nI j) (nI (299 - u))) fun r20 S19 =>
            if x < r20 then
              (wr S19 18 3311 ((301 * (nI j)) + nI (299 - u)) x).bind fun S22 =>
              rc S22 (nI (299 - u) + (-1))
            else
              (wr S19 18 3311 ((301 * (nI j)) + nI (299 - u)) r20).bind fun S23 =>
              rc S23 (nI (299 - u) + (-1))) = rc T3 y := by
      intro x hx
      subst hx
      rw [p_opens hv hT2 hO2 (by omega) hj (by omega) hG (fun p t a b c => (b2 p t (by omega) c).trans (hR p t a b c)) hN, bd2_s, ix301b, wr_nI (by omega) (by decide), bs_s, wr_nI (by omega) (by decide), bs_s, m1_eq]
      have post : ∀ w, w = mnr (opG V G j) (u + 1) → (nI (299 - u) - 1 = nI (300 - (u + 1)) - 1 ∧ Kp pNo (q1 18) T (pA T2 18 (upd (T2.2 18) (301 * j + (299 - u)) (nI w))) ∧ (∀ t, 300 ≤ t + (u + 1) → t ≤ 299 → (pA T2 18 (upd (T2.2 18) (301 * j + (299 - u)) (nI w))).2 18 (301 * j + t) = nI (mnr (opG V G j) (300 - t))) ∧ ∀ p t, p ≠ j → t ≤ 299 → (pA T2 18 (upd (T2.2 18) (301 * j + (299 - u)) (nI w))).2 18 (301 * p + t) = T.2 18 (301 * p + t)) := by
        intro w hw
        subst hw
        refine ⟨by rw [show 300 - (u + 1) = 299 - u by omega], k.pA _ rfl, fun t a b => ?_, fun p t a b => ?_⟩
        · show upd (T2.2 18) (301 * j + (299 - u)) _ (301 * j + t) = _
          by_cases q : t = 299 - u
          · rw [q, upd_at, show 300 - (299 - u) = u + 1 by omega]
          · rw [upd_ne _ _ (by omega)]; exact b1 t (by omega) b
        · show upd (T2.2 18) (301 * j + (299 - u)) _ (301 * p + t) = _
          rw [upd_ne _ _ (by omega)]; exact b2 p t a b
      by_cases b : mnr (opG V G j) u < opG V G j (299 - u)
      · rw [if_pos (show nI (mnr (opG V G j) u) < nI (opG V G j (299 - u)) from nI_lt b (by omega))]
        exact ⟨_, _, post _ (mnr_p b).1.symm, rfl⟩
      · rw [if_neg (show ¬ nI (mnr (opG V G j) u) < nI (opG V G j (299 - u)) from nI_nlt (by omega) (by omega))]
        exact ⟨_, _, post _ (mnr_n b).1.symm, rfl⟩
    refine Or.inl ?_
    by_cases c : u = 0
    · subst c
      rw [if_pos (show nI (299 - 0) = 299 by decide)]
      exact key _ rfl
    · rw [if_neg (show ¬ nI (299 - u) = 299 from fun q => c (by have := (nI_eq (a := 299 - u) (b := 299) (by omega) (by decide)).mp q; omega)), ix301b, nI_1, rd_nI (by omega) (by decide), bs_s, ← ix301b]
      refine key _ ?_
      rw [show 301 * j + (299 - u) + 1 = 301 * j + (300 - u) by omega, b1 (300 - u) (by omega) (by omega), show 300 - (300 - u) = u by omega]
  · intro T2 x hI rc
    obtain ⟨rfl, k, b1, b2⟩ := hI
    rw [if_pos (show nI (300 - 300) - 1 < 0 by decide)]
    exact ⟨T2, rfl, k, fun t ht => b1 t (by omega) ht, b2⟩
theorem p_best {N n : Nat} {V : RvT} {a : Nat → Nat} {T : St} (hv : Vok V) (h : RVm V T) (ha : ∀ j, j < V.1.1 → T.2 6 j = nI (a j)) (hb : ∀ j, j < V.1.1 → a j ≤ 239) (hs : ∀ j, j < V.1.1 → V.1.2 j = srt a V.1.1 j) (hN : 1000 < N) : ∃ T2, f_X7_bestWaits N n T = some (nI (rsG V (GV V) 0 0), T2) ∧ RVm V T2 ∧ Ord V T2 ∧ Kp pNo q1718 T T2 ∧ ∀ p t, p < V.1.1 → t ≤ 299 → T2.2 18 (301 * p + t) = nI (GV V p t) := by
  have hc2 := hv.1
  obtain ⟨T1, e1, k1, o1⟩ := p_sorts (N := N) (n := n) h.1 hc2 ha hb hN
  unfold f_X7_bestWaits
  rw [e1, bs_s]
  have h1 : RVm V T1 := RVm_kp h k1 ⟨rfl, rfl⟩ ⟨rfl, rfl⟩
  have hO1 : Ord V T1 := fun j hj => by rw [o1 j hj, hs j hj]
  rw [h1.1]
  refine loop1_q (Q := fun o => ∃ T2, o = some (nI (rsG V (GV V) 0 0), T2) ∧ RVm V T2 ∧ Ord V T2 ∧ Kp pNo q1718 T T2 ∧ ∀ p t, p < V.1.1 → t ≤ 299 → T2.2 18 (301 * p + t) = nI (GV V p t)) (I := fun d T2 x => x = nI (V.1.1 - d) - 1 ∧ Kp pNo (q1 18) T1 T2 ∧ ∀ p t, V.1.1 ≤ p + d → p < V.1.1 → t ≤ 299 → T2.2 18 (301 * p + t) = nI (TB V d p t)) V.1.1 ?_ ?_ V.1.1 0 N T1 _ (by omega) ⟨rfl, Kp.rf _ _ _, fun p e a b => by omega⟩ (by omega)
  · intro d T2 x hd hI rc
    obtain ⟨rfl, k2, b⟩ := hI
    obtain ⟨j, hj⟩ : ∃ j, V.1.1 = j + (d + 1) := ⟨V.1.1 - (d + 1), by omega⟩
    have ej : nI (V.1.1 - d) - 1 = nI j := by
      rw [nI_m1 (by omega)]
      congr 1
      omega
    have hT2 : RVm V T2 := RVm_kp h1 k2 ⟨rfl, rfl⟩ ⟨rfl, rfl⟩
    have hO2 : Ord V T2 := fun i hi => by rw [k2.2 17 rfl]; exact hO1 i hi
    rw [ej, if_neg (nI_pos (show j < 2 ^ 31 by omega))]
    obtain ⟨T3, e3, k3, r1, r2⟩ := p_rowM (N := N) (n := n) (k4 := rc) (z := nI j + (-1)) hv hT2 hO2 (show j < V.1.1 by omega) (show d ≤ 9 by omega) (TB_ok hv d) (fun p t a1 a2 a3 => b p t (by omega) a2 a3) hN
    rw [e3]
    refine Or.inl ⟨T3, nI j + (-1), ⟨?_, k2.tr k3, fun p t a1 a2 a3 => ?_⟩, rfl⟩
    · rw [m1_eq, show V.1.1 - (d + 1) = j by omega]
    · by_cases q : p = j
      · subst q
        rw [r1 t a3]
        show _ = nI (if p + (d + 1) = V.1.1 then _ else _)
        rw [if_pos hj.symm]
      · rw [r2 p t q a3, b p t (by omega) a2 a3, TB_st (d := d) (d + 1) (by omega) p t (by omega)]
  · intro T2 x hI rc
    obtain ⟨rfl, k2, b⟩ := hI
    have hT2 : RVm V T2 := RVm_kp h1 k2 ⟨rfl, rfl⟩ ⟨rfl, rfl⟩
    have hO2 : Ord V T2 := fun i hi => by rw [k2.2 17 rfl]; exact hO1 i hi
    have hR := fun p t (a1 : p < V.1.1) a2 => b p t (by omega) a1 a2
    rw [Nat.sub_self, if_pos (show nI 0 - 1 < 0 by decide)]
    have er := p_rest (N := N) (n := n) (p := 0) (e := 0) (G := GV V) hv hT2 (Nat.zero_le _) (by omega) (fun hp t ht => hR 0 t hp ht)
    have er2 : f_X7_rest N n T2 0 0 = some (nI (rsG V (GV V) 0 0), T2) := er
    rw [er2, bd2_s]
    refine ⟨T2, rfl, hT2, hO2, (k1.mono (fun _ z => by cases z) (fun k z => by rw [Nat.eq_of_beq_eq_true z]; rfl)).tr (k2.mono (fun _ z => by cases z) (fun k z => by rw [Nat.eq_of_beq_eq_true z]; rfl)), hR⟩
