-- RIVER: the class's plan, whole
abbrev GV (V : RvT) : Nat → Nat → Nat := TB V V.1.1
abbrev PV (V : RvT) (i : Nat) : Nat × Nat := pth V (TB V V.1.1) i
abbrev tV (V : RvT) (i : Nat) : Nat := tt V (TB V V.1.1) (pth V (TB V V.1.1) i)
def Wlk (V : RvT) (S : St) (u : Nat) : Prop := (PV V u).1 < V.1.1 ∧ S.2 17 u = nI (tV V u) ∧ S.2 18 u = nI (cn V (tV V u) - (PV V u).1) ∧ S.2 19 u = nI (PV V (u + 1)).2
def WalkOk (V : RvT) (S : St) : Prop := ∃ L, L ≤ 10 ∧ S.1 916 = nI L ∧ (PV V L).1 = V.1.1 ∧ ∀ u, u < L → Wlk V S u
def PlanOk (V : RvT) (S : St) : Prop := S.1 917 = cl (rsG V (GV V) 0 0) ∧ ((gd V (0, 0) ∧ WalkOk V S) ∨ (¬ gd V (0, 0) ∧ S.1 916 = 0))
def p916 (k : Nat) : Bool := Nat.beq k 916
def q1719 (k : Nat) : Bool := Nat.ble 17 k && Nat.ble k 19
theorem p_walk {N n : Nat} {V : RvT} {S : St} (hv : Vok V) (h : RVc V S) (hR : ∀ p e, p < V.1.1 → e ≤ 300 → S.2 16 (p * 301 + e) = ch (opG V (GV V) p) (300 - e)) (hN : 1000 < N) : ∃ S2, f_X1_walkBest N n S = some S2 ∧ Kp p916 q1719 S S2 ∧ ((gd V (0, 0) ∧ WalkOk V S2) ∨ (¬ gd V (0, 0) ∧ S2.1 916 = 0)) := by
  have hc2 := hv.1
  unfold f_X1_walkBest
  rw [lett_s]
  have k0 : Kp p916 q1719 S (pF S 916 0) := (Kp.rf _ _ _).pF _ rfl
  by_cases hg : gd V (0, 0)
  · refine loop3_q (Q := fun o => ∃ S2, o = some S2 ∧ Kp p916 q1719 S S2 ∧ ((gd V (0, 0) ∧ WalkOk V S2) ∨ (¬ gd V (0, 0) ∧ S2.1 916 = 0))) (I := fun i S2 x y z => x = nI (PV V i).1 ∧ y = nI (PV V i).2 ∧ z = nI i ∧ Kp p916 q1719 S S2 ∧ S2.1 916 = nI i ∧ ∀ u, u < i → Wlk V S2 u) 10 ?_ ?_ 10 0 N _ _ _ _ (by omega) ⟨rfl, rfl, rfl, k0, rfl, fun u hu => by omega⟩ (by omega)
    · intro i S2 x y z hi hI rc
      obtain ⟨rfl, rfl, rfl, k, e16, hw⟩ := hI
      have pg := pth_gd hg i (fun u hu => (hw u hu).1)
      have hS2 : RVc V S2 := RVc_kp h k ⟨rfl, rfl, rfl, rfl, rfl, rfl⟩ ⟨rfl, rfl, rfl, rfl, rfl⟩
      have hp1 := pg.1.1
      rw [if_neg (show ¬ (10 : Int32) ≤ nI i from nI_ge (b := 10) hi (by decide)), hS2.1]
      by_cases c : (PV V i).1 < V.1.1
      · have gi := gd_in pg.1 c
        have gs := gd_st pg.1 c
        have et : tt V (TB V V.1.1) (pth V (TB V V.1.1) i) = tV V i := rfl
        rw [et] at gs
        have htn : tV V i ≤ 299 := gs.2.1
        have hch : S2.2 16 ((PV V i).1 * 301 + min (PV V i).2 300) = nI (tV V i) := by
          rw [k.2 16 rfl, Nat.min_eq_left (show (PV V i).2 ≤ 300 from Nat.le_trans gi.1 (by decide)), hR _ _ c (Nat.le_trans gi.1 (by decide))]
          unfold ch
          rw [if_pos gi.2.2]
          rfl
        have hc3 := cn_le V (tV V i)
        have hcn : (PV V i).1 < cn V (tV V i) := gs.2.2.1
        have hne : ¬ nI (tV V i) = -1 := fun z => by
          have := nI_pos (n := tV V i) (by omega)
          rw [z] at this
          exact this (by decide)
        have gi1 : (PV V i).2 ≤ 299 := gi.1
        rw [if_neg (show ¬ nI V.1.1 ≤ nI (PV V i).1 from nI_ge c (by omega)), min300 (by omega), ix301, rd_nI (show (PV V i).1 * 301 + min (PV V i).2 300 < 3010 by omega) (by decide), bs_s, hch, if_neg hne, wr_nI hi (by decide), bs_s]
        have t12 : ∀ f, (pA S2 17 f).2 12 = S2.2 12 := fun _ => rfl
        rw [t12, rd_nI (show tV V i < 300 by omega) (by decide), bs_s, hS2.2.2.2.1 _ (by omega), pk_sub (by omega), wr_nI hi (by decide), bs_s]
        have t18 : ∀ f, (pA S2 17 f).2 18 = S2.2 18 := fun _ => rfl
        rw [t18]
        generalize eS3 : pA (pA S2 17 (upd (S2.2 17) i (nI (tV V i)))) 18 (upd (S2.2 18) i (nI (cn V (tV V i) - (PV V i).1))) = S3
        have k3 : Kp p916 q1719 S2 S3 := by
          subst eS3
          exact ((Kp.rf _ _ _).pA _ rfl).pA _ rfl
        have hS3 : RVc V S3 := RVc_kp hS2 k3 ⟨rfl, rfl, rfl, rfl, rfl, rfl⟩ ⟨rfl, rfl, rfl, rfl, rfl⟩
        have z19 : S3.2 19 = S2.2 19 := by
          subst eS3
          rfl
        rw [p_endC hS3 (by omega) (by omega), bd2_s, wr_nI hi (by decide), bs_s, lett_s, z19]
        generalize eS4 : pF (pA S3 19 (upd (S2.2 19) i (nI (eo V (PV V i).1 (tV V i))))) 916 (nI i + 1) = S4
        have k4 : Kp p916 q1719 S3 S4 := by
          subst eS4
          exact ((Kp.rf _ _ _).pA _ rfl).pF _ rfl
        have hS4 : RVc V S4 := RVc_kp hS3 k4 ⟨rfl, rfl, rfl, rfl, rfl, rfl⟩ ⟨rfl, rfl, rfl, rfl, rfl⟩
        have w19 : S4.2 19 i = nI (eo V (PV V i).1 (tV V i)) := by
          subst eS4
          show upd (S2.2 19) i _ i = _
          exact upd_at _ _ _
        rw [rd_nI hi (by decide), bs_s, w19, rd_nI (show tV V i < 300 by omega) (by decide), bs_s, hS4.2.2.2.1 _ (by omega), nI_1]
        refine Or.inl ⟨S4, nI (PV V (i + 1)).1, nI (PV V (i + 1)).2, nI (i + 1), ⟨rfl, rfl, rfl, (k.tr k3).tr k4, ?_, fun u hu => ?_⟩, rfl⟩
        · subst eS4
          show nI i + 1 = _
          rw [nI_1]
        · unfold Wlk
          subst eS4
          subst eS3
          by_cases q : u = i
          · subst q
            refine ⟨c, ?_, ?_, ?_⟩
            · show upd (S2.2 17) u _ u = _
              exact upd_at _ _ _
            · show upd (S2.2 18) u _ u = _
              exact upd_at _ _ _
            · exact w19
          · have hu2 := hw u (by omega)
            refine ⟨hu2.1, ?_, ?_, ?_⟩
            · show upd (S2.2 17) i _ u = _
              rw [upd_ne _ _ q]; exact hu2.2.1
            · show upd (S2.2 18) i _ u = _
              rw [upd_ne _ _ q]; exact hu2.2.2.1
            · show upd (S2.2 19) i _ u = _
              rw [upd_ne _ _ q]; exact hu2.2.2.2
      · rw [if_pos (show nI V.1.1 ≤ nI (PV V i).1 from nI_le (by omega) (by have : (PV V i).1 ≤ V.1.1 := hp1; omega))]
        have hp2 : (PV V i).1 ≤ V.1.1 := hp1
        exact Or.inr ⟨S2, rfl, k, Or.inl ⟨hg, i, by omega, e16, by omega, hw⟩⟩
    · intro S2 x y z hI rc
      obtain ⟨rfl, rfl, rfl, k, e16, hw⟩ := hI
      have pg := pth_gd hg 10 (fun u hu => (hw u hu).1)
      have hp1 : (PV V 10).1 ≤ V.1.1 := pg.1.1
      have hp2 : 10 ≤ (PV V 10).1 := pg.2
      rw [if_pos (show (10 : Int32) ≤ nI 10 by decide)]
      exact ⟨S2, rfl, k, Or.inl ⟨hg, 10, by omega, e16, by omega, hw⟩⟩
  · have hcp : 0 < V.1.1 := by
      apply Classical.byContradiction
      intro z
      refine hg ⟨Nat.zero_le _, ?_⟩
      unfold rsG
      rw [if_pos (show 0 = V.1.1 by omega)]
      decide
    have hbig : ¬ mnr (opG V (GV V) 0) 300 < BIG := fun z => hg ⟨Nat.zero_le _, by
      unfold rsG
      rw [if_neg (by omega), if_pos (by omega), TB_row (d := V.1.1 - 1) (by omega)]
      exact z⟩
    refine loop3_q (Q := fun o => ∃ S2, o = some S2 ∧ Kp p916 q1719 S S2 ∧ ((gd V (0, 0) ∧ WalkOk V S2) ∨ (¬ gd V (0, 0) ∧ S2.1 916 = 0))) (I := fun i S2 x y z => S2 = pF S 916 0 ∧ x = nI 0 ∧ y = nI 0 ∧ z = nI 0) 0 ?_ ?_ 0 0 N _ _ _ _ (by omega) ⟨rfl, rfl, rfl, rfl⟩ (by omega)
    · intro i S2 x y z hi; omega
    · intro S2 x y z hI rc
      obtain ⟨rfl, rfl, rfl, rfl⟩ := hI
      have e10 : (pF S 916 0).1 910 = nI V.1.1 := h.1
      have e16 : (pF S 916 0).2 16 (0 * 301 + min 0 300) = -1 := by
        have := hR 0 0 hcp (by omega)
        unfold ch at this
        rw [if_neg hbig] at this
        exact this
      rw [if_neg (show ¬ (10 : Int32) ≤ nI 0 by decide), e10, if_neg (show ¬ nI V.1.1 ≤ nI 0 from nI_ge hcp (by omega)), min300 (by decide), ix301, rd_nI (by decide) (by decide), bs_s, e16, if_pos rfl]
      exact ⟨_, rfl, k0, Or.inr ⟨hg, rfl⟩⟩
theorem ch_cg {g g2 : Nat → Nat} (h : ∀ t, t ≤ 299 → g t = g2 t) (k : Nat) : ch g k = ch g2 k := by
  unfold ch
  rw [mnr_cg h k, chN_cg h k]
theorem p_plan {N n : Nat} {V : RvT} {S : St} (hv : Vok V) (h : RVc V S) (hp : S.1 918 = 0 ∨ PlanOk V S) (hN : 1000 < N) : ∃ S2, f_X1_plan N n S = some S2 ∧ RVc V S2 ∧ PlanOk V S2 ∧ Kp pPl qPl S S2 := by
  have hc2 := hv.1
  unfold f_X1_plan
  by_cases c : S.1 918 = 0
  · rw [if_pos c, lett_s]
    have h1 : RVc V (pF S 918 1) := RVc_kp h (P := pPl) (Q := qPl) ((Kp.rf _ _ _).pF _ rfl) ⟨rfl, rfl, rfl, rfl, rfl, rfl⟩ ⟨rfl, rfl, rfl, rfl, rfl⟩
    have k1 : Kp pPl qPl S (pF S 918 1) := (Kp.rf _ _ _).pF _ rfl
    generalize pF S 918 1 = S1 at *
    rw [h1.1]
    refine loop1_q (Q := fun o => ∃ S2, o = some S2 ∧ RVc V S2 ∧ PlanOk V S2 ∧ Kp pPl qPl S S2) (I := fun d S2 x => x = nI (V.1.1 - d) - 1 ∧ Kp pNo q1516 S1 S2 ∧ ∀ p e, V.1.1 ≤ p + d → p < V.1.1 → e ≤ 300 → S2.2 15 (p * 301 + e) = cl (TB V d p e) ∧ S2.2 16 (p * 301 + e) = ch (opG V (TB V (V.1.1 - 1 - p)) p) (300 - e)) V.1.1 ?_ ?_ V.1.1 0 N S1 _ (by omega) ⟨rfl, Kp.rf _ _ _, fun p e a b => by omega⟩ (by omega)
    · intro d S2 x hd hI rc
      obtain ⟨rfl, k2, b⟩ := hI
      obtain ⟨j, hj⟩ : ∃ j, V.1.1 = j + (d + 1) := ⟨V.1.1 - (d + 1), by omega⟩
      have ej : nI (V.1.1 - d) - 1 = nI j := by
        rw [nI_m1 (by omega)]
        congr 1
        omega
      have hS2 : RVc V S2 := RVc_kp h1 k2 ⟨rfl, rfl, rfl, rfl, rfl, rfl⟩ ⟨rfl, rfl, rfl, rfl, rfl⟩
      rw [ej, if_neg (nI_pos (show j < 2 ^ 31 by omega))]
      obtain ⟨S3, e1, k3, r1, r2⟩ := p_row (N := N) (n := n) (k2 := rc) (z := nI j + (-1)) hv hS2 (show j < V.1.1 by omega) (show d ≤ 9 by omega) (TB_ok hv d) (TB_300 d) (fun p e a1 a2 a3 => (b p e (by omega) a2 a3).1) hN
      rw [e1]
      refine Or.inl ⟨S3, nI j + (-1), ⟨?_, k2.tr k3, fun p e a1 a2 a3 => ?_⟩, rfl⟩
      · rw [m1_eq, show V.1.1 - (d + 1) = j by omega]
      · by_cases q : p = j
        · subst q
          refine ⟨?_, ?_⟩
          · rw [(r1 e a3).1]
            show _ = cl (if p + (d + 1) = V.1.1 then _ else _)
            rw [if_pos hj.symm]
          · rw [(r1 e a3).2, show V.1.1 - 1 - p = d by omega]
        · have := b p e (by omega) a2 a3
          rw [(r2 p e q a3).1, (r2 p e q a3).2, this.1, this.2, TB_st (d := d) (d + 1) (by omega) p e (by omega)]
          exact ⟨rfl, rfl⟩
    · intro S2 x hI rc
      obtain ⟨rfl, k2, b⟩ := hI
      have hS2 : RVc V S2 := RVc_kp h1 k2 ⟨rfl, rfl, rfl, rfl, rfl, rfl⟩ ⟨rfl, rfl, rfl, rfl, rfl⟩
      have k12 : Kp pPl qPl S S2 := k1.tr (k2.mono (fun _ z => by cases z) (fun k z => by
        unfold q1516 at z
        unfold qPl
        simp only [Bool.and_eq_true, Nat.ble_eq] at z ⊢
        omega))
      have r16 : ∀ p e, p < V.1.1 → e ≤ 300 → S2.2 16 (p * 301 + e) = ch (opG V (GV V) p) (300 - e) := fun p e a1 a2 => by
        rw [(b p e (by omega) a1 a2).2]
        exact ch_cg (fun t _ => opG_cg (fun p2 e2 hp2 => (TB_st (d := V.1.1 - 1 - p) V.1.1 (by omega) p2 e2 (by omega)).symm) t) _
      rw [Nat.sub_self, if_pos (show nI 0 - 1 < 0 by decide), hS2.1]
      have fin : ∀ v, v = cl (rsG V (GV V) 0 0) → ∃ S3, ((f_X1_walkBest N n (pF S2 917 v)).bind fun S7 => some S7) = some S3 ∧ RVc V S3 ∧ PlanOk V S3 ∧ Kp pPl qPl S S3 := by
        intro v hv2
        have kv : Kp pPl qPl S2 (pF S2 917 v) := (Kp.rf _ _ _).pF _ rfl
        have hSv : RVc V (pF S2 917 v) := RVc_kp hS2 kv ⟨rfl, rfl, rfl, rfl, rfl, rfl⟩ ⟨rfl, rfl, rfl, rfl, rfl⟩
        obtain ⟨S4, e4, k4, w4⟩ := p_walk (N := N) (n := n) hv hSv r16 hN
        rw [e4, bs_s]
        refine ⟨S4, rfl, RVc_kp hSv k4 ⟨rfl, rfl, rfl, rfl, rfl, rfl⟩ ⟨rfl, rfl, rfl, rfl, rfl⟩, ⟨?_, w4⟩, (k12.tr kv).tr (k4.mono (fun k z => by rw [Nat.eq_of_beq_eq_true z]; rfl) (fun k z => by
          unfold q1719 at z
          unfold qPl
          simp only [Bool.and_eq_true, Nat.ble_eq] at z ⊢
          omega))⟩
        rw [k4.1 917 rfl, ← hv2]
        exact pF_at _ _ _
      by_cases c0 : V.1.1 = 0
      · rw [if_pos (show nI V.1.1 ≤ 0 by rw [c0]; decide), lett_s]
        refine fin _ ?_
        unfold rsG
        rw [if_pos (show 0 = V.1.1 by omega)]
        rfl
      · rw [if_neg (show ¬ nI V.1.1 ≤ 0 from nI_nle (by omega) (by omega)), show rd (S2.2 15) 3010 0 = some (S2.2 15 0) from rd_nI (j := 0) (by decide) (by decide), bs_s, lett_s]
        refine fin _ ?_
        have := (b 0 0 (by omega) (by omega) (by omega)).1
        rw [show 0 * 301 + 0 = 0 from rfl] at this
        rw [this]
        unfold rsG
        rw [if_neg (show ¬ 0 = V.1.1 by omega), if_pos (by omega)]
  · rw [if_neg c]
    exact ⟨S, rfl, h, hp.resolve_left c, Kp.rf _ _ _⟩
