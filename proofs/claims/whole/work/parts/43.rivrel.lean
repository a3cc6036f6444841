-- RIVER: the relation, and its calls
def RVx (V : RvT) (a : Nat → Nat) (S T : St) : Prop := Vok V ∧ RVc V S ∧ RVm V T ∧ (∀ j, j < V.1.1 → T.2 6 j = nI (a j) ∧ a j ≤ 239 ∧ V.1.2 j = srt a V.1.1 j) ∧ (S.1 918 = 0 ∨ PlanOk V S)
def RV (S T : St) : Prop := ∃ (V : RvT) (a : Nat → Nat), RVx V a S T
theorem PlanOk_kp {V : RvT} {S S2 : St} {P Q : Nat → Bool} (h : PlanOk V S) (k : Kp P Q S S2) (hP : P 916 = false ∧ P 917 = false) (hQ : Q 17 = false ∧ Q 18 = false ∧ Q 19 = false) : PlanOk V S2 := by
  unfold PlanOk WalkOk Wlk at h ⊢
  rw [k.1 916 hP.1, k.1 917 hP.2, k.2 17 hQ.1, k.2 18 hQ.2.1, k.2 19 hQ.2.2]
  exact h
theorem RV_kp {S S2 T T2 : St} {P Q P' Q' : Nat → Bool} (h : RV S T) (k1 : Kp P Q S S2) (k2 : Kp P' Q' T T2) (hP : (P 910 = false ∧ P 911 = false ∧ P 912 = false ∧ P 913 = false ∧ P 914 = false ∧ P 915 = false) ∧ (P 916 = false ∧ P 917 = false) ∧ P 918 = false) (hQ : (Q 10 = false ∧ Q 11 = false ∧ Q 12 = false ∧ Q 13 = false ∧ Q 14 = false) ∧ Q 17 = false ∧ Q 18 = false ∧ Q 19 = false) (hP' : P' 7 = false ∧ P' 9 = false) (hQ' : (Q' 7 = false ∧ Q' 8 = false) ∧ Q' 6 = false) : RV S2 T2 := by
  obtain ⟨V, a, h1, h2, h3, h4, h5⟩ := h
  refine ⟨V, a, h1, RVc_kp h2 k1 hP.1 hQ.1, RVm_kp h3 k2 hP' hQ'.1, ?_, ?_⟩
  · rw [k2.2 6 hQ'.2]; exact h4
  · rcases h5 with z | z
    · exact Or.inl ((k1.1 918 hP.2.2).trans z)
    · exact Or.inr (PlanOk_kp z k1 hP.2.1 hQ.2)
def pV (k : Nat) : Bool := Nat.ble 910 k && Nat.ble k 918
def qV (k : Nat) : Bool := Nat.ble 10 k && Nat.ble k 19
def pVM (k : Nat) : Bool := [7, 9].contains k
def qVM (k : Nat) : Bool := [6, 7, 8, 17, 18].contains k
theorem pSh_V (k : Nat) (h : pSh k = true) : pV k = true := by
  unfold pSh at h
  rw [Bool.or_eq_true] at h
  rcases h with z | z <;> rw [Nat.eq_of_beq_eq_true z] <;> rfl
theorem pCr_V (k : Nat) (h : pCr k = true) : pV k = true := by
  unfold pCr at h
  rw [Bool.or_eq_true] at h
  rcases h with z | z <;> rw [Nat.eq_of_beq_eq_true z] <;> rfl
theorem rg_V {a b k : Nat} (ha : 10 ≤ a) (hb : b ≤ 19) (h : (Nat.ble a k && Nat.ble k b) = true) : qV k = true := by
  unfold qV
  simp only [Bool.and_eq_true, Nat.ble_eq] at h ⊢
  omega
theorem pPl_V (k : Nat) (h : pPl k = true) : pV k = true := by
  unfold pPl at h
  unfold pV
  simp only [Bool.and_eq_true, Nat.ble_eq] at h ⊢
  omega
theorem q1718_V (k : Nat) (h : q1718 k = true) : qVM k = true := by
  unfold q1718 at h
  simp only [Bool.and_eq_true, Nat.ble_eq] at h
  rcases (show k = 17 ∨ k = 18 by omega) with rfl | rfl <;> rfl
theorem d_ship {N n : Nat} {S T : St} (a1 : Int32) (hN : 1000 < N) (h : RV S T) : ∃ (r : Int32) (S2 T2 : St), f_X6_ship N n S a1 = some (r, S2) ∧ f_X7_ship N n T a1 = some (r, T2) ∧ RV S2 T2 ∧ Kp pV qV S S2 ∧ Kp pVM qVM T T2 := by
  obtain ⟨V, a, hv, hc, hm, ha, hp⟩ := id h
  have hc2 := hv.1
  unfold f_X6_ship f_X7_ship f_X1_shipCount
  rw [p_within, p_in N n T (lo' := 0) (hi' := 239) (lo := 0) (hi := 239) rfl rfl, bd2_s, bd2_s, bd2_s]
  by_cases c1 : (0 : Int32) ≤ a1 ∧ a1 ≤ 239
  · rw [b01_t c1, if_neg one_ne, if_neg one_ne, hc.1, hm.1]
    obtain ⟨v, -, hv2, rfl⟩ := rng (a := 0) (m := 239) c1.1 c1.2 (by decide) (by decide)
    by_cases c2 : V.1.1 = 10
    · rw [if_neg (show ¬ nI V.1.1 < 10 from by rw [c2]; decide), if_pos (show nI V.1.1 = 10 by rw [c2]; rfl)]
      exact ⟨-1, S, T, rfl, rfl, h, Kp.rf _ _ _, Kp.rf _ _ _⟩
    · obtain ⟨S2, e1, r1, p1, k1⟩ := p_addShip (N := N) (n := n) hv hc (by omega) hv2 hN
      rw [if_pos (show nI V.1.1 < 10 from nI_lt (b := 10) (by omega) (by decide)), e1, bd2_s, if_neg (show ¬ nI V.1.1 = 10 from fun z => c2 ((nI_eq (b := 10) (by omega) (by decide)).mp z)), wr_nI (by omega) (by decide), bs_s, lett_s]
      have e7 : (pA T 6 (upd (T.2 6) V.1.1 (nI v))).1 7 = nI V.1.1 := hm.1
      rw [e7, nI_1]
      refine ⟨nI V.1.1, S2, pF (pA T 6 (upd (T.2 6) V.1.1 (nI v))) 7 (nI (V.1.1 + 1)), rfl, ?_, ⟨((V.1.1 + 1, ins V.1.2 V.1.1 v), V.2), fun j => if j = V.1.1 then v else a j, ⟨by show V.1.1 + 1 ≤ 10; omega, ins_srd hv.2.1, ins_le hv.2.2.1 hv2, hv.2.2.2⟩, r1, ⟨pF_at _ _ _, hm.2⟩, ?_, Or.inl p1⟩, k1.mono pSh_V (fun k z => rg_V (by decide) (by decide) z), ((Kp.rf _ _ _).pA _ rfl).pF _ rfl⟩
      · show some (nI (V.1.1 + 1) - 1, _) = _
        rw [nI_m1 (by omega)]
        rfl
      · intro j hj
        have hj : j < V.1.1 + 1 := hj
        refine ⟨?_, ?_, ?_⟩
        · show upd (T.2 6) V.1.1 (nI v) j = nI (if j = V.1.1 then v else a j)
          by_cases e : j = V.1.1
          · rw [e, upd_at, if_pos rfl]
          · rw [upd_ne _ _ e, if_neg e]; exact (ha j (by omega)).1
        · show (if j = V.1.1 then v else a j) ≤ 239
          by_cases e : j = V.1.1
          · rw [if_pos e]; exact hv2
          · rw [if_neg e]; exact (ha j (by omega)).2.1
        · show ins V.1.2 V.1.1 v j = ins (srt (fun j => if j = V.1.1 then v else a j) V.1.1) V.1.1 (if V.1.1 = V.1.1 then v else a V.1.1) j
          rw [if_pos (rfl : V.1.1 = V.1.1)]
          refine ins_cg (fun i hi => ?_) j hj
          rw [(ha i hi).2.2]
          exact srt_cg V.1.1 (fun i hi => by rw [if_neg (show ¬ i = V.1.1 by omega)]) i hi
  · rw [b01_f c1, if_pos rfl, if_pos rfl]
    exact ⟨-1, S, T, rfl, rfl, h, Kp.rf _ _ _, Kp.rf _ _ _⟩
theorem d_crosser {N n : Nat} {S T : St} (a1 : Int32) (hN : 1000 < N) (h : RV S T) : ∃ (r : Int32) (S2 T2 : St), f_X6_crosser N n S a1 = some (r, S2) ∧ f_X7_crosser N n T a1 = some (r, T2) ∧ RV S2 T2 ∧ Kp pV qV S S2 ∧ Kp pVM qVM T T2 := by
  obtain ⟨V, a, hv, hc, hm, ha, hp⟩ := id h
  have hm30 := hv.2.2.2.1
  unfold f_X6_crosser f_X7_crosser f_X1_crosserCount
  rw [p_within, p_in N n T (lo' := 0) (hi' := 239) (lo := 0) (hi := 239) rfl rfl, bd2_s, bd2_s, bd2_s]
  by_cases c1 : (0 : Int32) ≤ a1 ∧ a1 ≤ 239
  · rw [b01_t c1, if_neg one_ne, if_neg one_ne, hc.2.2.2.2.1, hm.2.1]
    obtain ⟨v, -, hv2, rfl⟩ := rng (a := 0) (m := 239) c1.1 c1.2 (by decide) (by decide)
    by_cases c2 : V.2.1.1 = 30
    · rw [if_neg (show ¬ nI V.2.1.1 < 30 from by rw [c2]; decide), if_pos (show nI V.2.1.1 = 30 by rw [c2]; rfl)]
      exact ⟨-1, S, T, rfl, rfl, h, Kp.rf _ _ _, Kp.rf _ _ _⟩
    · obtain ⟨S2, e1, r1, p1, k1⟩ := p_addCrosser (N := N) (n := n) hc (by omega) hv2 hN
      rw [if_pos (show nI V.2.1.1 < 30 from nI_lt (b := 30) (by omega) (by decide)), e1, bd2_s, if_neg (show ¬ nI V.2.1.1 = 30 from fun z => c2 ((nI_eq (b := 30) (by omega) (by decide)).mp z)), wr_nI (by omega) (by decide), bs_s, lett_s]
      have e7 : (pA T 7 (upd (T.2 7) V.2.1.1 (nI v))).1 9 = nI V.2.1.1 := hm.2.1
      rw [e7, nI_1]
      refine ⟨nI (V.2.1.1 + 1), S2, pF (pA T 7 (upd (T.2 7) V.2.1.1 (nI v))) 9 (nI (V.2.1.1 + 1)), rfl, rfl, ⟨(V.1, (V.2.1.1 + 1, fun i => if i = V.2.1.1 then v else V.2.1.2 i), V.2.2), a, ⟨hv.1, hv.2.1, hv.2.2.1, by show V.2.1.1 + 1 ≤ 30; omega, ?_, hv.2.2.2.2.2⟩, r1, ⟨hm.1, pF_at _ _ _, ?_, hm.2.2.2⟩, ha, Or.inl p1⟩, k1.mono pCr_V (fun k z => rg_V (by decide) (by decide) z), ((Kp.rf _ _ _).pA _ rfl).pF _ rfl⟩
      · intro i hi
        have hi : i < V.2.1.1 + 1 := hi
        show (if i = V.2.1.1 then v else V.2.1.2 i) ≤ 239
        by_cases e : i = V.2.1.1
        · rw [if_pos e]; exact hv2
        · rw [if_neg e]; exact hv.2.2.2.2.1 i (by omega)
      · intro j hj
        have hj : j < V.2.1.1 + 1 := hj
        show upd (T.2 7) V.2.1.1 (nI v) j = nI (if j = V.2.1.1 then v else V.2.1.2 j)
        by_cases e : j = V.2.1.1
        · rw [e, upd_at, if_pos rfl]
        · rw [upd_ne _ _ e, if_neg e]; exact hm.2.2.1 j (by omega)
  · rw [b01_f c1, if_pos rfl, if_pos rfl]
    exact ⟨-1, S, T, rfl, rfl, h, Kp.rf _ _ _, Kp.rf _ _ _⟩
theorem d_times {N n : Nat} {S T : St} (a1 a2 a3 a4 : Int32) (h : RV S T) : ∃ (r : Int32) (S2 T2 : St), f_X6_times N n S a1 a2 a3 a4 = some (r, S2) ∧ f_X7_times N n T a1 a2 a3 a4 = some (r, T2) ∧ RV S2 T2 ∧ Kp pV qV S S2 ∧ Kp pVM qVM T T2 := by
  obtain ⟨V, a, hv, hc, hm, ha, hp⟩ := id h
  have stay : ∃ (r : Int32) (S2 T2 : St), zr 0 S = some (r, S2) ∧ zr 0 T = some (r, T2) ∧ RV S2 T2 ∧ Kp pV qV S S2 ∧ Kp pVM qVM T T2 := ⟨0, S, T, rfl, rfl, h, Kp.rf _ _ _, Kp.rf _ _ _⟩
  unfold f_X6_times f_X7_times
  rw [p_within, p_in N n T (lo' := 1) (hi' := 20) (lo := 1) (hi := 20) rfl rfl, bd2_s, bd2_s]
  by_cases c1 : (1 : Int32) ≤ a1 ∧ a1 ≤ 20
  · rw [b01_t c1, if_neg one_ne, if_neg one_ne, p_within, p_in N n T (lo' := 1) (hi' := 20) (lo := 1) (hi := 20) rfl rfl, bd2_s, bd2_s]
    by_cases c2 : (1 : Int32) ≤ a2 ∧ a2 ≤ 20
    · rw [b01_t c2, if_neg one_ne, if_neg one_ne, p_within, p_in N n T (lo' := 1) (hi' := 20) (lo := 1) (hi := 20) rfl rfl, bd2_s, bd2_s]
      by_cases c3 : (1 : Int32) ≤ a3 ∧ a3 ≤ 20
      · rw [b01_t c3, if_neg one_ne, if_neg one_ne, p_within, p_in N n T (lo' := 1) (hi' := 9) (lo := 1) (hi := 9) rfl rfl, bd2_s, bd2_s]
        by_cases c4 : (1 : Int32) ≤ a4 ∧ a4 ≤ 9
        · rw [b01_t c4, if_neg one_ne, if_neg one_ne]
          obtain ⟨v1, l1, u1, rfl⟩ := rng (a := 1) (m := 20) c1.1 c1.2 (by decide) (by decide)
          obtain ⟨v2, l2, u2, rfl⟩ := rng (a := 1) (m := 20) c2.1 c2.2 (by decide) (by decide)
          obtain ⟨v3, l3, u3, rfl⟩ := rng (a := 1) (m := 20) c3.1 c3.2 (by decide) (by decide)
          obtain ⟨v4, l4, u4, rfl⟩ := rng (a := 1) (m := 9) c4.1 c4.2 (by decide) (by decide)
          have w0 : ∀ (T : St) x, wr T 8 4 0 x = some (pA T 8 (upd (T.2 8) 0 x)) := fun T x => wr_nI (j := 0) (by decide) (by decide)
          have w1 : ∀ (T : St) x, wr T 8 4 1 x = some (pA T 8 (upd (T.2 8) 1 x)) := fun T x => wr_nI (j := 1) (by decide) (by decide)
          have w2 : ∀ (T : St) x, wr T 8 4 2 x = some (pA T 8 (upd (T.2 8) 2 x)) := fun T x => wr_nI (j := 2) (by decide) (by decide)
          have w3 : ∀ (T : St) x, wr T 8 4 3 x = some (pA T 8 (upd (T.2 8) 3 x)) := fun T x => wr_nI (j := 3) (by decide) (by decide)
          unfold f_X1_setTimes
          rw [lett_s, lett_s, lett_s, lett_s, lett_s, bs_s, w0, bs_s, w1, bs_s, w2, bs_s, w3, bs_s]
          have k1 : Kp pV qV S (pF (pF (pF (pF (pF S 912 (nI v1)) 913 (nI v2)) 914 (nI v3)) 915 (nI v4)) 918 0) := (((((Kp.rf _ _ _).pF _ rfl).pF _ rfl).pF _ rfl).pF _ rfl).pF _ rfl
          refine ⟨1, _, _, rfl, rfl, ⟨(V.1, V.2.1, v1, v2, v3, v4), a, ⟨hv.1, hv.2.1, hv.2.2.1, hv.2.2.2.1, hv.2.2.2.2.1, ⟨l1, u1⟩, ⟨l2, u2⟩, ⟨l3, u3⟩, l4, u4⟩, ⟨hc.1, hc.2.1, hc.2.2.1, hc.2.2.2.1, hc.2.2.2.2.1, hc.2.2.2.2.2.1, hc.2.2.2.2.2.2.1, rfl, rfl, rfl, rfl⟩, ⟨hm.1, hm.2.1, hm.2.2.1, rfl, rfl, rfl, rfl⟩, ha, Or.inl rfl⟩, k1, ((((Kp.rf _ _ _).pA _ rfl).pA _ rfl).pA _ rfl).pA _ rfl⟩
        · rw [b01_f c4, if_pos rfl, if_pos rfl]; exact stay
      · rw [b01_f c3, if_pos rfl, if_pos rfl]; exact stay
    · rw [b01_f c2, if_pos rfl, if_pos rfl]; exact stay
  · rw [b01_f c1, if_pos rfl, if_pos rfl]; exact stay
theorem rsG_le {V : RvT} (hv : Vok V) (p e : Nat) : rsG V (GV V) p e ≤ BIG := by
  unfold rsG
  split
  · decide
  · split
    · exact okv_le (TB_ok hv _ _ _) hv.1
    · exact Nat.le_refl _
theorem RV_best {V : RvT} {a : Nat → Nat} {S2 T T2 : St} (hv : Vok V) (h2 : RVc V S2) (hp : PlanOk V S2) (hm2 : RVm V T2) (k : Kp pNo q1718 T T2) (ha : ∀ j, j < V.1.1 → T.2 6 j = nI (a j) ∧ a j ≤ 239 ∧ V.1.2 j = srt a V.1.1 j) : RV S2 T2 := ⟨V, a, hv, h2, hm2, by rw [k.2 6 rfl]; exact ha, Or.inr hp⟩
theorem d_waits {N n : Nat} {S T : St} (hN : 1000 < N) (h : RV S T) : ∃ (r : Int32) (S2 T2 : St), f_X6_waits N n S = some (r, S2) ∧ f_X7_waits N n T = some (r, T2) ∧ RV S2 T2 ∧ Kp pV qV S S2 ∧ Kp pVM qVM T T2 := by
  obtain ⟨V, a, hv, hc, hm, ha, hp⟩ := id h
  obtain ⟨S2, e1, r1, p1, k1⟩ := p_plan (N := N) (n := n) hv hc hp hN
  obtain ⟨T2, e2, r2, o2, k2, -⟩ := p_best (N := N) (n := n) hv hm (fun j hj => (ha j hj).1) (fun j hj => (ha j hj).2.1) (fun j hj => (ha j hj).2.2) hN
  have hr := rsG_le hv 0 0
  have hBB : BIG = 100000000 := rfl
  unfold f_X6_waits f_X7_waits f_X1_leastWaits
  rw [bd2_id, e1, bs_s, e2, bd2_s, p1.1]
  have rv := RV_best hv r1 p1 r2 k2 ha
  have kk := k1.mono pPl_V (fun k z => rg_V (a := 15) (b := 19) (by decide) (by decide) z)
  have km := k2.mono (P' := pVM) (fun _ z => by cases z) q1718_V
  by_cases c : rsG V (GV V) 0 0 < BIG
  · rw [if_neg (fun z => (cl_le hr).mp z c), if_pos (show nI (rsG V (GV V) 0 0) < 100000000 from nI_lt (b := 100000000) c (by decide))]
    refine ⟨_, S2, T2, rfl, ?_, rv, kk, km⟩
    unfold cl
    rw [if_pos c]
  · rw [if_pos ((cl_le hr).mpr c), if_neg (show ¬ nI (rsG V (GV V) 0 0) < 100000000 from nI_nlt (b := 100000000) (by omega) (by omega))]
    exact ⟨_, S2, T2, rfl, rfl, rv, kk, km⟩
