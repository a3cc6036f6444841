-- THE WHOLE RELATION
theorem d_about {N n : Nat} {S T : St} (a1 : Int32) (hD : RD n S T) (hV : RV S T) (hP : RP S T) (hG : RG S T) : ∃ r : Int32, f_X6_about N n S a1 = some (r, S) ∧ f_X7_about N n T a1 = some (r, T) := by
  obtain ⟨bs, ws, gs, c, hd, -⟩ := hD
  obtain ⟨V, a, -, hc, hm, -⟩ := hV
  obtain ⟨ln, cs, -, hp1, hp2, -⟩ := hP
  have h0 : S.1 100 = T.1 0 := hd.2.1.trans hd.2.2.1.symm
  have h1 : S.1 108 = T.1 4 := hd.2.2.2.1.trans hd.2.2.2.2.symm
  have h2 : S.1 910 = T.1 7 := hc.1.trans hm.1.symm
  have h3 : S.1 911 = T.1 9 := hc.2.2.2.2.1.trans hm.2.1.symm
  have h4 : S.1 2904 = T.1 31 := hG.2.1.2.1
  have h5 : S.1 2905 = T.1 32 := hG.2.1.2.2.1
  have h6 : S.1 2401 = T.1 17 := hp1.trans hp2.symm
  unfold f_X6_about f_X7_about f_X0_hullCount f_X0_cartCount f_X1_shipCount f_X1_crosserCount f_X4_paidTogether f_X4_wentFree f_X3_size f_X4_againOf f_X4_tollOf
  rw [p_within, p_in N n T (lo' := 20) (hi' := 25) (lo := 20) (hi := 25) rfl rfl, bd2_s, bd2_s]
  by_cases c1 : (20 : Int32) ≤ a1 ∧ a1 ≤ 25
  · rw [b01_t c1, if_neg one_ne, if_neg one_ne]
    obtain ⟨k, l1, l2, rfl⟩ := rng (a := 20) (m := 25) c1.1 c1.2 (by decide) (by decide)
    have e : nI k - 20 = nI (k - 20) := pk_sub (b := 20) l1
    rw [e, rd_nI (f := S.2 30) (show k - 20 < 6 by omega) (by decide), rd_nI (f := T.2 14) (show k - 20 < 6 by omega) (by decide)]
    simp only [bs_s, bd2_s]
    rw [hG.2.2.1 (k - 20) (by omega)]
    by_cases q : (0 : Int32) ≤ T.2 14 (k - 20)
    · rw [if_pos q, if_pos q]; exact ⟨_, rfl, rfl⟩
    · rw [if_neg q, if_neg q]; exact ⟨_, rfl, rfl⟩
  · rw [b01_f c1, if_pos rfl, if_pos rfl, p_within, p_in N n T (lo' := 30) (hi' := 35) (lo := 30) (hi := 35) rfl rfl]
    simp only [bd2_s]
    by_cases c2 : (30 : Int32) ≤ a1 ∧ a1 ≤ 35
    · rw [b01_t c2, if_neg one_ne, if_neg one_ne]
      obtain ⟨k, l1, l2, rfl⟩ := rng (a := 30) (m := 35) c2.1 c2.2 (by decide) (by decide)
      have e : nI k - 30 = nI (k - 30) := pk_sub (b := 30) l1
      rw [e, rd_nI (f := S.2 31) (show k - 30 < 6 by omega) (by decide), rd_nI (f := T.2 15) (show k - 30 < 6 by omega) (by decide)]
      simp only [bs_s, bd2_s]
      rw [hG.2.2.2.1 (k - 30) (by omega)]
      by_cases q : (0 : Int32) ≤ T.2 15 (k - 30)
      · rw [if_pos q, if_pos q]; exact ⟨_, rfl, rfl⟩
      · rw [if_neg q, if_neg q]; exact ⟨_, rfl, rfl⟩
    · rw [b01_f c2, if_pos rfl, if_pos rfl, h0, h1, h2, h3, h4, h5, h6]
      by_cases z0 : a1 = 0
      · rw [if_pos z0, if_pos z0]; exact ⟨_, rfl, rfl⟩
      rw [if_neg z0, if_neg z0]
      by_cases z1 : a1 = 1
      · rw [if_pos z1, if_pos z1]; exact ⟨_, rfl, rfl⟩
      rw [if_neg z1, if_neg z1]
      by_cases z2 : a1 = 2
      · rw [if_pos z2, if_pos z2]; exact ⟨_, rfl, rfl⟩
      rw [if_neg z2, if_neg z2]
      by_cases z3 : a1 = 3
      · rw [if_pos z3, if_pos z3]; exact ⟨_, rfl, rfl⟩
      rw [if_neg z3, if_neg z3]
      by_cases z4 : a1 = 4
      · rw [if_pos z4, if_pos z4]; exact ⟨_, rfl, rfl⟩
      rw [if_neg z4, if_neg z4]
      by_cases z5 : a1 = 5
      · rw [if_pos z5, if_pos z5]; exact ⟨_, rfl, rfl⟩
      rw [if_neg z5, if_neg z5]
      by_cases z6 : a1 = 6
      · rw [if_pos z6, if_pos z6]; exact ⟨_, rfl, rfl⟩
      rw [if_neg z6, if_neg z6]
      exact ⟨_, rfl, rfl⟩
def RA (n : Nat) (S T : St) : Prop := (1 ≤ n ∧ n ≤ 12) ∧ RD n S T ∧ RV S T ∧ RS S T ∧ RP S T ∧ RG S T
theorem RA_D {n : Nat} {S T S2 T2 : St} (h : RA n S T) (hx : RD n S2 T2) (k1 : Kp pD qD S S2) (k2 : Kp pDM qDM T T2) : RA n S2 T2 :=
  ⟨h.1, hx, RV_kp h.2.2.1 k1 k2 ⟨⟨rfl, rfl, rfl, rfl, rfl, rfl⟩, ⟨rfl, rfl⟩, rfl⟩ ⟨⟨rfl, rfl, rfl, rfl, rfl⟩, rfl, rfl, rfl⟩ ⟨rfl, rfl⟩ ⟨⟨rfl, rfl⟩, rfl⟩, RS_kp h.2.2.2.1 k1 k2 ⟨rfl, rfl, rfl⟩ ⟨rfl, rfl, rfl⟩ ⟨rfl, rfl⟩ ⟨rfl, rfl⟩, RP_kp h.2.2.2.2.1 k1 k2 rfl rfl rfl rfl, RG_kp h.2.2.2.2.2 k1 k2 ⟨rfl, rfl, rfl, rfl, rfl⟩ ⟨rfl, rfl, rfl⟩ ⟨rfl, rfl, rfl, rfl, rfl⟩ ⟨rfl, rfl, rfl⟩⟩
theorem RA_V {n : Nat} {S T S2 T2 : St} (h : RA n S T) (hx : RV S2 T2) (k1 : Kp pV qV S S2) (k2 : Kp pVM qVM T T2) : RA n S2 T2 :=
  ⟨h.1, RD_kp h.2.1 k1 k2 ⟨rfl, rfl⟩ ⟨rfl, rfl, rfl, rfl, rfl⟩ ⟨rfl, rfl⟩ ⟨rfl, rfl, rfl, rfl, rfl⟩, hx, RS_kp h.2.2.2.1 k1 k2 ⟨rfl, rfl, rfl⟩ ⟨rfl, rfl, rfl⟩ ⟨rfl, rfl⟩ ⟨rfl, rfl⟩, RP_kp h.2.2.2.2.1 k1 k2 rfl rfl rfl rfl, RG_kp h.2.2.2.2.2 k1 k2 ⟨rfl, rfl, rfl, rfl, rfl⟩ ⟨rfl, rfl, rfl⟩ ⟨rfl, rfl, rfl, rfl, rfl⟩ ⟨rfl, rfl, rfl⟩⟩
theorem RA_S {n : Nat} {S T S2 T2 : St} (h : RA n S T) (hx : RS S2 T2) (k1 : Kp pS qS S S2) (k2 : Kp pSM qSM T T2) : RA n S2 T2 :=
  ⟨h.1, RD_kp h.2.1 k1 k2 ⟨rfl, rfl⟩ ⟨rfl, rfl, rfl, rfl, rfl⟩ ⟨rfl, rfl⟩ ⟨rfl, rfl, rfl, rfl, rfl⟩, RV_kp h.2.2.1 k1 k2 ⟨⟨rfl, rfl, rfl, rfl, rfl, rfl⟩, ⟨rfl, rfl⟩, rfl⟩ ⟨⟨rfl, rfl, rfl, rfl, rfl⟩, rfl, rfl, rfl⟩ ⟨rfl, rfl⟩ ⟨⟨rfl, rfl⟩, rfl⟩, hx, RP_kp h.2.2.2.2.1 k1 k2 rfl rfl rfl rfl, RG_kp h.2.2.2.2.2 k1 k2 ⟨rfl, rfl, rfl, rfl, rfl⟩ ⟨rfl, rfl, rfl⟩ ⟨rfl, rfl, rfl, rfl, rfl⟩ ⟨rfl, rfl, rfl⟩⟩
theorem RA_P {n : Nat} {S T S2 T2 : St} (h : RA n S T) (hx : RP S2 T2) (k1 : Kp pP qP S S2) (k2 : Kp pPM qPM T T2) : RA n S2 T2 :=
  ⟨h.1, RD_kp h.2.1 k1 k2 ⟨rfl, rfl⟩ ⟨rfl, rfl, rfl, rfl, rfl⟩ ⟨rfl, rfl⟩ ⟨rfl, rfl, rfl, rfl, rfl⟩, RV_kp h.2.2.1 k1 k2 ⟨⟨rfl, rfl, rfl, rfl, rfl, rfl⟩, ⟨rfl, rfl⟩, rfl⟩ ⟨⟨rfl, rfl, rfl, rfl, rfl⟩, rfl, rfl, rfl⟩ ⟨rfl, rfl⟩ ⟨⟨rfl, rfl⟩, rfl⟩, RS_kp h.2.2.2.1 k1 k2 ⟨rfl, rfl, rfl⟩ ⟨rfl, rfl, rfl⟩ ⟨rfl, rfl⟩ ⟨rfl, rfl⟩, hx, RG_kp h.2.2.2.2.2 k1 k2 ⟨rfl, rfl, rfl, rfl, rfl⟩ ⟨rfl, rfl, rfl⟩ ⟨rfl, rfl, rfl, rfl, rfl⟩ ⟨rfl, rfl, rfl⟩⟩
theorem RA_G {n : Nat} {S T S2 T2 : St} (h : RA n S T) (hx : RG S2 T2) (k1 : Kp pG qG S S2) (k2 : Kp pGM qGM T T2) : RA n S2 T2 :=
  ⟨h.1, RD_kp h.2.1 k1 k2 ⟨rfl, rfl⟩ ⟨rfl, rfl, rfl, rfl, rfl⟩ ⟨rfl, rfl⟩ ⟨rfl, rfl, rfl, rfl, rfl⟩, RV_kp h.2.2.1 k1 k2 ⟨⟨rfl, rfl, rfl, rfl, rfl, rfl⟩, ⟨rfl, rfl⟩, rfl⟩ ⟨⟨rfl, rfl, rfl, rfl, rfl⟩, rfl, rfl, rfl⟩ ⟨rfl, rfl⟩ ⟨⟨rfl, rfl⟩, rfl⟩, RS_kp h.2.2.2.1 k1 k2 ⟨rfl, rfl, rfl⟩ ⟨rfl, rfl, rfl⟩ ⟨rfl, rfl⟩ ⟨rfl, rfl⟩, RP_kp h.2.2.2.2.1 k1 k2 rfl rfl rfl rfl, hx⟩
theorem RA_T {n : Nat} {S T S2 T2 : St} (h : RA n S T) (hx : RP S2 T2) (hy : RG S2 T2) (k1 : Kp pTo qTo S S2) (k2 : Kp pToM qToM T T2) : RA n S2 T2 :=
  ⟨h.1, RD_kp h.2.1 k1 k2 ⟨rfl, rfl⟩ ⟨rfl, rfl, rfl, rfl, rfl⟩ ⟨rfl, rfl⟩ ⟨rfl, rfl, rfl, rfl, rfl⟩, RV_kp h.2.2.1 k1 k2 ⟨⟨rfl, rfl, rfl, rfl, rfl, rfl⟩, ⟨rfl, rfl⟩, rfl⟩ ⟨⟨rfl, rfl, rfl, rfl, rfl⟩, rfl, rfl, rfl⟩ ⟨rfl, rfl⟩ ⟨⟨rfl, rfl⟩, rfl⟩, RS_kp h.2.2.2.1 k1 k2 ⟨rfl, rfl, rfl⟩ ⟨rfl, rfl, rfl⟩ ⟨rfl, rfl⟩ ⟨rfl, rfl⟩, hx, hy⟩
