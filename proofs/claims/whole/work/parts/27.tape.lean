-- TAPE AND TILL: feed, end, fault, pass
theorem bd2_id (o : Option (Int32 × St)) : (bd2 o fun r S => some (r, S)) = o := by
  cases o with
  | none => rfl
  | some x => rfl
theorem by_ex (z : Int32) : ∃ c, c < 256 ∧ z.toInt8.toInt32 = sb_b c := by
  refine ⟨z.toBitVec.toNat % 256, Nat.mod_lt _ (by decide), ?_⟩
  unfold sb_b
  congr 1
  apply Int8.toBitVec_inj.mp
  apply BitVec.eq_of_toNat_eq
  simp [nI]
  rw [BitVec.signExtend_eq_setWidth_of_le _ (by decide)]
  simp
theorem nar_b (z : Int32) : vp_nar .byte z.toInt8.toInt32 = z.toInt8.toInt32 := pk_vb z
theorem sb_facts : ∀ c, c < 256 → sb_b c &&& 255 = nI c ∧ (c < 128 → sb_b c = nI c) ∧ (128 ≤ c → sb_b c < 0) := by decide +kernel
def RPx (ln : Nat) (cs : Nat → Nat) (S T : St) : Prop := ln ≤ 200 ∧ S.1 2401 = nI ln ∧ T.1 17 = nI ln ∧ ∀ j, j < ln → cs j < 256 ∧ S.2 25 j = sb_b (cs j) ∧ T.2 11 j = sb_b (cs j)
def RP (S T : St) : Prop := ∃ (ln : Nat) (cs : Nat → Nat), RPx ln cs S T
def pP (k : Nat) : Bool := Nat.beq k 2401
def qP (k : Nat) : Bool := Nat.beq k 25
def pPM (k : Nat) : Bool := Nat.beq k 17
def qPM (k : Nat) : Bool := Nat.beq k 11
theorem RP_kp {S S2 T T2 : St} {P Q P' Q' : Nat → Bool} (h : RP S T) (k1 : Kp P Q S S2) (k2 : Kp P' Q' T T2) (hP : P 2401 = false) (hQ : Q 25 = false) (hP' : P' 17 = false) (hQ' : Q' 11 = false) : RP S2 T2 := by
  obtain ⟨ln, cs, h⟩ := h
  refine ⟨ln, cs, ?_⟩
  unfold RPx at h ⊢
  rw [k1.1 2401 hP, k1.2 25 hQ, k2.1 17 hP', k2.2 11 hQ']
  exact h
def by4 (a : Int32) (k : Nat) : Int32 := if k = 0 then (a >>> ((24 : Int32) &&& 31)).toInt8.toInt32 else if k = 1 then (a >>> ((16 : Int32) &&& 31)).toInt8.toInt32 else if k = 2 then (a >>> ((8 : Int32) &&& 31)).toInt8.toInt32 else a.toInt8.toInt32
def adk (f : Nat → Int32) (ln : Nat) (a : Int32) : Nat → Nat → Int32
  | 0 => f
  | k + 1 => upd (adk f ln a k) (ln + k) (by4 a k)
theorem by4_ex (a : Int32) (k : Nat) : ∃ c, c < 256 ∧ by4 a k = sb_b c := by
  unfold by4
  split
  · exact by_ex _
  · split
    · exact by_ex _
    · split
      · exact by_ex _
      · exact by_ex _
theorem sh0 (a : Int32) : a >>> ((0 : Int32) &&& 31) = a := by
  apply i_eq
  rw [pk_shr a ((0 : Int32) &&& 31) 0 (by decide)]
  exact Int.shiftRight_zero _
def shv (i : Nat) : Int32 := if i = 0 then 24 else if i = 1 then 16 else if i = 2 then 8 else if i = 3 then 0 else -8
def tpS (S : St) (ln : Nat) (a : Int32) (i : Nat) : St := pF (pA S 25 (adk (S.2 25) ln a i)) 2401 (nI (ln + i))
def tpM (T : St) (ln : Nat) (a : Int32) : St := pF (pA T 11 (adk (T.2 11) ln a 4)) 17 (nI (ln + 4))
theorem p_addWord {N n ln : Nat} {S : St} {a : Int32} (h0 : S.1 2401 = nI ln) (hl : ln + 4 ≤ 200) (hN : 10 < N) : f_X3_addWord N n S a = some (tpS S ln a 4) := by
  unfold f_X3_addWord
  refine loop1_run (I := fun i S2 x => x = shv i ∧ S2 = tpS S ln a i) (k := 4) ⟨rfl, ?_⟩ (by omega) ?_ ?_
  · show S = pF (pA S 25 (S.2 25)) 2401 (nI ln)
    rw [pA_self, ← h0, pF_self]
  · intro i S2 x hi hI
    obtain ⟨rfl, rfl⟩ := hI
    refine Or.inl ⟨_, _, ⟨rfl, rfl⟩, fun rc => ?_⟩
    have e1 : (tpS S ln a i).1 2401 = nI (ln + i) := pF_at _ _ _
    have hs : ¬ shv i < 0 ∧ shv i + (-8) = shv (i + 1) ∧ (a >>> (shv i &&& 31)).toInt8.toInt32 = by4 a i := by
      rcases (show i = 0 ∨ i = 1 ∨ i = 2 ∨ i = 3 by omega) with rfl | rfl | rfl | rfl
      · exact ⟨by decide, by decide, rfl⟩
      · exact ⟨by decide, by decide, rfl⟩
      · exact ⟨by decide, by decide, rfl⟩
      · refine ⟨by decide, by decide, ?_⟩
        show (a >>> ((0 : Int32) &&& 31)).toInt8.toInt32 = a.toInt8.toInt32
        rw [sh0]
    rw [if_neg hs.1, e1, if_neg (show ¬ (200 : Int32) ≤ nI (ln + i) from nI_ge (a := ln + i) (b := 200) (by omega) (by decide)), wr_nI (by omega) (by decide), bs_s, lett_s, nar_b, hs.2.2, hs.2.1, pA_1, e1, nI_1]
    congr 1
    show pF (pA (tpS S ln a i) 25 (upd ((tpS S ln a i).2 25) (ln + i) (by4 a i))) 2401 (nI (ln + i + 1)) = tpS S ln a (i + 1)
    have e2 : (tpS S ln a i).2 25 = adk (S.2 25) ln a i := by
      unfold tpS
      rw [pF_2, pA_at]
    rw [e2]
    unfold tpS
    rw [pA_pF, pA_pA, pF_pF]
    rfl
  · intro S2 x hI rc
    obtain ⟨rfl, rfl⟩ := hI
    rw [if_pos (show shv 4 < 0 by decide)]
theorem p_put {N n ln : Nat} {T : St} {a : Int32} (h0 : T.1 17 = nI ln) (hl : ln + 4 ≤ 200) : f_X7_put N n T a = some (tpM T ln a) := by
  unfold f_X7_put
  rw [h0, wr_nI (by omega) (by decide), bs_s]
  have e1 : ∀ f, (pA T 11 f).1 17 = nI ln := fun _ => h0
  rw [e1, nI_1, wr_nI (by omega) (by decide), bs_s, pA_at, pA_pA, e1, show nI ln + 2 = nI (ln + 2) from nI_add ln 2, wr_nI (by omega) (by decide), bs_s, pA_at, pA_pA, e1, show nI ln + 3 = nI (ln + 3) from nI_add ln 3, wr_nI (by omega) (by decide), bs_s, pA_at, pA_pA, lett_s, e1, show nI ln + 4 = nI (ln + 4) from nI_add ln 4, nar_b, nar_b, nar_b, nar_b]
  rfl
theorem Rtp {ln : Nat} {cs : Nat → Nat} {S T : St} (a : Int32) (h : RPx ln cs S T) (hl : ln + 4 ≤ 200) : ∃ cs2, RPx (ln + 4) cs2 (tpS S ln a 4) (tpM T ln a) := by
  obtain ⟨h1, h2, h3, h4⟩ := h
  refine ⟨fun j => if j < ln then cs j else Classical.choose (by4_ex a (j - ln)), by omega, pF_at _ _ _, pF_at _ _ _, fun j hj => ?_⟩
  show (if j < ln then cs j else Classical.choose (by4_ex a (j - ln))) < 256 ∧ adk (S.2 25) ln a 4 j = sb_b (if j < ln then cs j else Classical.choose (by4_ex a (j - ln))) ∧ adk (T.2 11) ln a 4 j = sb_b (if j < ln then cs j else Classical.choose (by4_ex a (j - ln)))
  have lo : ∀ (f : Nat → Int32), j < ln → adk f ln a 4 j = f j := by
    intro f hj
    simp only [adk]
    rw [upd_ne _ _ (by omega), upd_ne _ _ (by omega), upd_ne _ _ (by omega), upd_ne _ _ (by omega)]
  have hi : ∀ (f : Nat → Int32), ¬ j < ln → adk f ln a 4 j = by4 a (j - ln) := by
    intro f hj
    simp only [adk]
    rcases (show j = ln ∨ j = ln + 1 ∨ j = ln + 2 ∨ j = ln + 3 by omega) with rfl | rfl | rfl | rfl
    · rw [upd_ne _ _ (by omega), upd_ne _ _ (by omega), upd_ne _ _ (by omega), Nat.add_zero, upd_at, Nat.sub_self]
    · rw [upd_ne _ _ (by omega), upd_ne _ _ (by omega), upd_at, Nat.add_sub_cancel_left]
    · rw [upd_ne _ _ (by omega), upd_at, Nat.add_sub_cancel_left]
    · rw [upd_at, Nat.add_sub_cancel_left]
  by_cases c : j < ln
  · rw [if_pos c, lo _ c, lo _ c]; exact h4 j c
  · rw [if_neg c, hi _ c, hi _ c]
    have := Classical.choose_spec (by4_ex a (j - ln))
    exact ⟨this.1, this.2, this.2⟩
theorem tpS_k (S : St) (ln : Nat) (a : Int32) : Kp pP qP S (tpS S ln a 4) := ((Kp.rf _ _ _).pA _ rfl).pF _ rfl
theorem tpM_k (T : St) (ln : Nat) (a : Int32) : Kp pPM qPM T (tpM T ln a) := ((Kp.rf _ _ _).pA _ rfl).pF _ rfl
theorem d_feed {N n : Nat} {S T : St} (a1 a2 a3 a4 a5 : Int32) (hN : 10 < N) (h : RP S T) : ∃ (r : Int32) (S2 T2 : St), f_X6_feed N n S a1 a2 a3 a4 a5 = some (r, S2) ∧ f_X7_feed N n T a1 a2 a3 a4 a5 = some (r, T2) ∧ RP S2 T2 ∧ Kp pP qP S S2 ∧ Kp pPM qPM T T2 := by
  obtain ⟨ln, cs, hx⟩ := id h
  unfold f_X6_feed f_X7_feed f_X3_size
  rw [bd2_s, hx.2.1, hx.2.2.1]
  by_cases hc : ln + 20 ≤ 200
  · have hi : nI ln + 20 ≤ 200 := by rw [show nI ln + 20 = nI (ln + 20) from nI_add ln 20]; exact nI_le (a := ln + 20) (b := 200) hc (by decide)
    rw [if_pos hi, if_pos hi]
    obtain ⟨c1, x1⟩ := Rtp a1 hx (by omega)
    obtain ⟨c2, x2⟩ := Rtp a2 x1 (by omega)
    obtain ⟨c3, x3⟩ := Rtp a3 x2 (by omega)
    obtain ⟨c4, x4⟩ := Rtp a4 x3 (by omega)
    obtain ⟨c5, x5⟩ := Rtp a5 x4 (by omega)
    rw [p_addWord hx.2.1 (by omega) hN, bs_s, p_addWord x1.2.1 (by omega) hN, bs_s, p_addWord x2.2.1 (by omega) hN, bs_s, p_addWord x3.2.1 (by omega) hN, bs_s, p_addWord x4.2.1 (by omega) hN, bs_s, bd2_s, x5.2.1]
    rw [p_put hx.2.2.1 (by omega), bs_s, p_put x1.2.2.1 (by omega), bs_s, p_put x2.2.2.1 (by omega), bs_s, p_put x3.2.2.1 (by omega), bs_s, p_put x4.2.2.1 (by omega), bs_s, x5.2.2.1]
    exact ⟨_, _, _, rfl, rfl, ⟨_, _, x5⟩, ((((tpS_k _ _ _).tr (tpS_k _ _ _)).tr (tpS_k _ _ _)).tr (tpS_k _ _ _)).tr (tpS_k _ _ _), ((((tpM_k _ _ _).tr (tpM_k _ _ _)).tr (tpM_k _ _ _)).tr (tpM_k _ _ _)).tr (tpM_k _ _ _)⟩
  · have h2 := hx.1
    have hi : ¬ nI ln + 20 ≤ 200 := by rw [show nI ln + 20 = nI (ln + 20) from nI_add ln 20]; exact nI_ge (a := 200) (b := ln + 20) (by omega) (by omega)
    rw [if_neg hi, if_neg hi]
    exact ⟨_, S, T, rfl, rfl, h, Kp.rf _ _ _, Kp.rf _ _ _⟩
theorem d_end {N n : Nat} {S T : St} (a1 : Int32) (h : RP S T) : ∃ (r : Int32) (S2 T2 : St), f_X6_end N n S a1 = some (r, S2) ∧ f_X7_end N n T a1 = some (r, T2) ∧ RP S2 T2 ∧ Kp pP qP S S2 ∧ Kp pPM qPM T T2 := by
  obtain ⟨ln, cs, hx⟩ := id h
  have hl := hx.1
  unfold f_X6_end f_X7_end f_X3_size
  rw [bd2_s, hx.2.1, hx.2.2.1, p_within, p_in N n T (lo' := 0) (lo := 0) (hi := nI ln) rfl rfl, bd2_s, bd2_s]
  by_cases h1 : (0 : Int32) ≤ a1 ∧ a1 ≤ nI ln
  · rw [b01_t h1, if_neg one_ne, if_neg one_ne]
    obtain ⟨j, -, hj, rfl⟩ := rng (a := 0) (m := ln) h1.1 h1.2 (by omega) (by decide)
    unfold f_X3_cutTo
    rw [lett_s, bs_s, lett_s]
    exact ⟨_, _, _, rfl, rfl, ⟨j, cs, by omega, pF_at _ _ _, pF_at _ _ _, fun i hi => hx.2.2.2 i (by omega)⟩, (Kp.rf _ _ _).pF _ rfl, (Kp.rf _ _ _).pF _ rfl⟩
  · rw [b01_f h1, if_pos rfl, if_pos rfl]
    exact ⟨_, S, T, rfl, rfl, h, Kp.rf _ _ _, Kp.rf _ _ _⟩
/-- the reader's faults and the till -/
def RG (S T : St) : Prop := (S.1 2603 = T.1 24 ∧ S.1 2604 = T.1 25) ∧ (S.1 2903 = T.1 30 ∧ S.1 2904 = T.1 31 ∧ S.1 2905 = T.1 32 ∧ (0 : Int32) ≤ T.1 30) ∧ (∀ k, k < 6 → S.2 30 k = (if (0 : Int32) ≤ T.2 14 k then T.2 14 k else 0)) ∧ (∀ k, k < 6 → S.2 31 k = (if (0 : Int32) ≤ T.2 15 k then T.2 15 k else 0)) ∧ ∀ k, k < 120 → S.2 32 k = T.2 16 k ∧ (T.2 16 k = -1 ∨ (0 : Int32) ≤ T.2 16 k)
theorem RG_kp {S S2 T T2 : St} {P Q P' Q' : Nat → Bool} (h : RG S T) (k1 : Kp P Q S S2) (k2 : Kp P' Q' T T2) (hP : P 2603 = false ∧ P 2604 = false ∧ P 2903 = false ∧ P 2904 = false ∧ P 2905 = false) (hQ : Q 30 = false ∧ Q 31 = false ∧ Q 32 = false) (hP' : P' 24 = false ∧ P' 25 = false ∧ P' 30 = false ∧ P' 31 = false ∧ P' 32 = false) (hQ' : Q' 14 = false ∧ Q' 15 = false ∧ Q' 16 = false) : RG S2 T2 := by
  unfold RG at h ⊢
  rw [k1.1 2603 hP.1, k1.1 2604 hP.2.1, k1.1 2903 hP.2.2.1, k1.1 2904 hP.2.2.2.1, k1.1 2905 hP.2.2.2.2, k1.2 30 hQ.1, k1.2 31 hQ.2.1, k1.2 32 hQ.2.2, k2.1 24 hP'.1, k2.1 25 hP'.2.1, k2.1 30 hP'.2.2.1, k2.1 31 hP'.2.2.2.1, k2.1 32 hP'.2.2.2.2, k2.2 14 hQ'.1, k2.2 15 hQ'.2.1, k2.2 16 hQ'.2.2]
  exact h
theorem d_fault {N n : Nat} {S T : St} (a1 : Int32) (h : RG S T) : ∃ r : Int32, f_X6_fault N n S a1 = some (r, S) ∧ f_X7_fault N n T a1 = some (r, T) := by
  unfold f_X6_fault f_X7_fault f_X5_faultNumber f_X5_faultAt
  rw [bd2_s, bd2_s, h.1.1, h.1.2]
  by_cases c0 : a1 = 0
  · rw [if_pos c0, if_pos c0]; exact ⟨_, rfl, rfl⟩
  · rw [if_neg c0, if_neg c0]
    by_cases c1 : a1 = 1
    · rw [if_pos c1, if_pos c1]; exact ⟨_, rfl, rfl⟩
    · rw [if_neg c1, if_neg c1]; exact ⟨_, rfl, rfl⟩
def pG (k : Nat) : Bool := Nat.ble 2900 k && Nat.ble k 2999
def qG (k : Nat) : Bool := Nat.ble 30 k && Nat.ble k 32
def pGM (k : Nat) : Bool := [30, 31, 32].contains k
def qGM (k : Nat) : Bool := [14, 15, 16].contains k
theorem d_pass {N n : Nat} {S T : St} (a1 a2 a3 : Int32) (h : RG S T) : ∃ (r : Int32) (S2 T2 : St), f_X6_pass N n S a1 a2 a3 = some (r, S2) ∧ f_X7_pass N n T a1 a2 a3 = some (r, T2) ∧ RG S2 T2 ∧ Kp pG qG S S2 ∧ Kp pGM qGM T T2 := by
  have stay : ∀ r : Int32, ∃ (r2 : Int32) (S2 T2 : St), some (r, S) = some (r2, S2) ∧ some (r, T) = some (r2, T2) ∧ RG S2 T2 ∧ Kp pG qG S S2 ∧ Kp pGM qGM T T2 := fun r => ⟨r, S, T, rfl, rfl, h, Kp.rf _ _ _, Kp.rf _ _ _⟩
  obtain ⟨hf, ⟨g1, g2, g3, g4⟩, ht, ha, ho⟩ := id h
  unfold f_X6_pass f_X7_pass
  rw [p_within, p_in N n T (lo' := 0) (hi' := 5) (lo := 0) (hi := 5) rfl rfl, bd2_s, bd2_s]
  by_cases h1 : (0 : Int32) ≤ a1 ∧ a1 ≤ 5
  · rw [b01_t h1, if_neg one_ne, if_neg one_ne, p_within, p_in N n T (lo' := 0) (hi' := 19) (lo := 0) (hi := 19) rfl rfl, bd2_s, bd2_s]
    by_cases h2 : (0 : Int32) ≤ a2 ∧ a2 ≤ 19
    · rw [b01_t h2, if_neg one_ne, if_neg one_ne]
      unfold f_X4_latestMinute
      rw [bd2_s, g1, p_within, p_in N n T (hi' := 9999) (lo := T.1 30) (hi := 9999) rfl rfl, bd2_s, bd2_s]
      by_cases h3 : T.1 30 ≤ a3 ∧ a3 ≤ 9999
      · rw [b01_t h3, if_neg one_ne, if_neg one_ne]
        obtain ⟨k, -, hk, rfl⟩ := rng (a := 0) (m := 5) h1.1 h1.2 (by decide) (by decide)
        obtain ⟨w, -, hw, rfl⟩ := rng (a := 0) (m := 19) h2.1 h2.2 (by decide) (by decide)
        have ha3 : (0 : Int32) ≤ a3 := by
          have h5 := h3.1
          rw [i_le] at g4 h5 ⊢
          omega
        have ix1 : nI w * 6 + nI k = nI (w * 6 + k) := by rw [show nI w * 6 = nI (w * 6) from pk_mul w 6, nI_add]
        have ix2 : 6 * nI w + nI k = nI (w * 6 + k) := by rw [show 6 * nI w = nI (6 * w) from pk_mul 6 w, nI_add, Nat.mul_comm]
        have hj : w * 6 + k < 120 := by omega
        obtain ⟨o1, o2⟩ := ho (w * 6 + k) hj
        have hk6 : k < 6 := by omega
        have tk := ht k hk6
        have ak := ha k hk6
        unfold f_X4_charge
        rw [lett_s, lett_s, ix1, ix2]
        have s31 : (pF S 2903 a3).2 31 = S.2 31 := rfl
        have s32 : (pF S 2903 a3).2 32 = S.2 32 := rfl
        have s30 : (pF S 2903 a3).2 30 = S.2 30 := rfl
        have t14 : (pF T 30 a3).2 14 = T.2 14 := rfl
        have t15 : (pF T 30 a3).2 15 = T.2 15 := rfl
        have t16 : (pF T 30 a3).2 16 = T.2 16 := rfl
        have r5 : RG (pF S 2903 a3) (pF T 30 a3) := ⟨hf, ⟨rfl, g2, g3, ha3⟩, ht, ha, ho⟩
        have k5 : Kp pG qG S (pF S 2903 a3) := (Kp.rf _ _ _).pF _ rfl
        have k6 : Kp pGM qGM T (pF T 30 a3) := (Kp.rf _ _ _).pF _ rfl
        -- the free way
        have free : ∃ (r : Int32) (S2 T2 : St), ((wr (pF S 2903 a3) 32 120 (nI (w * 6 + k)) (-1)).bind fun S11 => lett (pF S11 2905 ((S11.1 2905) + 1)) fun S12 => (some (0, S12) : Option (Int32 × St))) = some (r, S2) ∧ ((wr (pF T 30 a3) 16 120 (nI (w * 6 + k)) (-1)).bind fun S31 => lett (pF S31 32 ((S31.1 32) + 1)) fun S32 => (some (0, S32) : Option (Int32 × St))) = some (r, T2) ∧ RG S2 T2 ∧ Kp pG qG S S2 ∧ Kp pGM qGM T T2 := by
          rw [wr_nI hj (by decide), bs_s, lett_s, wr_nI hj (by decide), bs_s, lett_s]
          refine ⟨0, _, _, rfl, rfl, ⟨hf, ⟨rfl, g2, ?_, ha3⟩, ht, ha, ?_⟩, (k5.pA _ rfl).pF _ rfl, (k6.pA _ rfl).pF _ rfl⟩
          · show S.1 2905 + 1 = T.1 32 + 1
            rw [g3]
          · intro j hj2
            show upd (S.2 32) (w * 6 + k) (-1) j = upd (T.2 16) (w * 6 + k) (-1) j ∧ (upd (T.2 16) (w * 6 + k) (-1) j = -1 ∨ (0 : Int32) ≤ upd (T.2 16) (w * 6 + k) (-1) j)
            by_cases e : j = w * 6 + k
            · subst e; rw [upd_at, upd_at]; exact ⟨rfl, Or.inl rfl⟩
            · rw [upd_ne _ _ e, upd_ne _ _ e]; exact ho j hj2
        -- the paid way
        have paid : ∃ (r : Int32) (S2 T2 : St), ((rd (S.2 30) 6 (nI k)).bind fun x5 => if x5 ≤ 0 then (rd (S.2 30) 6 (nI k)).bind fun x6 => some (x6, pF S 2903 a3) else (wr (pF S 2903 a3) 32 120 (nI (w * 6 + k)) a3).bind fun S7 => (rd (S7.2 30) 6 (nI k)).bind fun x8 => lett (pF S7 2904 ((S7.1 2904) + x8)) fun S9 => (rd (S9.2 30) 6 (nI k)).bind fun x10 => some (x10, S9)) = some (r, S2) ∧ ((rd (T.2 14) 6 (nI k)).bind fun x15 => lett (fun (S17 : St) (x18 : Int32) => lett (fun (S21 : St) (x22 : Int32) => (wr S21 16 120 (nI (w * 6 + k)) x22).bind fun S24 => lett (pF S24 31 ((S24.1 31) + x18)) fun S25 => some (x18, S25)) fun j20 => if x18 ≤ 0 then (rd (S17.2 16) 120 (nI (w * 6 + k))).bind fun x26 => j20 S17 x26 else j20 S17 a3) fun j16 => if 0 ≤ x15 then (rd (T.2 14) 6 (nI k)).bind fun x27 => j16 (pF T 30 a3) x27 else j16 (pF T 30 a3) 0) = some (r, T2) ∧ RG S2 T2 ∧ Kp pG qG S S2 ∧ Kp pGM qGM T T2 := by
          have eM : ((rd (T.2 14) 6 (nI k)).bind fun x15 => lett (fun (S17 : St) (x18 : Int32) => lett (fun (S21 : St) (x22 : Int32) => (wr S21 16 120 (nI (w * 6 + k)) x22).bind fun S24 => lett (pF S24 31 ((S24.1 31) + x18)) fun S25 => some (x18, S25)) fun j20 => if x18 ≤ 0 then (rd (S17.2 16) 120 (nI (w * 6 + k))).bind fun x26 => j20 S17 x26 else j20 S17 a3) fun j16 => if 0 ≤ x15 then (rd (T.2 14) 6 (nI k)).bind fun x27 => j16 (pF T 30 a3) x27 else j16 (pF T 30 a3) 0) = some (S.2 30 k, pF (pA (pF T 30 a3) 16 (upd (T.2 16) (w * 6 + k) (if S.2 30 k ≤ 0 then T.2 16 (w * 6 + k) else a3))) 31 (T.1 31 + S.2 30 k)) := by
            rw [rd_nI hk6 (by decide), bs_s, lett_s, bs_s]
            dsimp only
            have e1 : (if (0 : Int32) ≤ T.2 14 k then (lett (fun (S21 : St) (x22 : Int32) => (wr S21 16 120 (nI (w * 6 + k)) x22).bind fun S24 => lett (pF S24 31 ((S24.1 31) + T.2 14 k)) fun S25 => some (T.2 14 k, S25)) fun j20 => if T.2 14 k ≤ 0 then (rd ((pF T 30 a3).2 16) 120 (nI (w * 6 + k))).bind fun x26 => j20 (pF T 30 a3) x26 else j20 (pF T 30 a3) a3) else (lett (fun (S21 : St) (x22 : Int32) => (wr S21 16 120 (nI (w * 6 + k)) x22).bind fun S24 => lett (pF S24 31 ((S24.1 31) + 0)) fun S25 => some (0, S25)) fun j20 => if (0 : Int32) ≤ 0 then (rd ((pF T 30 a3).2 16) 120 (nI (w * 6 + k))).bind fun x26 => j20 (pF T 30 a3) x26 else j20 (pF T 30 a3) a3)) = (lett (fun (S21 : St) (x22 : Int32) => (wr S21 16 120 (nI (w * 6 + k)) x22).bind fun S24 => lett (pF S24 31 ((S24.1 31) + S.2 30 k)) fun S25 => some (S.2 30 k, S25)) fun j20 => if S.2 30 k ≤ 0 then (rd ((pF T 30 a3).2 16) 120 (nI (w * 6 + k))).bind fun x26 => j20 (pF T 30 a3) x26 else j20 (pF T 30 a3) a3) := by
              by_cases c : (0 : Int32) ≤ T.2 14 k
              · rw [if_pos c] at tk; rw [if_pos c, tk]
              · rw [if_neg c] at tk; rw [if_neg c, tk]
            rw [e1, lett_s, t16, rd_nI hj (by decide), bs_s]
            dsimp only
            by_cases c : S.2 30 k ≤ 0
            · rw [if_pos c, if_pos c, wr_nI hj (by decide), bs_s, lett_s]; rfl
            · rw [if_neg c, if_neg c, wr_nI hj (by decide), bs_s, lett_s]; rfl
          rw [eM, rd_nI hk6 (by decide), bs_s, bs_s]
          by_cases c : S.2 30 k ≤ 0
          · rw [if_pos c, if_pos c]
            have z : S.2 30 k = 0 := by
              rw [tk] at c ⊢
              by_cases c2 : (0 : Int32) ≤ T.2 14 k
              · rw [if_pos c2] at c ⊢
                apply i_eq
                rw [i_le] at c c2
                have e0 : (0 : Int32).toInt = 0 := rfl
                omega
              · rw [if_neg c2]
            refine ⟨_, _, _, rfl, rfl, ⟨hf, ⟨rfl, ?_, g3, ha3⟩, ht, ha, ?_⟩, k5, (k6.pA _ rfl).pF _ rfl⟩
            · show S.1 2904 = T.1 31 + S.2 30 k
              rw [z, g2]
              exact (Int32.add_zero _).symm
            · intro j hj2
              show S.2 32 j = upd (T.2 16) (w * 6 + k) (T.2 16 (w * 6 + k)) j ∧ (upd (T.2 16) (w * 6 + k) (T.2 16 (w * 6 + k)) j = -1 ∨ (0 : Int32) ≤ upd (T.2 16) (w * 6 + k) (T.2 16 (w * 6 + k)) j)
              by_cases e : j = w * 6 + k
              · subst e; rw [upd_at]; exact ho _ hj2
              · rw [upd_ne _ _ e]; exact ho j hj2
          · rw [if_neg c, if_neg c, wr_nI hj (by decide), bs_s]
            have q1 : ∀ f, (pA (pF S 2903 a3) 32 f).2 30 = S.2 30 := fun _ => rfl
            have q2 : ∀ f v, (pF (pA (pF S 2903 a3) 32 f) 2904 v).2 30 = S.2 30 := fun _ _ => rfl
            rw [q1, rd_nI hk6 (by decide), bs_s, lett_s, q2, rd_nI hk6 (by decide), bs_s]
            refine ⟨_, _, _, rfl, rfl, ⟨hf, ⟨rfl, ?_, g3, ha3⟩, ht, ha, ?_⟩, (k5.pA _ rfl).pF _ rfl, (k6.pA _ rfl).pF _ rfl⟩
            · show S.1 2904 + S.2 30 k = T.1 31 + S.2 30 k
              rw [g2]
            · intro j hj2
              show upd (S.2 32) (w * 6 + k) a3 j = upd (T.2 16) (w * 6 + k) a3 j ∧ (upd (T.2 16) (w * 6 + k) a3 j = -1 ∨ (0 : Int32) ≤ upd (T.2 16) (w * 6 + k) a3 j)
              by_cases e : j = w * 6 + k
              · subst e; rw [upd_at, upd_at]; exact ⟨rfl, Or.inr ha3⟩
              · rw [upd_ne _ _ e, upd_ne _ _ e]; exact ho j hj2
        have apos : S.2 31 k ≤ 0 ↔ T.2 15 k ≤ 0 := by
          rw [ak]
          by_cases c : (0 : Int32) ≤ T.2 15 k
          · rw [if_pos c]
          · rw [if_neg c]
            constructor
            · intro _
              rw [i_le] at c ⊢
              omega
            · intro _; decide
        unfold f_X4_goesFree
        rw [s31, s32, t15, t16, rd_nI (f := S.2 31) hk6 (by decide), rd_nI (f := S.2 32) hj (by decide), rd_nI (f := T.2 16) hj (by decide), rd_nI (f := T.2 15) hk6 (by decide)]
        repeat rw [bs_s]
        rw [lett_s]
        dsimp only
        repeat rw [bs_s]
        rw [o1, t14, bd2_id]
        by_cases c1 : S.2 31 k ≤ 0
        · rw [if_pos c1, zr_0, bd2_s, if_pos rfl, s30]
          have c2 : T.2 15 k ≤ 0 := apos.mp c1
          by_cases c3 : T.2 16 (w * 6 + k) < 0
          · rw [if_pos c3]; exact paid
          · rw [if_neg c3, if_pos c2]; exact paid
        · rw [if_neg c1]
          have c2 : ¬ T.2 15 k ≤ 0 := fun z => c1 (apos.mpr z)
          have ae : S.2 31 k = T.2 15 k := by
            rw [ak, if_pos]
            rw [i_le] at c2 ⊢
            have e0 : (0 : Int32).toInt = 0 := rfl
            omega
          by_cases c3 : T.2 16 (w * 6 + k) = -1
          · rw [if_pos c3, zr_0, bd2_s, if_pos rfl, s30, if_pos (show T.2 16 (w * 6 + k) < 0 by rw [c3]; decide)]
            exact paid
          · have c4 : (0 : Int32) ≤ T.2 16 (w * 6 + k) := o2.resolve_left c3
            rw [if_neg c3, if_neg (i_nlt.mpr c4), if_neg c2, ae]
            by_cases c5 : T.2 15 k < a3 - T.2 16 (w * 6 + k)
            · rw [if_pos c5, if_pos c5, zr_0, bd2_s, if_pos rfl, s30]
              exact paid
            · rw [if_neg c5, if_neg c5, zr_1, bd2_s, if_neg one_ne]
              exact free
      · rw [b01_f h3, if_pos rfl, if_pos rfl]; exact stay _
    · rw [b01_f h2, if_pos rfl, if_pos rfl]; exact stay _
  · rw [b01_f h1, if_pos rfl, if_pos rfl]; exact stay _
