-- SEASON, second part: the reference's table; level, flood, out, outOn
def bdM (lo hi : Nat → Int32) (mx : Int32) (d : Nat) : Bool := decide (lo d = -1) || !decide (hi d ≤ mx)
theorem p_isBadM {N n d : Nat} {T : St} (hd : d < 60) : f_X7_isBad N n T (nI d) = some (bI (bdM (T.2 9) (T.2 10) (T.1 14) d), T) := by
  unfold f_X7_isBad bdM
  rw [rd_nI hd (by decide), bs_s, rd_nI hd (by decide), bs_s]
  by_cases h : T.2 9 d = -1
  · rw [if_pos h]; simp [h]; rfl
  · rw [if_neg h]
    by_cases h2 : T.2 10 d ≤ T.1 14
    · rw [if_pos h2]; simp [h, h2]; rfl
    · rw [if_neg h2]; simp [h, h2]; rfl
def frm (f : Nat → Int32) (d q : Nat) : Int32 := if d = 60 then 0 else f (d * 10 + q)
theorem p_from {N n d q : Nat} {T : St} (hd : d ≤ 60) (hq : q < 10) : f_X7_from N n T (nI d) (nI q) = some (frm (T.2 19) d q, T) := by
  unfold f_X7_from frm
  by_cases h : d = 60
  · subst h; rw [if_pos (show nI 60 = 60 from rfl), if_pos rfl]
  · rw [if_neg (show ¬ nI d = (60 : Int32) from fun e => h ((nI_eq_iff (a := d) (b := 60) (by omega) (by decide)).mp e)), if_neg h, show (10 : Int32) * nI d = nI (10 * d) from pk_mul 10 d, nI_add, rd_nI (by omega) (by decide), bs_s, Nat.mul_comm]
theorem okIn_iff {bd : Nat → Bool} {ly d r : Nat} : okIn bd ly d r = true ↔ bd d = false ∧ (r = 0 ∨ r = ly) := by
  unfold okIn
  cases bd d with
  | true => simp
  | false => simp
theorem p_goes0 {N n d r ly : Nat} {T : St} {bd : Nat → Bool} (hb : bd d = bdM (T.2 9) (T.2 10) (T.1 14) d) (hl : T.1 15 = nI ly) (hly : ly ≤ 9) (hr : r ≤ ly) (hd : d < 60) : f_X7_goes N n T (nI d) (nI r) 0 = some (if okIn bd ly d r = true then frm (T.2 19) (d + 1) 0 else 100000000, T) := by
  unfold f_X7_goes
  rw [if_pos rfl, p_isBadM hd, bd2_s, ← hb]
  cases hbd : bd d with
  | true =>
    rw [if_neg (show ¬ bI true = 0 by decide), if_neg (fun h => by have := (okIn_iff.mp h).1; rw [hbd] at this; cases this)]
  | false =>
    rw [if_pos (show bI false = 0 from rfl), lett_s]
    dsimp only
    have e : f_X7_from N n T (nI d + 1) 0 = some (frm (T.2 19) (d + 1) 0, T) := by rw [nI_1]; exact p_from (q := 0) (by omega) (by decide)
    rw [e, bd2_s, hl]
    by_cases h0 : r = 0
    · subst h0
      rw [if_pos (show nI 0 ≤ 0 by decide), if_pos (okIn_iff.mpr ⟨hbd, Or.inl rfl⟩)]
    · rw [if_neg (nI_nle (by omega) (by omega))]
      by_cases h1 : r = ly
      · subst h1
        rw [if_pos (nI_le (Nat.le_refl _) (by omega)), if_pos (okIn_iff.mpr ⟨hbd, Or.inr rfl⟩)]
      · rw [if_neg (nI_ge (by omega) (by omega)), if_neg (fun h => (okIn_iff.mp h).2.elim h0 h1)]
theorem mn1_M {r ly : Nat} (hr : r ≤ ly) : (if ly ≤ r then ly else r + 1) = mn1 r ly := by
  unfold mn1
  by_cases h : ly ≤ r
  · rw [if_pos h, if_pos (by omega)]
  · rw [if_neg h, if_neg (by omega)]
theorem p_goes1 {N n d r ly v : Nat} {T : St} (hl : T.1 15 = nI ly) (hly : ly ≤ 9) (hr : r ≤ ly) (hd : d < 60) (hv : frm (T.2 19) (d + 1) (mn1 r ly) = nI v) (hv2 : v < 1000) : f_X7_goes N n T (nI d) (nI r) 1 = some (nI (1 + v), T) := by
  unfold f_X7_goes
  rw [if_neg one_ne, lett_s, hl]
  dsimp only
  have hm := @mn1_le r ly
  have e : ∀ q, q = mn1 r ly → (bd2 (f_X7_from N n T (nI d + 1) (nI q)) fun r6 S5 => if r6 < 100000000 then some (r6 + 1, S5) else some (100000000, S5)) = some (nI (1 + v), T) := by
    intro q hq
    subst hq
    rw [nI_1, p_from (by omega) (by omega), bd2_s, hv, if_pos (show nI v < 100000000 from nI_lt (a := v) (b := 100000000) (by omega) (by decide)), nI_1, Nat.add_comm]
  by_cases h : ly ≤ r
  · rw [if_pos (nI_le h (by omega))]
    exact e ly (by rw [← mn1_M hr, if_pos h])
  · rw [if_neg (nI_ge (by omega) (by omega))]
    have := e (r + 1) (by rw [← mn1_M hr, if_neg h])
    rw [← nI_1 r] at this
    exact this
theorem IC_frm (bd : Nat → Bool) {ly : Nat} (f : Nat → Int32) {i r q : Nat} (hi : i < 60) (hl : ly ≤ 9) (hr : r ≤ ly + 1) (hq : q ≤ ly) : frm (IC bd ly f i r) (60 - i) q = nI (nd bd ly i q) := by
  unfold frm
  by_cases h : i = 0
  · subst h
    rw [if_pos rfl]
    rfl
  · rw [if_neg (by omega)]
    unfold IC
    rw [if_neg (by omega)]
    unfold FC
    rw [if_pos (by omega)]
    have e1 : ((60 - i) * 10 + q) / 10 = 60 - i := by omega
    have e2 : ((60 - i) * 10 + q) % 10 = q := by omega
    rw [e1, e2]
    have e3 : 60 - (60 - i) = i := by omega
    rw [e3]
theorem p_fewM {N n ly : Nat} {T : St} {bd : Nat → Bool} (hb : ∀ d, d < 60 → bd d = bdM (T.2 9) (T.2 10) (T.1 14) d) (hl : T.1 15 = nI ly) (hly : 1 ≤ ly ∧ ly ≤ 9) (hN : 100 < N) : f_X7_fewestOut N n T = some (nI (nd bd ly 60 0), pA T 19 (FC bd ly (T.2 19) 60)) := by
  unfold f_X7_fewestOut
  refine loop1_run (I := fun i S2 x => x = nI (60 - i) - 1 ∧ S2 = pA T 19 (FC bd ly (T.2 19) i)) (k := 60) ⟨rfl, ?_⟩ (by omega) ?_ ?_
  · rw [FC_0]; exact (pA_self T 19).symm
  · intro i S2 x hi hI
    obtain ⟨rfl, rfl⟩ := hI
    refine Or.inl ⟨_, _, ⟨rfl, rfl⟩, fun rc => ?_⟩
    rw [day_sub hi, if_neg (nI_pos (by omega))]
    refine loop1_run (I := fun r S2 x => x = nI r ∧ S2 = pA T 19 (IC bd ly (T.2 19) i r)) (k := ly + 1) ⟨rfl, ?_⟩ (by omega) ?_ ?_
    · rw [IC_0]
    · intro r S2 x hr hI
      obtain ⟨rfl, rfl⟩ := hI
      refine Or.inl ⟨_, _, ⟨rfl, rfl⟩, fun rc2 => ?_⟩
      have hl' : (pA T 19 (IC bd ly (T.2 19) i r)).1 15 = nI ly := hl
      have hq := @mn1_le r ly
      have e10 : 59 - i + 1 = 60 - i := by omega
      have e0 : frm (IC bd ly (T.2 19) i r) (59 - i + 1) 0 = nI (nd bd ly i 0) := by rw [e10]; exact IC_frm bd _ hi hly.2 (by omega) (Nat.zero_le _)
      have e1 : frm ((pA T 19 (IC bd ly (T.2 19) i r)).2 19) (59 - i + 1) (mn1 r ly) = nI (nd bd ly i (mn1 r ly)) := by rw [e10, pA_at]; exact IC_frm bd _ hi hly.2 (by omega) hq
      have b1 := nd_le bd ly i 0
      have b2 := nd_le bd ly i (mn1 r ly)
      rw [hl', if_neg (nI_nlt (by omega) (by omega)), p_goes0 (T := pA T 19 (IC bd ly (T.2 19) i r)) (r := r) (bd := bd) (hb (59 - i) (by omega)) hl' hly.2 (by omega) (by omega), bd2_s, p_goes1 hl' hly.2 (by omega) (by omega) e1 (by omega), bd2_s, pA_at, e0]
      have hndr : nd bd ly (60 - (59 - i)) r = if okIn bd ly (59 - i) r = true then (if nd bd ly i 0 < 1 + nd bd ly i (mn1 r ly) then nd bd ly i 0 else 1 + nd bd ly i (mn1 r ly)) else 1 + nd bd ly i (mn1 r ly) := by
        have e : 60 - (59 - i) = i + 1 := by omega
        rw [e]
        rfl
      have ix : (10 : Int32) * nI (59 - i) + nI r = nI ((59 - i) * 10 + r) := by
        rw [show (10 : Int32) * nI (59 - i) = nI (10 * (59 - i)) from pk_mul 10 (59 - i), nI_add, Nat.mul_comm]
      have fin : ∀ v : Nat, v = nd bd ly (60 - (59 - i)) r → ((wr (pA T 19 (IC bd ly (T.2 19) i r)) 19 610 ((10 * nI (59 - i)) + nI r) (nI v)).bind fun S18 => rc2 S18 (nI r + 1)) = rc2 (pA T 19 (IC bd ly (T.2 19) i (r + 1))) (nI (r + 1)) := by
        intro v hv
        subst hv
        rw [ix, wr_nI (by omega) (by decide), bs_s, pA_at, pA_pA, nI_1, IC_S]
      cases hok : okIn bd ly (59 - i) r with
      | false =>
        rw [hok, if_neg (by decide)] at hndr
        rw [if_neg (show ¬ (false = true) by decide), if_pos (show nI (1 + nd bd ly i (mn1 r ly)) ≤ 100000000 from nI_le (a := 1 + nd bd ly i (mn1 r ly)) (b := 100000000) (by omega) (by decide))]
        exact fin _ hndr.symm
      | true =>
        rw [hok, if_pos rfl] at hndr
        rw [if_pos rfl]
        by_cases h : nd bd ly i 0 < 1 + nd bd ly i (mn1 r ly)
        · rw [if_neg (nI_ge h (by omega))]
          rw [if_pos h] at hndr
          exact fin _ hndr.symm
        · rw [if_pos (nI_le (by omega) (by omega))]
          rw [if_neg h] at hndr
          exact fin _ hndr.symm
    · intro S2 x hI rc2
      obtain ⟨rfl, rfl⟩ := hI
      have hl' : (pA T 19 (IC bd ly (T.2 19) i (ly + 1))).1 15 = nI ly := hl
      have e : nI (60 - (i + 1)) - 1 = nI (59 - i) + (-1) := by
        have e : 60 - (i + 1) = 59 - i := by omega
        rw [e]
        exact Int32.sub_eq_add_neg _ _
      rw [hl', if_pos (nI_lt (by omega) (by omega)), IC_E bd (T.2 19) hi hly.2, e]
  · intro S2 x hI rc
    obtain ⟨rfl, rfl⟩ := hI
    rw [if_pos (show nI (60 - 60) - 1 < 0 by decide)]
    have e := p_from (N := N) (n := n) (d := 0) (q := 0) (T := pA T 19 (FC bd ly (T.2 19) 60)) (by decide) (by decide)
    rw [show f_X7_from N n (pA T 19 (FC bd ly (T.2 19) 60)) 0 0 = _ from e, bd2_s, pA_at]
    unfold frm
    rw [if_neg (by decide)]
    unfold FC
    rw [if_pos (by omega)]
def RSx (bd : Nat → Bool) (ly : Nat) (S T : St) : Prop :=
  (1 ≤ ly ∧ ly ≤ 9 ∧ S.1 2003 = T.1 14 ∧ S.1 2004 = nI ly ∧ T.1 15 = nI ly) ∧ (∀ d, d < 60 → (S.2 21 d = -1 ↔ T.2 9 d = -1) ∧ (S.2 21 d ≠ -1 → S.2 21 d = T.2 10 d)) ∧ (∀ d, d < 60 → bd d = bdF (S.2 21) (S.1 2003) d) ∧ (∀ j, 600 ≤ j → j < 610 → S.2 23 j = 0) ∧ (S.1 2005 = 0 ∨ (S.1 2005 = 1 ∧ S.2 23 0 = nI (nd bd ly 60 0) ∧ ∀ d, d < 60 → S.2 22 d = bI (!inD bd ly d (runD bd ly d))))
def RS (S T : St) : Prop := ∃ (bd : Nat → Bool) (ly : Nat), RSx bd ly S T
def pS (k : Nat) : Bool := Nat.ble 2000 k && Nat.ble k 2099
def qS (k : Nat) : Bool := Nat.ble 21 k && Nat.ble k 23
def pSM (k : Nat) : Bool := [14, 15].contains k
def qSM (k : Nat) : Bool := [9, 10, 19].contains k
theorem RS_kp {S S2 T T2 : St} {P Q P' Q' : Nat → Bool} (h : RS S T) (k1 : Kp P Q S S2) (k2 : Kp P' Q' T T2) (hP : P 2003 = false ∧ P 2004 = false ∧ P 2005 = false) (hQ : Q 21 = false ∧ Q 22 = false ∧ Q 23 = false) (hP' : P' 14 = false ∧ P' 15 = false) (hQ' : Q' 9 = false ∧ Q' 10 = false) : RS S2 T2 := by
  obtain ⟨bd, ly, h⟩ := h
  refine ⟨bd, ly, ?_⟩
  unfold RSx at h ⊢
  rw [k1.1 2003 hP.1, k1.1 2004 hP.2.1, k1.1 2005 hP.2.2, k1.2 21 hQ.1, k1.2 22 hQ.2.1, k1.2 23 hQ.2.2, k2.1 14 hP'.1, k2.1 15 hP'.2, k2.2 9 hQ'.1, k2.2 10 hQ'.2]
  exact h
theorem RS_bad {bd : Nat → Bool} {ly : Nat} {S T : St} (h : RSx bd ly S T) : ∀ d, d < 60 → bd d = bdM (T.2 9) (T.2 10) (T.1 14) d := by
  intro d hd
  obtain ⟨⟨-, -, hm, -, -⟩, hx, hb, -, -⟩ := h
  rw [hb d hd]
  unfold bdF bdM
  obtain ⟨h1, h2⟩ := hx d hd
  by_cases e : S.2 21 d = -1
  · simp [e, h1.mp e]
  · have e2 : ¬ T.2 9 d = -1 := fun x => e (h1.mpr x)
    have e3 : ¬ T.2 10 d = -1 := fun x => e ((h2 e).trans x)
    rw [h2 e, hm]
    simp [e2, e3]
theorem p_planR {N n : Nat} {bd : Nat → Bool} {ly : Nat} {S T : St} (h : RSx bd ly S T) (hN : 100 < N) : ∃ S2 : St, f_X2_plan N n S = some S2 ∧ Kp pS qS S S2 ∧ RSx bd ly S2 T ∧ S2.2 23 0 = nI (nd bd ly 60 0) ∧ ∀ d, d < 60 → S2.2 22 d = bI (!inD bd ly d (runD bd ly d)) := by
  obtain ⟨⟨hl1, hl2, hm, hl, hlT⟩, hx, hb, hf, hv⟩ := id h
  rcases hv with hv | ⟨hv, hv1, hv2⟩
  · refine ⟨_, p_planC hb hl ⟨hl1, hl2⟩ hf hv hN, (((Kp.rf _ _ _).pF _ rfl).pA _ rfl).pA _ rfl, ?_⟩
    have v1 : (pA (pA (pF S 2005 1) 23 (FC bd ly (S.2 23) 60)) 22 (OC bd ly (S.2 22) 60)).2 23 0 = nI (nd bd ly 60 0) := by
      show FC bd ly (S.2 23) 60 0 = _
      unfold FC
      rw [if_pos (by omega)]
    have v2 : ∀ d, d < 60 → (pA (pA (pF S 2005 1) 23 (FC bd ly (S.2 23) 60)) 22 (OC bd ly (S.2 22) 60)).2 22 d = bI (!inD bd ly d (runD bd ly d)) := by
      intro d hd
      show OC bd ly (S.2 22) 60 d = _
      unfold OC
      rw [if_pos hd]
    refine ⟨⟨⟨hl1, hl2, hm, hl, hlT⟩, hx, hb, ?_, Or.inr ⟨rfl, v1, v2⟩⟩, v1, v2⟩
    intro j h1 h2
    show FC bd ly (S.2 23) 60 j = 0
    unfold FC
    rw [if_neg (by omega)]
    exact hf j h1 h2
  · refine ⟨S, ?_, Kp.rf _ _ _, h, hv1, hv2⟩
    unfold f_X2_plan
    rw [if_neg (by rw [hv]; decide)]
theorem d_out {N n : Nat} {S T : St} (hN : 100 < N) (h : RS S T) : ∃ (r : Int32) (S2 T2 : St), f_X6_out N n S = some (r, S2) ∧ f_X7_out N n T = some (r, T2) ∧ RS S2 T2 ∧ Kp pS qS S S2 ∧ Kp pSM qSM T T2 := by
  obtain ⟨bd, ly, hx⟩ := h
  obtain ⟨S2, e1, k1, r1, v1, v2⟩ := p_planR (N := N) (n := n) hx hN
  have e2 := p_fewM (N := N) (n := n) (RS_bad hx) hx.1.2.2.2.2 ⟨hx.1.1, hx.1.2.1⟩ hN
  refine ⟨nI (nd bd ly 60 0), S2, pA T 19 (FC bd ly (T.2 19) 60), ?_, ?_, RS_kp (P := fun _ => false) (Q := fun _ => false) (P' := fun _ => false) (Q' := fun k => Nat.beq k 19) ⟨bd, ly, r1⟩ (Kp.rf _ _ _) ((Kp.rf _ _ _).pA (FC bd ly (T.2 19) 60) rfl) ⟨rfl, rfl, rfl⟩ ⟨rfl, rfl, rfl⟩ ⟨rfl, rfl⟩ ⟨rfl, rfl⟩, k1, (Kp.rf _ _ _).pA _ rfl⟩
  · unfold f_X6_out f_X2_fewest
    rw [e1, bs_s, show (0 : Int32) = nI 0 from rfl, rd_nI (by decide) (by decide), bs_s, bd2_s, v1]
  · unfold f_X7_out
    rw [e2, bd2_s]
theorem d_outOn {N n : Nat} {S T : St} (a1 a2 : Int32) (hN : 100 < N) (h : RS S T) : ∃ (r : Int32) (S2 T2 : St), f_X6_outOn N n S a1 a2 = some (r, S2) ∧ f_X7_outOn N n T a1 a2 = some (r, T2) ∧ RS S2 T2 ∧ Kp pS qS S S2 ∧ Kp pSM qSM T T2 := by
  have stay : ∀ r : Int32, ∃ (r2 : Int32) (S2 T2 : St), some (r, S) = some (r2, S2) ∧ some (r, T) = some (r2, T2) ∧ RS S2 T2 ∧ Kp pS qS S S2 ∧ Kp pSM qSM T T2 := fun r => ⟨r, S, T, rfl, rfl, h, Kp.rf _ _ _, Kp.rf _ _ _⟩
  obtain ⟨bd, ly, hx⟩ := id h
  obtain ⟨⟨hl1, hl2, hm, hl, hlT⟩, hxx, hb, hf, hv⟩ := id hx
  unfold f_X6_outOn f_X7_outOn
  rw [p_within, p_in N n T (lo' := 0) (hi' := 59) (lo := 0) (hi := 59) rfl rfl, bd2_s, bd2_s]
  by_cases h1 : (0 : Int32) ≤ a1 ∧ a1 ≤ 59
  · rw [b01_t h1, if_neg one_ne, if_neg one_ne, p_within, p_in N n T (lo' := 0) (hi' := 1) (lo := 0) (hi := 1) rfl rfl, bd2_s, bd2_s]
    by_cases h2 : (0 : Int32) ≤ a2 ∧ a2 ≤ 1
    · rw [b01_t h2, if_neg one_ne, if_neg one_ne, lett_s]
      dsimp only
      obtain ⟨d, -, hd, rfl⟩ := rng (a := 0) (m := 59) h1.1 h1.2 (by decide) (by decide)
      obtain ⟨w, -, hw, rfl⟩ := rng (a := 0) (m := 1) h2.1 h2.2 (by decide) (by decide)
      rcases (show w = 0 ∨ w = 1 by omega) with rfl | rfl
      · rw [if_pos (show nI 0 = 0 from rfl), if_neg (show ¬ nI 0 = 1 by decide)]
        obtain ⟨S2, e1, k1, r1, v1, v2⟩ := p_planR (N := N) (n := n) hx hN
        have e2 := p_fewM (N := N) (n := n) (RS_bad hx) hlT ⟨hl1, hl2⟩ hN
        have eC : f_X2_isOut N n S (nI d) = some (bI (!inD bd ly d (runD bd ly d)), S2) := by
          unfold f_X2_isOut
          rw [e1, bs_s, rd_nI (by omega) (by decide), bs_s, v2 d (by omega), zr_bI]
        rw [eC, bd2_s, e2, bd2_s]
        have hT2 : ∀ f, (pA T 19 f).1 15 = nI ly := fun _ => hlT
        have hbT := RS_bad hx
        have FCv : ∀ e q, e < 60 → q ≤ ly → frm (FC bd ly (T.2 19) 60) e q = nI (nd bd ly (60 - e) q) := by
          intro e q he hq
          unfold frm
          rw [if_neg (by omega)]
          unfold FC
          rw [if_pos (by omega)]
          have e1 : (e * 10 + q) / 10 = e := by omega
          have e2 : (e * 10 + q) % 10 = q := by omega
          rw [e1, e2]
        have FCn : ∀ e q, e < 60 → q ≤ ly → frm (FC bd ly (T.2 19) 60) (e + 1) q = nI (nd bd ly (59 - e) q) := by
          intro e q he hq
          by_cases h : e = 59
          · subst h; rfl
          · rw [FCv (e + 1) q (by omega) hq]
            have : 60 - (e + 1) = 59 - e := by omega
            rw [this]
        refine ⟨bI (!inD bd ly d (runD bd ly d)), S2, pA T 19 (FC bd ly (T.2 19) 60), ?_, ?_, RS_kp (P := fun _ => false) (Q := fun _ => false) (P' := fun _ => false) (Q' := fun k => Nat.beq k 19) ⟨bd, ly, r1⟩ (Kp.rf _ _ _) ((Kp.rf _ _ _).pA (FC bd ly (T.2 19) 60) rfl) ⟨rfl, rfl, rfl⟩ ⟨rfl, rfl, rfl⟩ ⟨rfl, rfl⟩ ⟨rfl, rfl⟩, k1, (Kp.rf _ _ _).pA _ rfl⟩
        · cases inD bd ly d (runD bd ly d) <;> rfl
        · refine loop3_run (I := fun i S2 x y z => x = nI (runD bd ly i) ∧ y = (if i = 0 then 0 else bI (!inD bd ly (i - 1) (runD bd ly (i - 1)))) ∧ z = nI i ∧ S2 = pA T 19 (FC bd ly (T.2 19) 60)) (k := d + 1) ⟨rfl, rfl, rfl, rfl⟩ (by omega) ?_ ?_
          · intro i S2 x y z hi hI
            obtain ⟨rfl, rfl, rfl, rfl⟩ := hI
            refine Or.inl ⟨_, _, _, _, ⟨rfl, rfl, rfl, rfl⟩, fun rc => ?_⟩
            have hrl := runD_le bd ly i
            have hmm := @mn1_le (runD bd ly i) ly
            rw [if_neg (nI_nlt (by omega) (by omega)), p_goes0 (T := pA T 19 (FC bd ly (T.2 19) 60)) (r := runD bd ly i) (bd := bd) (hbT i (by omega)) (hT2 _) hl2 hrl (by omega), bd2_s, p_from (by omega) (by omega), bd2_s, lett_s, pA_at, FCv i _ (by omega) hrl, FCn i 0 (by omega) (Nat.zero_le _)]
            dsimp only
            rw [hT2]
            have hndr : nd bd ly (60 - i) (runD bd ly i) = if okIn bd ly i (runD bd ly i) = true then (if nd bd ly (59 - i) 0 < 1 + nd bd ly (59 - i) (mn1 (runD bd ly i) ly) then nd bd ly (59 - i) 0 else 1 + nd bd ly (59 - i) (mn1 (runD bd ly i) ly)) else 1 + nd bd ly (59 - i) (mn1 (runD bd ly i) ly) := by
              have e : 60 - i = (59 - i) + 1 := by omega
              rw [e]
              simp only [nd]
              have e3 : 59 - (59 - i) = i := by omega
              rw [e3]
            have b1 := nd_le bd ly (59 - i) 0
            have b2 := nd_le bd ly (59 - i) (mn1 (runD bd ly i) ly)
            have hi1 : i + 1 - 1 = i := rfl
            have outc : ∀ (hin : inD bd ly i (runD bd ly i) = false), (if (1 : Int32) = 0 then rc (pA T 19 (FC bd ly (T.2 19) 60)) 0 1 (nI i + 1) else if nI ly ≤ nI (runD bd ly i) then rc (pA T 19 (FC bd ly (T.2 19) 60)) (nI ly) 1 (nI i + 1) else rc (pA T 19 (FC bd ly (T.2 19) 60)) (nI (runD bd ly i) + 1) 1 (nI i + 1)) = rc (pA T 19 (FC bd ly (T.2 19) 60)) (nI (runD bd ly (i + 1))) (if i + 1 = 0 then 0 else bI (!inD bd ly (i + 1 - 1) (runD bd ly (i + 1 - 1)))) (nI (i + 1)) := by
              intro hin
              rw [if_neg one_ne, if_neg (show ¬ (i + 1 = 0) by omega), hi1, hin, nI_1 i]
              simp only [runD]
              rw [hin, if_neg (show ¬ (false = true) by decide), ← mn1_M hrl]
              by_cases h : ly ≤ runD bd ly i
              · rw [if_pos (nI_le h (by omega)), if_pos h]; rfl
              · rw [if_neg (nI_ge (by omega) (by omega)), if_neg h, nI_1]; rfl
            cases hok : okIn bd ly i (runD bd ly i) with
            | false =>
              rw [hok, if_neg (by decide)] at hndr
              rw [if_neg (show ¬ (false = true) by decide), if_neg (fun e => by
                have e2 := (nI_eq_iff (a := 100000000) (b := nd bd ly (60 - i) (runD bd ly i)) (by decide) (by rw [hndr]; omega)).mp e
                rw [hndr] at e2
                omega)]
              exact outc (by unfold inD; rw [hok]; rfl)
            | true =>
              rw [hok, if_pos rfl] at hndr
              rw [if_pos rfl, hndr]
              by_cases hlt : 1 + nd bd ly (59 - i) (mn1 (runD bd ly i) ly) < nd bd ly (59 - i) 0
              · rw [if_neg (show ¬ (nd bd ly (59 - i) 0 < 1 + nd bd ly (59 - i) (mn1 (runD bd ly i) ly)) by omega), if_neg (show ¬ nI (nd bd ly (59 - i) 0) = nI (1 + nd bd ly (59 - i) (mn1 (runD bd ly i) ly)) from fun e => by
                  have e2 := (nI_eq_iff (by omega) (by omega)).mp e
                  omega)]
                refine outc ?_
                unfold inD
                have : Nat.blt (1 + nd bd ly (59 - i) (mn1 (runD bd ly i) ly)) (nd bd ly (59 - i) 0) = true := by
                  rw [Nat.blt_eq]; exact hlt
                rw [this, hok]
                rfl
              · have hin : inD bd ly i (runD bd ly i) = true := by
                  unfold inD
                  have : Nat.blt (1 + nd bd ly (59 - i) (mn1 (runD bd ly i) ly)) (nd bd ly (59 - i) 0) = false := by
                    cases hb : Nat.blt (1 + nd bd ly (59 - i) (mn1 (runD bd ly i) ly)) (nd bd ly (59 - i) 0) with
                    | false => rfl
                    | true => rw [Nat.blt_eq] at hb; exact absurd hb hlt
                  rw [this, hok]
                  rfl
                have eqv : nI (nd bd ly (59 - i) 0) = nI (if nd bd ly (59 - i) 0 < 1 + nd bd ly (59 - i) (mn1 (runD bd ly i) ly) then nd bd ly (59 - i) 0 else 1 + nd bd ly (59 - i) (mn1 (runD bd ly i) ly)) := by
                  congr 1
                  split <;> omega
                rw [if_pos eqv, if_pos rfl, if_neg (show ¬ (i + 1 = 0) by omega), hi1, hin, nI_1 i]
                simp only [runD]
                rw [hin, if_pos rfl]
                rfl
          · intro S2 x y z hI rc
            obtain ⟨rfl, rfl, rfl, rfl⟩ := hI
            rw [if_pos (nI_lt (by omega) (by omega)), if_neg (show ¬ (d + 1 = 0) by omega), show d + 1 - 1 = d from rfl]
            cases inD bd ly d (runD bd ly d) <;> rfl
      · rw [if_neg (show ¬ nI 1 = 0 by decide), if_pos (show nI 1 = 1 from rfl), p_isBadC (by omega), bd2_s, p_isBadM (by omega), bd2_s, ← hb d (by omega), ← RS_bad hx d (by omega)]
        cases bd d with
        | false => rw [if_pos (show bI false = 0 from rfl)]; exact stay _
        | true => rw [if_neg (show ¬ bI true = 0 by decide)]; exact stay _
    · rw [b01_f h2, if_pos rfl, if_pos rfl]; exact stay _
  · rw [b01_f h1, if_pos rfl, if_pos rfl]; exact stay _
theorem d_level {N n : Nat} {S T : St} (a1 a2 a3 : Int32) (h : RS S T) : ∃ (r : Int32) (S2 T2 : St), f_X6_level N n S a1 a2 a3 = some (r, S2) ∧ f_X7_level N n T a1 a2 a3 = some (r, T2) ∧ RS S2 T2 ∧ Kp pS qS S S2 ∧ Kp pSM qSM T T2 := by
  have stay : ∀ r : Int32, ∃ (r2 : Int32) (S2 T2 : St), some (r, S) = some (r2, S2) ∧ some (r, T) = some (r2, T2) ∧ RS S2 T2 ∧ Kp pS qS S S2 ∧ Kp pSM qSM T T2 := fun r => ⟨r, S, T, rfl, rfl, h, Kp.rf _ _ _, Kp.rf _ _ _⟩
  obtain ⟨bd, ly, hx⟩ := id h
  obtain ⟨⟨hl1, hl2, hm, hl, hlT⟩, hxx, hb, hf, hv⟩ := id hx
  unfold f_X6_level f_X7_level
  rw [p_within, p_in N n T (lo' := 0) (hi' := 59) (lo := 0) (hi := 59) rfl rfl, bd2_s, bd2_s]
  by_cases h1 : (0 : Int32) ≤ a1 ∧ a1 ≤ 59
  · rw [b01_t h1, if_neg one_ne, if_neg one_ne, lett_s]
    dsimp only
    obtain ⟨d, -, hd, rfl⟩ := rng (a := 0) (m := 59) h1.1 h1.2 (by decide) (by decide)
    have put : ∀ (x : Int32), (x = -1 ↔ a2 = -1) → (x ≠ -1 → x = a3) → ∃ (r : Int32) (S2 T2 : St), ((f_X2_foretell N n S (nI d) x).bind fun S13 => zr 1 S13) = some (r, S2) ∧ ((wr T 9 60 (nI d) a2).bind fun S7 => (wr S7 10 60 (nI d) a3).bind fun S8 => zr 1 S8) = some (r, T2) ∧ RS S2 T2 ∧ Kp pS qS S S2 ∧ Kp pSM qSM T T2 := by
      intro x hx1 hx2
      unfold f_X2_foretell
      rw [wr_nI (by omega) (by decide), bs_s, lett_s, bs_s, wr_nI (by omega) (by decide), bs_s, wr_nI (by omega) (by decide), bs_s]
      refine ⟨1, _, _, rfl, rfl, ⟨fun e => bdF (upd (S.2 21) d x) (S.1 2003) e, ly, ⟨hl1, hl2, hm, hl, hlT⟩, ?_, fun e _ => rfl, hf, Or.inl rfl⟩, ((Kp.rf _ _ _).pA _ rfl).pF _ rfl, ((Kp.rf _ _ _).pA _ rfl).pA _ rfl⟩
      intro e he
      show (upd (S.2 21) d x e = -1 ↔ upd (T.2 9) d a2 e = -1) ∧ (upd (S.2 21) d x e ≠ -1 → upd (S.2 21) d x e = upd (T.2 10) d a3 e)
      by_cases c : e = d
      · subst c; rw [upd_at, upd_at, upd_at]; exact ⟨hx1, hx2⟩
      · rw [upd_ne _ _ c, upd_ne _ _ c, upd_ne _ _ c]; exact hxx e he
    by_cases c1 : a2 = -1
    · rw [if_pos c1, if_pos c1]
      exact put (-1) ⟨fun _ => c1, fun _ => rfl⟩ (fun e => absurd rfl e)
    · rw [if_neg c1, if_neg c1, p_within, p_in N n T (lo' := 0) (hi' := 99) (lo := 0) (hi := 99) rfl rfl, bd2_s, bd2_s]
      by_cases h2 : (0 : Int32) ≤ a2 ∧ a2 ≤ 99
      · rw [b01_t h2, if_neg one_ne, if_neg one_ne, p_within, p_in N n T (lo' := a2.toInt64) (hi' := 99) (lo := a2) (hi := 99) rfl rfl, bd2_s, bd2_s]
        by_cases h3 : a2 ≤ a3 ∧ a3 ≤ 99
        · rw [b01_t h3, if_neg one_ne, if_neg one_ne]
          have c3 : a3 ≠ -1 := by
            intro e
            have h4 := h3.1
            rw [e] at h4
            have h5 := h2.1
            rw [i_le] at h4 h5
            have e0 : (0 : Int32).toInt = 0 := rfl
            have e1 : (-1 : Int32).toInt = -1 := rfl
            omega
          exact put a3 ⟨fun e => absurd e c3, fun e => absurd e c1⟩ (fun _ => rfl)
        · rw [b01_f h3, if_pos rfl, if_pos rfl]; exact stay _
      · rw [b01_f h2, if_pos rfl, if_pos rfl]; exact stay _
  · rw [b01_f h1, if_pos rfl, if_pos rfl]; exact stay _
theorem d_flood {N n : Nat} {S T : St} (a1 a2 : Int32) (h : RS S T) : ∃ (r : Int32) (S2 T2 : St), f_X6_flood N n S a1 a2 = some (r, S2) ∧ f_X7_flood N n T a1 a2 = some (r, T2) ∧ RS S2 T2 ∧ Kp pS qS S S2 ∧ Kp pSM qSM T T2 := by
  have stay : ∀ r : Int32, ∃ (r2 : Int32) (S2 T2 : St), some (r, S) = some (r2, S2) ∧ some (r, T) = some (r2, T2) ∧ RS S2 T2 ∧ Kp pS qS S S2 ∧ Kp pSM qSM T T2 := fun r => ⟨r, S, T, rfl, rfl, h, Kp.rf _ _ _, Kp.rf _ _ _⟩
  obtain ⟨bd, ly, hx⟩ := id h
  obtain ⟨⟨hl1, hl2, hm, hl, hlT⟩, hxx, hb, hf, hv⟩ := id hx
  unfold f_X6_flood f_X7_flood
  rw [p_within, p_in N n T (lo' := 0) (hi' := 99) (lo := 0) (hi := 99) rfl rfl, bd2_s, bd2_s]
  by_cases h1 : (0 : Int32) ≤ a1 ∧ a1 ≤ 99
  · rw [b01_t h1, if_neg one_ne, if_neg one_ne, p_within, p_in N n T (lo' := 1) (hi' := 9) (lo := 1) (hi := 9) rfl rfl, bd2_s, bd2_s]
    by_cases h2 : (1 : Int32) ≤ a2 ∧ a2 ≤ 9
    · rw [b01_t h2, if_neg one_ne, if_neg one_ne]
      obtain ⟨y, hy1, hy2, rfl⟩ := rng (a := 1) (m := 9) h2.1 h2.2 (by decide) (by decide)
      unfold f_X2_setLimits
      rw [lett_s, lett_s, lett_s, bs_s, lett_s, lett_s]
      exact ⟨1, _, _, rfl, rfl, ⟨fun e => bdF (S.2 21) a1 e, y, ⟨hy1, hy2, rfl, rfl, rfl⟩, hxx, fun e _ => rfl, hf, Or.inl rfl⟩, (((Kp.rf _ _ _).pF _ rfl).pF _ rfl).pF _ rfl, ((Kp.rf _ _ _).pF _ rfl).pF _ rfl⟩
    · rw [b01_f h2, if_pos rfl, if_pos rfl]; exact stay _
  · rw [b01_f h1, if_pos rfl, if_pos rfl]; exact stay _
