-- TOKENS OF THE CLASS
theorem TpC_F {ln : Nat} {cs : Nat → Nat} {S : St} (h : TpC ln cs S) {k : Nat} (v : Int32) (hk : 2401 ≠ k) : TpC ln cs (pF S k v) := ⟨h.1, (pF_ne S v hk).trans h.2.1, h.2.2⟩
theorem p_size {N n ln : Nat} {cs : Nat → Nat} {S : St} (h : TpC ln cs S) : f_X3_size N n S = some (nI ln, S) := by
  unfold f_X3_size
  rw [h.2.1]
theorem dg_step {v c : Nat} (hv : v ≤ 1000000) (h1 : 48 ≤ c) (h2 : c ≤ 57) : (if (1000 : Int32) < nI (min v 1000) * 10 + nI c - 48 then (1000 : Int32) else nI (min v 1000) * 10 + nI c - 48) = nI (min (if v ≤ 99999 then 10 * v + c - 48 else v) 1000) := by
  rw [show nI (min v 1000) * 10 = nI (min v 1000 * 10) from pk_mul _ 10, nI_add, show nI (min v 1000 * 10 + c) - 48 = nI (min v 1000 * 10 + c - 48) from pk_sub (b := 48) (by omega)]
  by_cases h : min v 1000 * 10 + c - 48 ≤ 1000
  · rw [if_neg (show ¬ (1000 : Int32) < nI (min v 1000 * 10 + c - 48) from nI_nlt (a := 1000) h (by decide))]
    congr 1
    split <;> omega
  · rw [if_pos (show (1000 : Int32) < nI (min v 1000 * 10 + c - 48) from nI_lt (a := 1000) (by omega) (by omega))]
    show nI 1000 = _
    congr 1
    split <;> omega
def Dg (S : St) (v q : Int32) : St := pF (pF S 2608 v) 2605 q
theorem Dg_st (S : St) (v q v2 q2 : Int32) : pF (pF (Dg S v q) 2608 v2) 2605 q2 = Dg S v2 q2 := by
  unfold Dg
  rw [pF_comm _ q v2 (by decide), pF_pF, pF_pF]
theorem bz1 {b : Bool} (h : b = true) : ¬ bz b = 0 := by
  rw [h]; decide
theorem bz0 {b : Bool} (h : b = false) : bz b = 0 := by
  rw [h]; rfl
theorem p_takeDigits {N n ln p : Nat} {cs : Nat → Nat} {S : St} (h : TpC ln cs S) (hp : p ≤ ln) (hc : S.1 2605 = nI p) (hN : 1000 < N) : f_X5_takeDigits_24 N n S = some (Dg (pF S 2606 3) (nI (min (dgv cs p (runE cs ln isD p - p)) 1000)) (nI (runE cs ln isD p))) := by
  obtain ⟨r1, r2, r3, r4⟩ := runE_spec cs isD hp
  have hl := h.1
  have hd : ∀ j, p ≤ j → j < runE cs ln isD p → 48 ≤ cs j ∧ cs j ≤ 57 := fun j a b => ((byM (cs j) (h.2.2 j (by omega)).1).2.2.2.2.2.1 (r3 j a b)).2
  have tp : ∀ v q, TpC ln cs (Dg (pF S 2606 3) v q) := fun v q => TpC_F (TpC_F (TpC_F h 3 (by decide)) v (by decide)) q (by decide)
  have a5 : ∀ v q, (Dg (pF S 2606 3) v q).1 2605 = q := fun v q => pF_at _ _ _
  have a8 : ∀ v q, (Dg (pF S 2606 3) v q).1 2608 = v := fun v q => (pF_ne _ _ (by decide)).trans (pF_at _ _ _)
  unfold f_X5_takeDigits_24
  rw [lett_s, lett_s]
  refine loop0_run (I := fun i S2 => S2 = Dg (pF S 2606 3) (nI (min (dgv cs p i) 1000)) (nI (p + i))) (k := runE cs ln isD p - p) ?_ (by omega) ?_ ?_
  · have e : (pF (pF S 2606 3) 2608 0).1 2605 = nI p := hc
    show pF (pF S 2606 3) 2608 0 = pF (pF (pF S 2606 3) 2608 0) 2605 (nI p)
    rw [← e, pF_self]
  · intro i S2 hi hI
    subst hI
    refine Or.inl ⟨_, rfl, fun rc => ?_⟩
    have hj := h.2.2 (p + i) (by omega)
    have hdj := hd (p + i) (by omega) (by omega)
    rw [p_size (tp _ _), bd2_s, a5, if_neg (show ¬ nI ln ≤ nI (p + i) from nI_ge (by omega) (by omega)), p_byteAt (tp _ _) (by omega), bd2_s, p_isDigit _ _ _ hj.1, bd2_s, if_neg (bz1 (r3 (p + i) (by omega) (by omega))), a5, p_byteAt (tp _ _) (by omega), bd2_s, lett_s, lett_s, a8, dg_step (dgv_le hd i (by omega)) hdj.1 hdj.2]
    rw [show ∀ v, (pF (Dg (pF S 2606 3) (nI (min (dgv cs p i) 1000)) (nI (p + i))) 2608 v).1 2605 = nI (p + i) from fun v => (pF_ne _ _ (by decide)).trans (a5 _ _), nI_1, Dg_st]
    rfl
  · intro S2 hI rc
    subst hI
    have e : p + (runE cs ln isD p - p) = runE cs ln isD p := by omega
    rw [e, p_size (tp _ _), bd2_s, a5]
    by_cases hx : runE cs ln isD p < ln
    · have hj := h.2.2 _ hx
      rw [if_neg (show ¬ nI ln ≤ nI (runE cs ln isD p) from nI_ge (by omega) (by omega)), p_byteAt (tp _ _) hx, bd2_s, p_isDigit _ _ _ hj.1, bd2_s, if_pos (bz0 (r4 hx))]
    · rw [if_pos (show nI ln ≤ nI (runE cs ln isD p) from nI_le (by omega) (by omega))]
theorem tx0 : ∀ i, i < 4 → rd (txc 0) (txl 0) (nI i) = some (nI (wTl i)) := by decide +kernel
theorem tx1 : ∀ i, i < 5 → rd (txc 1) (txl 1) (nI i) = some (nI (wAg i)) := by decide +kernel
theorem w_lt256 (j : Nat) : wTl j < 256 ∧ wAg j < 256 := by
  unfold wTl wAg
  constructor
  · split
    · decide
    · split <;> decide
  · split
    · decide
    · split
      · decide
      · split
        · decide
        · split <;> decide
theorem p_tokenT {N n ln p e : Nat} {cs : Nat → Nat} {S : St} (h : TpC ln cs S) (hp : p ≤ e) (he : e ≤ ln) (hc : S.1 2605 = nI e) (hs : S.1 2607 = nI p) (hN : 1000 < N) : f_X5_tokenIs_24_0 N n S = some (bz (isT cs p e), S) := by
  have hl := h.1
  unfold f_X5_tokenIs_24_0
  rw [hc, hs, pk_sub hp]
  by_cases c : e = p + 4
  · rw [if_pos (show nI (e - p) = 4 by rw [c, Nat.add_sub_cancel_left]; rfl)]
    refine loop1_run (I := fun i S2 x => x = nI i ∧ S2 = S ∧ ∀ j, j < i → cs (p + j) = wTl j) (k := 4) ⟨rfl, rfl, fun j hj => absurd hj (by omega)⟩ (by omega) ?_ ?_
    · intro i S2 x hi hI
      obtain ⟨rfl, rfl, hq⟩ := hI
      have hj := h.2.2 (p + i) (by omega)
      by_cases d : cs (p + i) = wTl i
      · refine Or.inl ⟨_, _, ⟨rfl, rfl, fun j hj2 => ?_⟩, fun rc => ?_⟩
        · by_cases e2 : j = i
          · rw [e2]; exact d
          · exact hq j (by omega)
        · rw [if_neg (show ¬ (4 : Int32) ≤ nI i from nI_ge (b := 4) hi (by decide)), hs, nI_add, p_byteAt h (by omega), bd2_s, tx0 i hi, bs_s, d, if_pos rfl, nI_1]
      · refine Or.inr fun rc => ?_
        rw [if_neg (show ¬ (4 : Int32) ≤ nI i from nI_ge (b := 4) hi (by decide)), hs, nI_add, p_byteAt h (by omega), bd2_s, tx0 i hi, bs_s, if_neg (fun z => d ((nI_eq (by omega) (by have := (w_lt256 i).1; omega)).mp z)), zr_0]
        rw [show isT cs p e = false from decide_eq_false (fun z => d (z.2 i hi))]
        rfl
    · intro S2 x hI rc
      obtain ⟨rfl, rfl, hq⟩ := hI
      rw [if_pos (show (4 : Int32) ≤ nI 4 by decide), zr_1, show isT cs p e = true from decide_eq_true ⟨c, hq⟩]
      rfl
  · rw [if_neg (show ¬ nI (e - p) = 4 from fun z => c (by have := (nI_eq (a := e - p) (b := 4) (by omega) (by decide)).mp z; omega)), zr_0, show isT cs p e = false from decide_eq_false (fun z => c z.1)]
    rfl
theorem p_tokenA {N n ln p e : Nat} {cs : Nat → Nat} {S : St} (h : TpC ln cs S) (hp : p ≤ e) (he : e ≤ ln) (hc : S.1 2605 = nI e) (hs : S.1 2607 = nI p) (hN : 1000 < N) : f_X5_tokenIs_24_1 N n S = some (bz (isA cs p e), S) := by
  have hl := h.1
  unfold f_X5_tokenIs_24_1
  rw [hc, hs, pk_sub hp]
  by_cases c : e = p + 5
  · rw [if_pos (show nI (e - p) = 5 by rw [c, Nat.add_sub_cancel_left]; rfl)]
    refine loop1_run (I := fun i S2 x => x = nI i ∧ S2 = S ∧ ∀ j, j < i → cs (p + j) = wAg j) (k := 5) ⟨rfl, rfl, fun j hj => absurd hj (by omega)⟩ (by omega) ?_ ?_
    · intro i S2 x hi hI
      obtain ⟨rfl, rfl, hq⟩ := hI
      have hj := h.2.2 (p + i) (by omega)
      by_cases d : cs (p + i) = wAg i
      · refine Or.inl ⟨_, _, ⟨rfl, rfl, fun j hj2 => ?_⟩, fun rc => ?_⟩
        · by_cases e2 : j = i
          · rw [e2]; exact d
          · exact hq j (by omega)
        · rw [if_neg (show ¬ (5 : Int32) ≤ nI i from nI_ge (b := 5) hi (by decide)), hs, nI_add, p_byteAt h (by omega), bd2_s, tx1 i hi, bs_s, d, if_pos rfl, nI_1]
      · refine Or.inr fun rc => ?_
        rw [if_neg (show ¬ (5 : Int32) ≤ nI i from nI_ge (b := 5) hi (by decide)), hs, nI_add, p_byteAt h (by omega), bd2_s, tx1 i hi, bs_s, if_neg (fun z => d ((nI_eq (by omega) (by have := (w_lt256 i).2; omega)).mp z)), zr_0]
        rw [show isA cs p e = false from decide_eq_false (fun z => d (z.2 i hi))]
        rfl
    · intro S2 x hI rc
      obtain ⟨rfl, rfl, hq⟩ := hI
      rw [if_pos (show (5 : Int32) ≤ nI 5 by decide), zr_1, show isA cs p e = true from decide_eq_true ⟨c, hq⟩]
      rfl
  · rw [if_neg (show ¬ nI (e - p) = 5 from fun z => c (by have := (nI_eq (a := e - p) (b := 5) (by omega) (by decide)).mp z; omega)), zr_0, show isA cs p e = false from decide_eq_false (fun z => c z.1)]
    rfl
theorem p_takeLetters {N n ln p : Nat} {cs : Nat → Nat} {S : St} (h : TpC ln cs S) (hp : p ≤ ln) (hc : S.1 2605 = nI p) (hs : S.1 2607 = nI p) (hN : 1000 < N) : f_X5_takeLetters_24 N n S = some (pF (pF S 2605 (nI (runE cs ln isL p))) 2606 (nI (if isT cs p (runE cs ln isL p) then 1 else if isA cs p (runE cs ln isL p) then 2 else 5))) := by
  obtain ⟨r1, r2, r3, r4⟩ := runE_spec cs isL hp
  have hl := h.1
  have tp : ∀ q, TpC ln cs (pF S 2605 q) := fun q => TpC_F h q (by decide)
  have a5 : ∀ q, (pF S 2605 q).1 2605 = q := fun q => pF_at _ _ _
  have a7 : ∀ q, (pF S 2605 q).1 2607 = nI p := fun q => (pF_ne _ _ (by decide)).trans hs
  have J : (bd2 (f_X5_tokenIs_24_0 N n (pF S 2605 (nI (runE cs ln isL p))) ) fun r11 S10 =>
      if r11 = 0 then
        bd2 (f_X5_tokenIs_24_1 N n S10 ) fun r14 S13 =>
        if r14 = 0 then
          lett (pF S13 2606 5) fun S16 =>
          some S16
        else
          lett (pF S13 2606 2) fun S17 =>
          some S17
      else
        lett (pF S10 2606 1) fun S18 =>
        some S18) = some (pF (pF S 2605 (nI (runE cs ln isL p))) 2606 (nI (if isT cs p (runE cs ln isL p) then 1 else if isA cs p (runE cs ln isL p) then 2 else 5))) := by
    rw [p_tokenT (tp _) r1 r2 (a5 _) (a7 _) hN, bd2_s, p_tokenA (tp _) r1 r2 (a5 _) (a7 _) hN, bd2_s, lett_s, lett_s, lett_s]
    cases isT cs p (runE cs ln isL p)
    · cases isA cs p (runE cs ln isL p) <;> rfl
    · rfl
  unfold f_X5_takeLetters_24
  refine loop0_run (I := fun i S2 => S2 = pF S 2605 (nI (p + i))) (k := runE cs ln isL p - p) ?_ (by omega) ?_ ?_
  · show S = pF S 2605 (nI p)
    rw [← hc, pF_self]
  · intro i S2 hi hI
    subst hI
    refine Or.inl ⟨_, rfl, fun rc => ?_⟩
    have hj := h.2.2 (p + i) (by omega)
    rw [p_size (tp _), bd2_s, a5, lett_s, if_neg (show ¬ nI ln ≤ nI (p + i) from nI_ge (by omega) (by omega)), p_byteAt (tp _) (by omega), bd2_s, p_isLetter _ _ _ hj.1, bd2_s, if_neg (bz1 (r3 (p + i) (by omega) (by omega))), lett_s, a5, nI_1, pF_pF]
    rfl
  · intro S2 hI rc
    subst hI
    have e : p + (runE cs ln isL p - p) = runE cs ln isL p := by omega
    rw [e, p_size (tp _), bd2_s, a5, lett_s]
    by_cases hx : runE cs ln isL p < ln
    · have hj := h.2.2 _ hx
      rw [if_neg (show ¬ nI ln ≤ nI (runE cs ln isL p) from nI_ge (by omega) (by omega)), p_byteAt (tp _) hx, bd2_s, p_isLetter _ _ _ hj.1, bd2_s, if_pos (bz0 (r4 hx))]
      exact J
    · rw [if_pos (show nI ln ≤ nI (runE cs ln isL p) from nI_le (by omega) (by omega))]
      exact J
def nxC (cs : Nat → Nat) (ln p : Nat) (S : St) : St :=
  if tkS cs ln p < ln then
    if isD (cs (tkS cs ln p)) then Dg (pF (pF (pF S 2605 (nI (tkS cs ln p))) 2607 (nI (tkS cs ln p))) 2606 3) (nI (min (tkV cs ln p) 1000)) (nI (tkQ cs ln p))
    else pF (pF (pF (pF S 2605 (nI (tkS cs ln p))) 2607 (nI (tkS cs ln p))) 2605 (nI (tkQ cs ln p))) 2606 (nI (tkK cs ln p))
  else pF (pF (pF S 2605 (nI (tkS cs ln p))) 2607 (nI (tkS cs ln p))) 2606 0
theorem p_nextC {N n ln p : Nat} {cs : Nat → Nat} {S : St} (h : TpC ln cs S) (hp : p ≤ ln) (hc : S.1 2605 = nI p) (hN : 1000 < N) : f_X5_nextToken_24 N n S = some (nxC cs ln p S) := by
  obtain ⟨r1, r2, r3, r4⟩ := runE_spec cs isS hp
  have eS : runE cs ln isS p = tkS cs ln p := rfl
  rw [eS] at r1 r2 r3 r4
  have hl := h.1
  have tp : ∀ q, TpC ln cs (pF S 2605 q) := fun q => TpC_F h q (by decide)
  have a5 : ∀ q, (pF S 2605 q).1 2605 = q := fun q => pF_at _ _ _
  have tx : TpC ln cs (pF (pF S 2605 (nI (tkS cs ln p))) 2607 (nI (tkS cs ln p))) := TpC_F (tp _) _ (by decide)
  have x5 : (pF (pF S 2605 (nI (tkS cs ln p))) 2607 (nI (tkS cs ln p))).1 2605 = nI (tkS cs ln p) := (pF_ne _ _ (by decide)).trans (pF_at _ _ _)
  have x7 : (pF (pF S 2605 (nI (tkS cs ln p))) 2607 (nI (tkS cs ln p))).1 2607 = nI (tkS cs ln p) := pF_at _ _ _
  have J : (lett (pF (pF S 2605 (nI (tkS cs ln p))) 2607 ((pF S 2605 (nI (tkS cs ln p))).1 2605)) fun S10 =>
      bd2 (f_X3_byteAt N n S10 (S10.1 2605)) fun r12 S11 =>
      bd2 (f_X3_size N n S11 ) fun r15 S14 =>
      if (S11.1 2605) < r15 then
        bd2 (f_X5_isDigit N n S14 r12) fun r18 S17 =>
        if r18 = 0 then
          bd2 (f_X5_isLetter N n S17 r12) fun r21 S20 =>
          if r21 = 0 then
            lett (pF S20 2605 ((S20.1 2605) + 1)) fun S23 =>
            if r12 = 59 then
              lett (pF S23 2606 4) fun S25 =>
              some S25
            else
              lett (pF S23 2606 5) fun S24 =>
              some S24
          else
            (f_X5_takeLetters_24 N n S20 ).bind fun S26 =>
            some S26
        else
          (f_X5_takeDigits_24 N n S17 ).bind fun S29 =>
          some S29
      else
        lett (pF S14 2606 0) fun S32 =>
        some S32) = some (nxC cs ln p S) := by
    rw [lett_s, a5, x5]
    unfold nxC
    by_cases hx : tkS cs ln p < ln
    · have hj := h.2.2 _ hx
      rw [if_pos hx, p_byteAt tx hx, bd2_s, p_size tx, bd2_s, x5, if_pos (show nI (tkS cs ln p) < nI ln from nI_lt hx (by omega)), p_isDigit _ _ _ hj.1, bd2_s]
      by_cases hd : isD (cs (tkS cs ln p)) = true
      · rw [if_pos hd, if_neg (bz1 hd), p_takeDigits tx r2 x5 hN, bs_s]
        unfold tkV tkQ
        rw [if_pos hx, if_pos hd]
      · rw [if_neg hd, if_pos (bz0 (by simpa using hd)), p_isLetter _ _ _ hj.1, bd2_s]
        by_cases hL : isL (cs (tkS cs ln p)) = true
        · rw [if_neg (bz1 hL), p_takeLetters tx r2 x5 x7 hN, bs_s]
          unfold tkK tkQ
          rw [if_pos hx, if_neg hd, if_pos hL, if_pos hx, if_neg hd, if_pos hL]
        · rw [if_pos (bz0 (by simpa using hL)), lett_s, lett_s, lett_s, x5, nI_1]
          unfold tkK tkQ
          rw [if_pos hx, if_neg hd, if_neg hL, if_pos hx, if_neg hd, if_neg hL]
          by_cases h9 : cs (tkS cs ln p) = 59
          · rw [if_pos h9, if_pos ((byC _ hj.1).2.2.2.2.mpr h9)]; rfl
          · rw [if_neg h9, if_neg (fun z => h9 ((byC _ hj.1).2.2.2.2.mp z))]; rfl
    · have e : tkS cs ln p = ln := by omega
      rw [if_neg hx, e]
      rw [e] at tx x5
      rw [p_byteEnd tx, bd2_s, p_size tx, bd2_s, x5, if_neg (show ¬ nI ln < nI ln from nI_nlt (Nat.le_refl _) (by omega)), lett_s]
  unfold f_X5_nextToken_24
  refine loop0_run (I := fun i S2 => S2 = pF S 2605 (nI (p + i))) (k := tkS cs ln p - p) ?_ (by omega) ?_ ?_
  · show S = pF S 2605 (nI p)
    rw [← hc, pF_self]
  · intro i S2 hi hI
    subst hI
    refine Or.inl ⟨_, rfl, fun rc => ?_⟩
    have hj := h.2.2 (p + i) (by omega)
    have h32 : cs (p + i) = 32 := Nat.eq_of_beq_eq_true (r3 (p + i) (by omega) (by omega))
    rw [p_size (tp _), bd2_s, a5, lett_s, if_neg (show ¬ nI ln ≤ nI (p + i) from nI_ge (by omega) (by omega)), p_byteAt (tp _) (by omega), bd2_s, if_pos ((byC _ hj.1).2.2.2.1.mpr h32), lett_s, a5, nI_1, pF_pF]
    rfl
  · intro S2 hI rc
    subst hI
    have e : p + (tkS cs ln p - p) = tkS cs ln p := by omega
    rw [e, p_size (tp _), bd2_s, a5, lett_s]
    by_cases hx : tkS cs ln p < ln
    · have hj := h.2.2 _ hx
      have h32 : ¬ cs (tkS cs ln p) = 32 := fun z => by
        have := r4 hx
        rw [z] at this
        cases this
      rw [if_neg (show ¬ nI ln ≤ nI (tkS cs ln p) from nI_ge (by omega) (by omega)), p_byteAt (tp _) hx, bd2_s, if_neg (fun z => h32 ((byC _ hj.1).2.2.2.1.mp z))]
      exact J
    · rw [if_pos (show nI ln ≤ nI (tkS cs ln p) from nI_le (by omega) (by omega))]
      exact J
def pTk (k : Nat) : Bool := Nat.ble 2605 k && Nat.ble k 2608
def qNo (_ : Nat) : Bool := false
theorem nxC_spec (cs : Nat → Nat) (ln p : Nat) (S : St) : Kp pTk qNo S (nxC cs ln p S) ∧ (nxC cs ln p S).1 2605 = nI (tkQ cs ln p) ∧ (nxC cs ln p S).1 2606 = nI (tkK cs ln p) ∧ (nxC cs ln p S).1 2607 = nI (tkS cs ln p) ∧ (tkK cs ln p = 3 → (nxC cs ln p S).1 2608 = nI (min (tkV cs ln p) 1000)) ∨ ¬ tkS cs ln p ≤ ln := by
  by_cases hle : tkS cs ln p ≤ ln
  · refine Or.inl ?_
    have kx : Kp pTk qNo S (pF (pF S 2605 (nI (tkS cs ln p))) 2607 (nI (tkS cs ln p))) := ((Kp.rf _ _ _).pF _ rfl).pF _ rfl
    unfold nxC
    by_cases hx : tkS cs ln p < ln
    · rw [if_pos hx]
      by_cases hd : isD (cs (tkS cs ln p)) = true
      · rw [if_pos hd]
        have k3 : tkK cs ln p = 3 := by
          unfold tkK
          rw [if_pos hx, if_pos hd]
        rw [k3]
        exact ⟨((kx.pF _ rfl).pF _ rfl).pF _ rfl, pF_at _ _ _, rfl, rfl, fun _ => rfl⟩
      · rw [if_neg hd]
        refine ⟨(kx.pF _ rfl).pF _ rfl, rfl, pF_at _ _ _, rfl, fun h3 => ?_⟩
        exfalso
        unfold tkK at h3
        rw [if_pos hx, if_neg hd] at h3
        by_cases hL : isL (cs (tkS cs ln p)) = true
        · rw [if_pos hL] at h3
          split at h3
          · cases h3
          · split at h3 <;> cases h3
        · rw [if_neg hL] at h3
          split at h3 <;> cases h3
    · rw [if_neg hx]
      have e : tkS cs ln p = ln := by omega
      have k0 : tkK cs ln p = 0 := by
        unfold tkK
        rw [if_neg hx]
      have q0 : tkQ cs ln p = ln := by
        unfold tkQ
        rw [if_neg hx]
      rw [k0, q0, e]
      rw [e] at kx
      exact ⟨kx.pF _ rfl, rfl, pF_at _ _ _, rfl, fun h => absurd h (by decide)⟩
  · exact Or.inr hle
