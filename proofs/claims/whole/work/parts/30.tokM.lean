-- TOKENS OF THE REFERENCE
theorem TpM_F {ln : Nat} {cs : Nat → Nat} {S : St} (h : TpM ln cs S) (k : Nat) (v : Int32) : TpM ln cs (pF S k v) := h
theorem rdM {ln p : Nat} {cs : Nat → Nat} {T : St} (h : TpM ln cs T) (hp : p < ln) : rd (T.2 11) 200 (nI p) = some (sb_b (cs p)) := by
  have hl := h.1
  rw [rd_nI (by omega) (by decide), (h.2 p hp).2]
theorem pF_same {S : St} {k : Nat} {v : Int32} (h : S.1 k = v) : pF S k v = S := by
  rw [← h, pF_self]
def Dm (S : St) (v q : Int32) : St := pF (pF S 21 v) 18 q
theorem Dm_st (S : St) (v q v2 q2 : Int32) : pF (pF (Dm S v q) 21 v2) 18 q2 = Dm S v2 q2 := by
  unfold Dm
  rw [pF_comm _ q v2 (by decide), pF_pF, pF_pF]
theorem dm_step {v c : Nat} (h1 : 48 ≤ c) : 10 * nI v + nI c - 48 = nI (10 * v + c - 48) := by
  rw [show 10 * nI v = nI (10 * v) from pk_mul 10 _, nI_add, show nI (10 * v + c) - 48 = nI (10 * v + c - 48) from pk_sub (b := 48) (by omega)]
/-- a word as the reference tells it from its number -/
theorem wdv_T {cs : Nat → Nat} {p e : Nat} (hp : p < e) (h : ∀ j, p ≤ j → j < e → 65 ≤ cs j ∧ cs j ≤ 122) (h5 : e - p ≤ 5) : (wdv cs p (e - p) = 13826860 ↔ isT cs p e = true) ∧ (wdv cs p (e - p) = 564009582 ↔ isA cs p e = true) := by
  have hT : isT cs p e = true ↔ (e = p + 4 ∧ ∀ j, j < 4 → cs (p + j) = wTl j) := ⟨fun z => of_decide_eq_true z, fun z => decide_eq_true z⟩
  have hA : isA cs p e = true ↔ (e = p + 5 ∧ ∀ j, j < 5 → cs (p + j) = wAg j) := ⟨fun z => of_decide_eq_true z, fun z => decide_eq_true z⟩
  rw [hT, hA]
  have g0 := h p (by omega) (by omega)
  rcases (show e = p + 1 ∨ e = p + 2 ∨ e = p + 3 ∨ e = p + 4 ∨ e = p + 5 by omega) with rfl | rfl | rfl | rfl | rfl
  · rw [Nat.add_sub_cancel_left]
    simp only [wdv, Nat.reduceLeDiff, if_false, Nat.add_zero]
    exact ⟨⟨fun z => by omega, fun z => by omega⟩, ⟨fun z => by omega, fun z => by omega⟩⟩
  · have g1 := h (p + 1) (by omega) (by omega)
    rw [Nat.add_sub_cancel_left]
    simp only [wdv, Nat.reduceLeDiff, if_false, Nat.add_zero]
    exact ⟨⟨fun z => by omega, fun z => by omega⟩, ⟨fun z => by omega, fun z => by omega⟩⟩
  · have g1 := h (p + 1) (by omega) (by omega)
    have g2 := h (p + 2) (by omega) (by omega)
    rw [Nat.add_sub_cancel_left]
    simp only [wdv, Nat.reduceLeDiff, if_false, Nat.add_zero]
    exact ⟨⟨fun z => by omega, fun z => by omega⟩, ⟨fun z => by omega, fun z => by omega⟩⟩
  · have g1 := h (p + 1) (by omega) (by omega)
    have g2 := h (p + 2) (by omega) (by omega)
    have g3 := h (p + 3) (by omega) (by omega)
    rw [Nat.add_sub_cancel_left]
    simp only [wdv, Nat.reduceLeDiff, if_false, Nat.add_zero]
    refine ⟨⟨fun z => ⟨trivial, fun j hj => ?_⟩, fun z => ?_⟩, ⟨fun z => by omega, fun z => by omega⟩⟩
    · rcases (show j = 0 ∨ j = 1 ∨ j = 2 ∨ j = 3 by omega) with rfl | rfl | rfl | rfl
      · show cs p = 116; omega
      · show cs (p + 1) = 111; omega
      · show cs (p + 2) = 108; omega
      · show cs (p + 3) = 108; omega
    · have z0 : cs p = 116 := z.2 0 (by decide)
      have z1 : cs (p + 1) = 111 := z.2 1 (by decide)
      have z2 : cs (p + 2) = 108 := z.2 2 (by decide)
      have z3 : cs (p + 3) = 108 := z.2 3 (by decide)
      omega
  · have g1 := h (p + 1) (by omega) (by omega)
    have g2 := h (p + 2) (by omega) (by omega)
    have g3 := h (p + 3) (by omega) (by omega)
    have g4 := h (p + 4) (by omega) (by omega)
    rw [Nat.add_sub_cancel_left]
    simp only [wdv, Nat.reduceLeDiff, if_false, Nat.add_zero]
    refine ⟨⟨fun z => by omega, fun z => by omega⟩, ⟨fun z => ⟨trivial, fun j hj => ?_⟩, fun z => ?_⟩⟩
    · rcases (show j = 0 ∨ j = 1 ∨ j = 2 ∨ j = 3 ∨ j = 4 by omega) with rfl | rfl | rfl | rfl | rfl
      · show cs p = 97; omega
      · show cs (p + 1) = 103; omega
      · show cs (p + 2) = 97; omega
      · show cs (p + 3) = 105; omega
      · show cs (p + 4) = 110; omega
    · have z0 : cs p = 97 := z.2 0 (by decide)
      have z1 : cs (p + 1) = 103 := z.2 1 (by decide)
      have z2 : cs (p + 2) = 97 := z.2 2 (by decide)
      have z3 : cs (p + 3) = 105 := z.2 3 (by decide)
      have z4 : cs (p + 4) = 110 := z.2 4 (by decide)
      omega
theorem isT_len {cs : Nat → Nat} {p e : Nat} (h5 : 5 < e - p) : isT cs p e = false ∧ isA cs p e = false := ⟨decide_eq_false (fun z => by omega), decide_eq_false (fun z => by omega)⟩
def wix (cs : Nat → Nat) (p e : Nat) : Int32 := if isT cs p e then 0 else if isA cs p e then 1 else -1
theorem p_wordOf {N n w : Nat} {T : St} {a b : Bool} (hw : w < 2 ^ 60) (h1 : w = 13826860 ↔ a = true) (h2 : w = 564009582 ↔ b = true) : f_X7_wordOf N n T (lN w) = some ((if a then 0 else if b then 1 else -1), T) := by
  unfold f_X7_wordOf
  have e1 : lg_cmp (lN w) 13826860 = 0 ↔ a = true := (lg_cmp_eq _ _).trans ((pk_lEQ (a := w) (b := 13826860) (by omega) (by decide)).trans h1)
  have e2 : lg_cmp (lN w) 564009582 = 0 ↔ b = true := (lg_cmp_eq _ _).trans ((pk_lEQ (a := w) (b := 564009582) (by omega) (by decide)).trans h2)
  by_cases c : a = true
  · rw [if_pos (e1.mpr c), if_pos c]
  · rw [if_neg (fun z => c (e1.mp z)), if_neg c]
    by_cases d : b = true
    · rw [if_pos (e2.mpr d), if_pos d]
    · rw [if_neg (fun z => d (e2.mp z)), if_neg d]
theorem wd_step {w c : Nat} (h1 : 64 ≤ c) : 64 * lN w + lN c - 64 = lN (64 * w + c - 64) := by
  rw [show 64 * lN w = lN (64 * w) from lN_mul 64 _, lN_add, show lN (64 * w + c) - 64 = lN (64 * w + c - 64) from lN_sub (b := 64) (by omega)]
def kM (k : Nat) : Int32 := if k = 0 then 0 else if k = 1 then 1 else if k = 2 then 1 else if k = 3 then 2 else if k = 4 then 3 else 4
def nxM (cs : Nat → Nat) (ln p : Nat) (T : St) : St :=
  if tkS cs ln p < ln then
    if isD (cs (tkS cs ln p)) then Dm (pF (pF (pF T 18 (nI (tkS cs ln p))) 19 (nI (tkS cs ln p))) 20 2) (nI (tkV cs ln p)) (nI (tkQ cs ln p))
    else if isL (cs (tkS cs ln p)) then pF (pF (pF (pF (pF T 18 (nI (tkS cs ln p))) 19 (nI (tkS cs ln p))) 18 (nI (tkQ cs ln p))) 21 (wix cs (tkS cs ln p) (tkQ cs ln p))) 20 (kM (tkK cs ln p))
    else pF (pF (pF (pF T 18 (nI (tkS cs ln p))) 19 (nI (tkS cs ln p))) 18 (nI (tkQ cs ln p))) 20 (kM (tkK cs ln p))
  else pF (pF (pF T 18 (nI (tkS cs ln p))) 19 (nI (tkS cs ln p))) 20 0
theorem p_nextM {N n ln p : Nat} {cs : Nat → Nat} {T : St} (h : TpM ln cs T) (hp : p ≤ ln) (hc : T.1 18 = nI p) (hN : 1000 < N) : f_X7_next N n T (nI ln) = some (nxM cs ln p T) := by
  obtain ⟨r1, r2, r3, r4⟩ := runE_spec cs isS hp
  have eS : runE cs ln isS p = tkS cs ln p := rfl
  rw [eS] at r1 r2 r3 r4
  have hl := h.1
  have tp : ∀ q, TpM ln cs (pF T 18 q) := fun q => h
  have a5 : ∀ q, (pF T 18 q).1 18 = q := fun q => pF_at _ _ _
  have tx : ∀ a b, TpM ln cs (pF (pF T 18 a) 19 b) := fun a b => h
  have x5 : (pF (pF T 18 (nI (tkS cs ln p))) 19 (nI (tkS cs ln p))).1 18 = nI (tkS cs ln p) := (pF_ne _ _ (by decide)).trans (pF_at _ _ _)
  -- digits
  have DG : tkS cs ln p < ln → isD (cs (tkS cs ln p)) = true → loop0 (fun (k20 : St → Option St) (S21 : St) =>
              if nI ln ≤ (S21.1 18) then
                some S21
              else
                (rd (S21.2 11) 200 (S21.1 18)).bind fun x23 =>
                bd2 (f_X7_in N n S21 (Int32.toInt64 x23) 48 57) fun r25 S24 =>
                if r25 = 0 then
                  some S24
                else
                  lett (fun (S28 : St) (x29 : Int32) =>
                    lett (pF S28 21 x29) fun S31 =>
                    lett (pF S31 18 ((S31.1 18) + 1)) fun S32 =>
                    k20 S32 ) fun j27 =>
                  if (S24.1 21) ≤ 99999 then
                    (rd (S24.2 11) 200 (S24.1 18)).bind fun x33 =>
                    j27 S24 (((10 * (S24.1 21)) + x33) - 48)
                  else
                    j27 S24 (S24.1 21)) N (pF (pF (pF (pF T 18 (nI (tkS cs ln p))) 19 (nI (tkS cs ln p))) 20 2) 21 0) = some (Dm (pF (pF (pF T 18 (nI (tkS cs ln p))) 19 (nI (tkS cs ln p))) 20 2) (nI (tkV cs ln p)) (nI (tkQ cs ln p))) := by
    intro hx hd
    obtain ⟨s1, s2, s3, s4⟩ := runE_spec cs isD r2
    have eq : tkQ cs ln p = runE cs ln isD (tkS cs ln p) := by
      unfold tkQ
      rw [if_pos hx, if_pos hd]
    rw [← eq] at s1 s2 s3 s4
    have hdd : ∀ j, tkS cs ln p ≤ j → j < tkQ cs ln p → 48 ≤ cs j ∧ cs j ≤ 57 := fun j a b => ((byM (cs j) (h.2 j (by omega)).1).2.2.2.2.2.1 (s3 j a b)).2
    have y8 : ∀ v q, (Dm (pF (pF (pF T 18 (nI (tkS cs ln p))) 19 (nI (tkS cs ln p))) 20 2) v q).1 18 = q := fun v q => pF_at _ _ _
    have y1 : ∀ v q, (Dm (pF (pF (pF T 18 (nI (tkS cs ln p))) 19 (nI (tkS cs ln p))) 20 2) v q).1 21 = v := fun v q => (pF_ne _ _ (by decide)).trans (pF_at _ _ _)
    have ty : ∀ v q, TpM ln cs (Dm (pF (pF (pF T 18 (nI (tkS cs ln p))) 19 (nI (tkS cs ln p))) 20 2) v q) := fun v q => h
    refine loop0_run (I := fun i S2 => S2 = Dm (pF (pF (pF T 18 (nI (tkS cs ln p))) 19 (nI (tkS cs ln p))) 20 2) (nI (dgv cs (tkS cs ln p) i)) (nI (tkS cs ln p + i))) (k := tkQ cs ln p - tkS cs ln p) ?_ (by omega) ?_ ?_
    · have e : (pF (pF (pF (pF T 18 (nI (tkS cs ln p))) 19 (nI (tkS cs ln p))) 20 2) 21 0).1 18 = nI (tkS cs ln p) := x5
      show pF (pF (pF (pF T 18 (nI (tkS cs ln p))) 19 (nI (tkS cs ln p))) 20 2) 21 0 = pF (pF (pF (pF (pF T 18 (nI (tkS cs ln p))) 19 (nI (tkS cs ln p))) 20 2) 21 0) 18 (nI (tkS cs ln p))
      exact (pF_same e).symm
    · intro i S2 hi hI
      subst hI
      refine Or.inl ⟨_, rfl, fun rc => ?_⟩
      have hj := h.2 (tkS cs ln p + i) (by omega)
      have hdj := hdd (tkS cs ln p + i) (by omega) (by omega)
      have hdb := s3 (tkS cs ln p + i) (by omega) (by omega)
      have hv := dgv_le hdd i (by omega)
      rw [y8, if_neg (show ¬ nI ln ≤ nI (tkS cs ln p + i) from nI_ge (by omega) (by omega)), rdM (ty _ _) (by omega), bs_s, p_inD _ _ _ hj.1, bd2_s, if_neg (bz1 hdb), lett_s, y1, y8, rdM (ty _ _) (by omega), bs_s, ((byM _ hj.1).2.2.2.2.2.1 hdb).1, dm_step hdj.1]
      simp only [lett_s]
      rw [show ∀ v, (pF (Dm (pF (pF (pF T 18 (nI (tkS cs ln p))) 19 (nI (tkS cs ln p))) 20 2) (nI (dgv cs (tkS cs ln p) i)) (nI (tkS cs ln p + i))) 21 v).1 18 = nI (tkS cs ln p + i) from fun v => (pF_ne _ _ (by decide)).trans (y8 _ _), nI_1, Dm_st, show ∀ v, (pF (Dm (pF (pF (pF T 18 (nI (tkS cs ln p))) 19 (nI (tkS cs ln p))) 20 2) (nI (dgv cs (tkS cs ln p) i)) (nI (tkS cs ln p + i))) 21 v).1 18 = nI (tkS cs ln p + i) from fun v => (pF_ne _ _ (by decide)).trans (y8 _ _), nI_1, Dm_st]
      by_cases h9 : dgv cs (tkS cs ln p) i ≤ 99999
      · rw [if_pos (show nI (dgv cs (tkS cs ln p) i) ≤ 99999 from nI_le (b := 99999) h9 (by decide))]
        rw [show dgv cs (tkS cs ln p) (i + 1) = 10 * dgv cs (tkS cs ln p) i + cs (tkS cs ln p + i) - 48 from if_pos h9]
        rfl
      · rw [if_neg (show ¬ nI (dgv cs (tkS cs ln p) i) ≤ 99999 from nI_ge (a := 99999) (by omega) (by omega))]
        rw [show dgv cs (tkS cs ln p) (i + 1) = dgv cs (tkS cs ln p) i from if_neg h9]
        rfl
    · intro S2 hI rc
      subst hI
      have e : tkS cs ln p + (tkQ cs ln p - tkS cs ln p) = tkQ cs ln p := by omega
      rw [e, y8]
      by_cases hq : tkQ cs ln p < ln
      · have hj := h.2 _ hq
        rw [if_neg (show ¬ nI ln ≤ nI (tkQ cs ln p) from nI_ge (by omega) (by omega)), rdM (ty _ _) hq, bs_s, p_inD _ _ _ hj.1, bd2_s, if_pos (bz0 (s4 hq))]
        rfl
      · rw [if_pos (show nI ln ≤ nI (tkQ cs ln p) from nI_le (by omega) (by omega))]
        rfl
  -- letters
  have LT : tkS cs ln p < ln → ¬ isD (cs (tkS cs ln p)) = true → isL (cs (tkS cs ln p)) = true → loop2 (fun (k34 : St → Int64 → Int32 → Option St) (S35 : St) (x36 : Int64) (x37 : Int32) =>
            lett (fun (S40 : St) (x41 : Int64) (x42 : Int32) =>
              lett (fun (S45 : St) (x46 : Int32) =>
                lett (pF S45 21 x46) fun S48 =>
                if 0 ≤ (S48.1 21) then
                  lett (pF S48 20 1) fun S49 =>
                  some S49
                else
                  lett (pF S48 20 4) fun S50 =>
                  some S50) fun j44 =>
              if x42 ≤ 5 then
                bd2 (f_X7_wordOf N n S40 x41) fun r52 S51 =>
                j44 S51 r52
              else
                j44 S40 (-1)) fun j39 =>
            if nI ln ≤ (S35.1 18) then
              j39 S35 x36 x37
            else
              (rd (S35.2 11) 200 (S35.1 18)).bind fun x54 =>
              bd2 (f_X7_isLetter N n S35 x54) fun r56 S55 =>
              if r56 = 0 then
                j39 S55 x36 x37
              else
                lett (fun (S59 : St) (x60 : Int64) =>
                  lett (pF S59 18 ((S59.1 18) + 1)) fun S62 =>
                  k34 S62 x60 (x37 + 1)) fun j58 =>
                if 8 ≤ x37 then
                  j58 S55 x36
                else
                  (rd (S55.2 11) 200 (S55.1 18)).bind fun x63 =>
                  j58 S55 (((64 * x36) + (Int32.toInt64 x63)) - 64)) N (pF (pF T 18 (nI (tkS cs ln p))) 19 (nI (tkS cs ln p))) 0 0 = some (pF (pF (pF (pF (pF T 18 (nI (tkS cs ln p))) 19 (nI (tkS cs ln p))) 18 (nI (tkQ cs ln p))) 21 (wix cs (tkS cs ln p) (tkQ cs ln p))) 20 (kM (tkK cs ln p))) := by
    intro hx hd hL
    obtain ⟨s1, s2, s3, s4⟩ := runE_spec cs isL r2
    have s0 := runE_pos (F := isL) hx hL
    have eq : tkQ cs ln p = runE cs ln isL (tkS cs ln p) := by
      unfold tkQ
      rw [if_pos hx, if_neg hd, if_pos hL]
    rw [← eq] at s0 s1 s2 s3 s4
    have hdd : ∀ j, tkS cs ln p ≤ j → j < tkQ cs ln p → 65 ≤ cs j ∧ cs j ≤ 122 := fun j a b => ((byM (cs j) (h.2 j (by omega)).1).2.2.2.2.2.2 (s3 j a b)).2
    have y8 : ∀ q, (pF (pF (pF T 18 (nI (tkS cs ln p))) 19 (nI (tkS cs ln p))) 18 q).1 18 = q := fun q => pF_at _ _ _
    have ty : ∀ q, TpM ln cs (pF (pF (pF T 18 (nI (tkS cs ln p))) 19 (nI (tkS cs ln p))) 18 q) := fun q => h
    have kk : kM (tkK cs ln p) = if (0 : Int32) ≤ wix cs (tkS cs ln p) (tkQ cs ln p) then 1 else 4 := by
      unfold tkK wix
      rw [if_pos hx, if_neg hd, if_pos hL]
      cases isT cs (tkS cs ln p) (tkQ cs ln p)
      · cases isA cs (tkS cs ln p) (tkQ cs ln p) <;> rfl
      · rfl
    have J : lett (fun (S45 : St) (x46 : Int32) =>
                lett (pF S45 21 x46) fun S48 =>
                if 0 ≤ (S48.1 21) then
                  lett (pF S48 20 1) fun S49 =>
                  some S49
                else
                  lett (pF S48 20 4) fun S50 =>
                  some S50) (fun j44 =>
              if nI (tkQ cs ln p - tkS cs ln p) ≤ 5 then
                bd2 (f_X7_wordOf N n (pF (pF (pF T 18 (nI (tkS cs ln p))) 19 (nI (tkS cs ln p))) 18 (nI (tkQ cs ln p))) (lN (wdv cs (tkS cs ln p) (tkQ cs ln p - tkS cs ln p)))) fun r52 S51 =>
                j44 S51 r52
              else
                j44 (pF (pF (pF T 18 (nI (tkS cs ln p))) 19 (nI (tkS cs ln p))) 18 (nI (tkQ cs ln p))) (-1)) = some (pF (pF (pF (pF (pF T 18 (nI (tkS cs ln p))) 19 (nI (tkS cs ln p))) 18 (nI (tkQ cs ln p))) 21 (wix cs (tkS cs ln p) (tkQ cs ln p))) 20 (kM (tkK cs ln p))) := by
      have fin : ∀ v, v = wix cs (tkS cs ln p) (tkQ cs ln p) → (lett (pF (pF (pF (pF T 18 (nI (tkS cs ln p))) 19 (nI (tkS cs ln p))) 18 (nI (tkQ cs ln p))) 21 v) fun S48 =>
                if 0 ≤ (S48.1 21) then
                  lett (pF S48 20 1) fun S49 =>
                  some S49
                else
                  lett (pF S48 20 4) fun S50 =>
                  some S50) = some (pF (pF (pF (pF (pF T 18 (nI (tkS cs ln p))) 19 (nI (tkS cs ln p))) 18 (nI (tkQ cs ln p))) 21 (wix cs (tkS cs ln p) (tkQ cs ln p))) 20 (kM (tkK cs ln p))) := by
        intro v hv
        subst hv
        rw [lett_s, pF_at, kk]
        split <;> rfl
      rw [lett_s]
      dsimp only
      by_cases h5 : tkQ cs ln p - tkS cs ln p ≤ 5
      · rw [if_pos (show nI (tkQ cs ln p - tkS cs ln p) ≤ 5 from nI_le (b := 5) h5 (by decide))]
        have w1 := wdv_T s0 hdd h5
        have w2 := wdv_le hdd (tkQ cs ln p - tkS cs ln p) (by omega)
        have w3 : wdv cs (tkS cs ln p) (tkQ cs ln p - tkS cs ln p) < 2 ^ 60 := by
          refine Nat.lt_of_lt_of_le w2 ?_
          rw [if_pos (by omega)]
          exact Nat.le_trans (Nat.pow_le_pow_right (by decide) h5) (by decide)
        rw [p_wordOf w3 w1.1 w1.2, bd2_s]
        exact fin _ rfl
      · rw [if_neg (show ¬ nI (tkQ cs ln p - tkS cs ln p) ≤ 5 from nI_ge (a := 5) (by omega) (by omega))]
        refine fin _ ?_
        unfold wix
        have := isT_len (cs := cs) (p := tkS cs ln p) (e := tkQ cs ln p) (by omega)
        rw [this.1, this.2]
        rfl
    refine loop2_run (I := fun i S2 x y => S2 = pF (pF (pF T 18 (nI (tkS cs ln p))) 19 (nI (tkS cs ln p))) 18 (nI (tkS cs ln p + i)) ∧ x = lN (wdv cs (tkS cs ln p) i) ∧ y = nI i) (k := tkQ cs ln p - tkS cs ln p) ?_ (by omega) ?_ ?_
    · refine ⟨?_, rfl, rfl⟩
      show pF (pF T 18 (nI (tkS cs ln p))) 19 (nI (tkS cs ln p)) = pF (pF (pF T 18 (nI (tkS cs ln p))) 19 (nI (tkS cs ln p))) 18 (nI (tkS cs ln p))
      exact (pF_same x5).symm
    · intro i S2 x y hi hI
      obtain ⟨rfl, rfl, rfl⟩ := hI
      refine Or.inl ⟨_, _, _, ⟨rfl, rfl, rfl⟩, fun rc => ?_⟩
      have hj := h.2 (tkS cs ln p + i) (by omega)
      have hdj := hdd (tkS cs ln p + i) (by omega) (by omega)
      have hdb := s3 (tkS cs ln p + i) (by omega) (by omega)
      rw [lett_s, y8, if_neg (show ¬ nI ln ≤ nI (tkS cs ln p + i) from nI_ge (by omega) (by omega)), rdM (ty _) (by omega), bs_s, p_isLetterM _ _ _ hj.1, bd2_s, if_neg (bz1 hdb), lett_s, y8, rdM (ty _) (by omega), bs_s, ((byM _ hj.1).2.2.2.2.2.2 hdb).1, nI_l (by omega), wd_step (by omega)]
      simp only [lett_s]
      rw [y8, nI_1, pF_pF, nI_1]
      by_cases h8 : 8 ≤ i
      · rw [if_pos (show (8 : Int32) ≤ nI i from nI_le (a := 8) h8 (by omega)), show wdv cs (tkS cs ln p) (i + 1) = wdv cs (tkS cs ln p) i from if_pos h8]
        rfl
      · rw [if_neg (show ¬ (8 : Int32) ≤ nI i from nI_ge (b := 8) (by omega) (by decide)), show wdv cs (tkS cs ln p) (i + 1) = 64 * wdv cs (tkS cs ln p) i + cs (tkS cs ln p + i) - 64 from if_neg h8]
        rfl
    · intro S2 x y hI rc
      obtain ⟨rfl, rfl, rfl⟩ := hI
      have e : tkS cs ln p + (tkQ cs ln p - tkS cs ln p) = tkQ cs ln p := by omega
      rw [e, lett_s, y8]
      by_cases hq : tkQ cs ln p < ln
      · have hj := h.2 _ hq
        rw [if_neg (show ¬ nI ln ≤ nI (tkQ cs ln p) from nI_ge (by omega) (by omega)), rdM (ty _) hq, bs_s, p_isLetterM _ _ _ hj.1, bd2_s, if_pos (bz0 (s4 hq))]
        exact J
      · rw [if_pos (show nI ln ≤ nI (tkQ cs ln p) from nI_le (by omega) (by omega))]
        exact J
  unfold f_X7_next
  refine loop0_run (I := fun i S2 => S2 = pF T 18 (nI (p + i))) (k := tkS cs ln p - p) ?_ (by omega) ?_ ?_
  · show T = pF T 18 (nI p)
    rw [← hc, pF_self]
  · intro i S2 hi hI
    subst hI
    refine Or.inl ⟨_, rfl, fun rc => ?_⟩
    have hj := h.2 (p + i) (by omega)
    have h32 : cs (p + i) = 32 := Nat.eq_of_beq_eq_true (r3 (p + i) (by omega) (by omega))
    rw [lett_s, a5, if_neg (show ¬ nI ln ≤ nI (p + i) from nI_ge (by omega) (by omega)), rdM (tp _) (by omega), bs_s, if_pos ((byM _ hj.1).2.2.2.1.mpr h32), lett_s, nI_1, pF_pF]
    rfl
  · intro S2 hI rc
    subst hI
    have e : p + (tkS cs ln p - p) = tkS cs ln p := by omega
    rw [e, lett_s, a5]
    unfold nxM
    by_cases hx : tkS cs ln p < ln
    · have hj := h.2 _ hx
      have h32 : ¬ cs (tkS cs ln p) = 32 := fun z => by
        have := r4 hx
        rw [z] at this
        cases this
      rw [if_pos hx, if_neg (show ¬ nI ln ≤ nI (tkS cs ln p) from nI_ge (by omega) (by omega)), rdM (tp _) hx, bs_s, if_neg (fun z => h32 ((byM _ hj.1).2.2.2.1.mp z))]
      dsimp only
      rw [lett_s, a5, x5, if_neg (show ¬ nI (tkS cs ln p) = nI ln from fun z => by have := (nI_eq (by omega) (by omega)).mp z; omega), rdM (tx _ _) hx, bs_s, p_isLetterM _ _ _ hj.1, bd2_s, p_inD _ _ _ hj.1, bd2_s]
      by_cases hd : isD (cs (tkS cs ln p)) = true
      · have hnl : isL (cs (tkS cs ln p)) = false := by
          have := ((byM _ hj.1).2.2.2.2.2.1 hd).2
          cases hl2 : isL (cs (tkS cs ln p)) with
          | false => rfl
          | true =>
            have := ((byM _ hj.1).2.2.2.2.2.2 hl2).2
            omega
        rw [if_pos hd, if_pos (bz0 hnl), if_neg (bz1 hd), lett_s, lett_s]
        exact DG hx hd
      · rw [if_neg hd]
        by_cases hL : isL (cs (tkS cs ln p)) = true
        · rw [if_pos hL, if_neg (bz1 hL)]
          exact LT hx hd hL
        · rw [if_neg hL, if_pos (bz0 (by simpa using hL)), if_pos (bz0 (by simpa using hd)), lett_s, lett_s, lett_s, x5, nI_1]
          unfold tkK tkQ
          rw [if_pos hx, if_neg hd, if_neg hL, if_pos hx, if_neg hd, if_neg hL]
          by_cases h9 : cs (tkS cs ln p) = 59
          · rw [if_pos h9, if_pos ((byM _ hj.1).2.2.2.2.1.mpr h9)]; rfl
          · rw [if_neg h9, if_neg (fun z => h9 ((byM _ hj.1).2.2.2.2.1.mp z))]; rfl
    · have e : tkS cs ln p = ln := by omega
      rw [e] at x5
      rw [if_neg hx, e, if_pos (show nI ln ≤ nI ln from nI_le (Nat.le_refl _) (by omega))]
      dsimp only
      rw [lett_s, a5, x5, if_pos rfl, lett_s]
def pTm (k : Nat) : Bool := Nat.ble 18 k && Nat.ble k 21
theorem nxM_spec (cs : Nat → Nat) {ln p : Nat} (T : St) (hle : tkS cs ln p ≤ ln) : Kp pTm qNo T (nxM cs ln p T) ∧ (nxM cs ln p T).1 18 = nI (tkQ cs ln p) ∧ (nxM cs ln p T).1 20 = kM (tkK cs ln p) ∧ (nxM cs ln p T).1 19 = nI (tkS cs ln p) ∧ (tkK cs ln p = 3 → (nxM cs ln p T).1 21 = nI (tkV cs ln p)) ∧ (tkK cs ln p = 1 → (nxM cs ln p T).1 21 = 0) ∧ (tkK cs ln p = 2 → (nxM cs ln p T).1 21 = 1) := by
  have kx : Kp pTm qNo T (pF (pF T 18 (nI (tkS cs ln p))) 19 (nI (tkS cs ln p))) := ((Kp.rf _ _ _).pF _ rfl).pF _ rfl
  unfold nxM
  by_cases hx : tkS cs ln p < ln
  · rw [if_pos hx]
    by_cases hd : isD (cs (tkS cs ln p)) = true
    · have k3 : tkK cs ln p = 3 := by
        unfold tkK
        rw [if_pos hx, if_pos hd]
      rw [if_pos hd, k3]
      exact ⟨((kx.pF _ rfl).pF _ rfl).pF _ rfl, pF_at _ _ _, rfl, rfl, fun _ => rfl, fun z => absurd z (by decide), fun z => absurd z (by decide)⟩
    · rw [if_neg hd]
      by_cases hL : isL (cs (tkS cs ln p)) = true
      · rw [if_pos hL]
        have ek : tkK cs ln p = (if isT cs (tkS cs ln p) (tkQ cs ln p) then 1 else if isA cs (tkS cs ln p) (tkQ cs ln p) then 2 else 5) := by
          conv => lhs; unfold tkK
          rw [if_pos hx, if_neg hd, if_pos hL]
        refine ⟨((kx.pF _ rfl).pF _ rfl).pF _ rfl, rfl, pF_at _ _ _, rfl, fun z => ?_, fun z => ?_, fun z => ?_⟩
        · rw [ek] at z
          split at z
          · cases z
          · split at z <;> cases z
        · show wix cs (tkS cs ln p) (tkQ cs ln p) = 0
          unfold wix
          rw [ek] at z
          cases hT : isT cs (tkS cs ln p) (tkQ cs ln p) with
          | true => rfl
          | false =>
            rw [hT] at z
            cases hA : isA cs (tkS cs ln p) (tkQ cs ln p) with
            | true => rw [hA] at z; cases z
            | false => rw [hA] at z; cases z
        · show wix cs (tkS cs ln p) (tkQ cs ln p) = 1
          unfold wix
          rw [ek] at z
          cases hT : isT cs (tkS cs ln p) (tkQ cs ln p) with
          | true => rw [hT] at z; cases z
          | false =>
            rw [hT] at z
            cases hA : isA cs (tkS cs ln p) (tkQ cs ln p) with
            | true => rfl
            | false => rw [hA] at z; cases z
      · rw [if_neg hL]
        have ek : tkK cs ln p = 4 ∨ tkK cs ln p = 5 := by
          unfold tkK
          rw [if_pos hx, if_neg hd, if_neg hL]
          split
          · exact Or.inl rfl
          · exact Or.inr rfl
        exact ⟨(kx.pF _ rfl).pF _ rfl, rfl, pF_at _ _ _, rfl, fun z => by omega, fun z => by omega, fun z => by omega⟩
  · rw [if_neg hx]
    have e : tkS cs ln p = ln := by omega
    have k0 : tkK cs ln p = 0 := by
      unfold tkK
      rw [if_neg hx]
    have q0 : tkQ cs ln p = ln := by
      unfold tkQ
      rw [if_neg hx]
    rw [k0, q0, e]
    rw [e] at kx
    exact ⟨kx.pF _ rfl, rfl, pF_at _ _ _, rfl, fun h => absurd h (by decide), fun h => absurd h (by decide), fun h => absurd h (by decide)⟩
