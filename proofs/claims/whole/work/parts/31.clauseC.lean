-- CLAUSES OF THE CLASS: one token, one step
def bC (N n : Nat) (k4 : St → Int32 → Option (Int32 × St)) (S5 : St) (x6 : Int32) : Option (Int32 × St) :=
    bd2 (f_X3_size N n S5 ) fun r9 S8 =>
    if r9 < x6 then
      zr 1 S8
    else
      (f_X5_nextToken_24 N n S8 ).bind fun S11 =>
      lett (fun (S15 : St) =>
        bd2 (f_X5_takeToken N n S15 ) fun r18 S17 =>
        if r18 = 0 then
          k4 S17 (x6 + 1)
        else
          lett (pF S17 2603 r18) fun S20 =>
          lett (pF S20 2604 (S20.1 2607)) fun S21 =>
          zr 0 S21) fun j14 =>
      if (S11.1 2606) = 0 then
        if (S11.1 2609) = 0 then
          zr 1 S11
        else
          j14 S11 
      else
        j14 S11
theorem stepC {N n ln p x : Nat} {cs : Nat → Nat} {S S2 : St} {c : Int32} (h : TpC ln cs S) (hp : p ≤ ln) (hc : S.1 2605 = nI p) (hx : x ≤ ln) (hN : 1000 < N) (ht : f_X5_takeToken N n (nxC cs ln p S) = some (c, S2)) (hne : ¬ ((nxC cs ln p S).1 2606 = 0 ∧ (nxC cs ln p S).1 2609 = 0)) (f : Nat) : loop1 (bC N n) (f + 1) S (nI x) = if c = 0 then loop1 (bC N n) f S2 (nI (x + 1)) else some (0, pF (pF S2 2603 c) 2604 (S2.1 2607)) := by
  have hl := h.1
  show bC N n (loop1 (bC N n) f) S (nI x) = _
  unfold bC
  rw [p_size h, bd2_s, if_neg (show ¬ nI ln < nI x from nI_nlt hx (by omega)), p_nextC h hp hc hN, bs_s, lett_s]
  dsimp only
  rw [ht, bd2_s, nI_1]
  by_cases h6 : (nxC cs ln p S).1 2606 = 0
  · rw [if_pos h6, if_neg (fun z => hne ⟨h6, z⟩)]
    by_cases h0 : c = 0
    · rw [if_pos h0, if_pos h0]
    · rw [if_neg h0, if_neg h0]; rfl
  · rw [if_neg h6]
    by_cases h0 : c = 0
    · rw [if_pos h0, if_pos h0]
    · rw [if_neg h0, if_neg h0]; rfl
theorem stepEnd {N n ln p x : Nat} {cs : Nat → Nat} {S : St} (h : TpC ln cs S) (hp : p ≤ ln) (hc : S.1 2605 = nI p) (hx : x ≤ ln) (hN : 1000 < N) (h6 : (nxC cs ln p S).1 2606 = 0) (h9 : (nxC cs ln p S).1 2609 = 0) (f : Nat) : loop1 (bC N n) (f + 1) S (nI x) = some (1, nxC cs ln p S) := by
  have hl := h.1
  show bC N n (loop1 (bC N n) f) S (nI x) = _
  unfold bC
  rw [p_size h, bd2_s, if_neg (show ¬ nI ln < nI x from nI_nlt hx (by omega)), p_nextC h hp hc hN, bs_s, lett_s]
  dsimp only
  rw [if_pos h6, if_pos h9]
  rfl
theorem k_ne {k m : Nat} (hk : k ≤ 5) (hm : m ≤ 5) (h : k ≠ m) : ¬ nI k = nI m := fun z => h ((nI_eq (by omega) (by omega)).mp z)
theorem tk_le5 (cs : Nat → Nat) (ln p : Nat) : tkK cs ln p ≤ 5 := by
  unfold tkK
  split
  · split
    · decide
    · split
      · split
        · decide
        · split <;> decide
      · split <;> decide
  · decide
-- the clause's word
theorem take0 {N n k : Nat} {S : St} (h9 : S.1 2609 = 0) (h6 : S.1 2606 = nI k) (hk : k ≤ 5) : f_X5_takeToken N n S = if k = 1 ∨ k = 2 then some (0, pF (pF S 2610 (nI k)) 2609 1) else some (1, S) := by
  unfold f_X5_takeToken
  rw [if_pos h9]
  unfold f_X5_takeClauseWord
  rw [lett_s]
  dsimp only
  rw [lett_s, lett_s, h6]
  by_cases h1 : k = 1
  · rw [if_pos (show nI k = 1 by rw [h1]; rfl), if_pos (Or.inl h1)]; rfl
  · rw [if_neg (show ¬ nI k = 1 from k_ne hk (by decide) h1)]
    by_cases h2 : k = 2
    · rw [if_pos (show nI k = 2 by rw [h2]; rfl), if_pos (Or.inr h2)]; rfl
    · rw [if_neg (show ¬ nI k = 2 from k_ne hk (by decide) h2), if_neg (fun z => z.elim h1 h2)]; rfl
theorem take1 {N n k v ct : Nat} {S : St} {x : Int32} (h9 : S.1 2609 = 1) (h6 : S.1 2606 = nI k) (hk : k ≤ 5) (h8 : k = 3 → S.1 2608 = nI (min v 1000)) (h10 : S.1 2610 = nI ct) (hct : ct = 1 ∨ ct = 2) (hx : v < 6 → (if ct = 2 then S.2 28 v else S.2 27 v) = x) : f_X5_takeToken N n S = if k ≠ 3 then some (1, S) else if 6 ≤ v then some (3, S) else if x = -1 then some (0, pF (pF S 2611 (nI v)) 2609 2) else some (2, S) := by
  unfold f_X5_takeToken
  rw [h9, if_neg one_ne, if_pos rfl]
  unfold f_X5_takeKind
  rw [h6]
  by_cases h3 : k = 3
  · have e8 := h8 h3
    rw [if_pos (show nI k = 3 by rw [h3]; rfl), if_neg (fun z => z h3), e8, p_within, bd2_s]
    by_cases hv : 6 ≤ v
    · rw [if_pos hv, b01_f (fun z => absurd z.2 (nI_ge (a := 5) (b := min v 1000) (by omega) (by omega))), if_pos rfl, bd2_s]
    · have em : min v 1000 = v := by omega
      rw [if_neg hv, em, b01_t (show (0 : Int32) ≤ nI v ∧ nI v ≤ 5 from in_rng (a := 0) (m := 5) (by omega) (by omega) (by decide)), if_neg one_ne, h10, e8, em]
      have hx := hx (by omega)
      rcases hct with rfl | rfl
      · rw [if_neg (by decide)] at hx
        rw [if_neg (show ¬ nI 1 = 2 by decide), rd_nI (by omega) (by decide), bs_s, hx, lett_s, lett_s]
        by_cases hm : x = -1
        · rw [if_pos hm]; rfl
        · rw [if_neg hm]; rfl
      · rw [if_pos rfl] at hx
        rw [if_pos (show nI 2 = 2 by decide), rd_nI (by omega) (by decide), bs_s, hx, lett_s, lett_s]
        by_cases hm : x = -1
        · rw [if_pos hm]; rfl
        · rw [if_neg hm]; rfl
  · rw [if_neg (show ¬ nI k = 3 from k_ne hk (by decide) h3), if_pos h3, bd2_s]
theorem take2 {N n k v ct ck : Nat} {S : St} (h9 : S.1 2609 = 2) (h6 : S.1 2606 = nI k) (hk : k ≤ 5) (h8 : k = 3 → S.1 2608 = nI (min v 1000)) (h10 : S.1 2610 = nI ct) (hct : ct = 1 ∨ ct = 2) (h11 : S.1 2611 = nI ck) (hck : ck < 6) : f_X5_takeToken N n S = if k ≠ 3 then some (1, S) else if ct - 1 ≤ v ∧ v ≤ 999 then some (0, if ct = 2 then pF (pA S 28 (upd (S.2 28) ck (nI v))) 2609 3 else pF (pA S 27 (upd (S.2 27) ck (nI v))) 2609 3) else some (3, S) := by
  unfold f_X5_takeToken
  rw [h9, if_neg (by decide), if_neg (by decide), if_pos rfl]
  unfold f_X5_takeAmount
  rw [h6]
  by_cases h3 : k = 3
  · have e8 := h8 h3
    rw [if_pos (show nI k = 3 by rw [h3]; rfl), if_neg (fun z => z h3), lett_s, h10]
    dsimp only
    rw [e8, p_within, bd2_s, p_within, bd2_s]
    rcases hct with rfl | rfl
    · rw [if_neg (show ¬ nI 1 = 2 by decide)]
      by_cases hv : 1 - 1 ≤ v ∧ v ≤ 999
      · have em : min v 1000 = v := by omega
        rw [if_pos hv, em, b01_t (show (0 : Int32) ≤ nI v ∧ nI v ≤ 999 from in_rng (a := 0) (m := 999) (by omega) (by omega) (by decide)), if_neg one_ne, h10, if_neg (show ¬ nI 1 = 2 by decide), h11, e8, em, wr_nI hck (by decide), bs_s, lett_s, if_neg (by decide)]
        rfl
      · rw [if_neg hv, b01_f (fun z => absurd z.2 (nI_ge (a := 999) (b := min v 1000) (by omega) (by omega))), if_pos rfl]
        rfl
    · rw [if_pos (show nI 2 = 2 by decide)]
      by_cases hv : 2 - 1 ≤ v ∧ v ≤ 999
      · have em : min v 1000 = v := by omega
        rw [if_pos hv, em, b01_t (show (1 : Int32) ≤ nI v ∧ nI v ≤ 999 from in_rng (a := 1) (m := 999) (by omega) (by omega) (by decide)), if_neg one_ne, h10, if_pos (show nI 2 = 2 by decide), h11, e8, em, wr_nI hck (by decide), bs_s, lett_s, if_pos rfl]
        rfl
      · have hq : ¬ ((1 : Int32) ≤ nI (min v 1000) ∧ nI (min v 1000) ≤ 999) := by
          rintro ⟨z1, z2⟩
          have y1 := (nI_leI (a := 1) (b := min v 1000) (by decide) (by omega)).mp z1
          have y2 := (nI_leI (a := min v 1000) (b := 999) (by omega) (by decide)).mp z2
          omega
        rw [if_neg hv, b01_f hq, if_pos rfl]
        rfl
  · rw [if_neg (show ¬ nI k = 3 from k_ne hk (by decide) h3), if_pos h3, bd2_s]
theorem take3 {N n k : Nat} {S : St} (h9 : S.1 2609 = 3) (h6 : S.1 2606 = nI k) (hk : k ≤ 5) : f_X5_takeToken N n S = if k = 4 then some (0, pF (pF S 2602 (S.1 2602 + 1)) 2609 0) else some (1, S) := by
  unfold f_X5_takeToken
  rw [h9, if_neg (by decide), if_neg (by decide), if_neg (by decide)]
  unfold f_X5_takeSemicolon
  rw [h6]
  by_cases h4 : k = 4
  · rw [if_pos (show nI k = 4 by rw [h4]; rfl), if_pos h4, lett_s, lett_s, bd2_s]
  · rw [if_neg (show ¬ nI k = 4 from k_ne hk (by decide) h4), if_neg h4, bd2_s]
