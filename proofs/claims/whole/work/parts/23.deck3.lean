-- DECK, third part: margins, worst, gap
abbrev CU : Type := Option (Int32 × Nat × Nat)
def stp (cur : CU) (m : Int32) (k t : Nat) : CU := match cur with
  | none => some (m, k, t)
  | some x => if x.1 ≤ m then some x else some (m, k, t)
def inn (mar : Nat → Nat → Int32) (t : Nat) (cur : CU) : Nat → CU
  | 0 => cur
  | k + 1 => stp (inn mar t cur k) (mar t k) k t
def outr (mar : Nat → Nat → Int32) (n : Nat) : Nat → CU
  | 0 => none
  | t + 1 => inn mar t (outr mar n t) n
def curA (M : Int32) (cur : CU) : Int32 := match cur with
  | none => M
  | some x => x.1
def curB (d : Int32) (cur : CU) : Int32 := match cur with
  | none => d
  | some x => nI x.2.1
def curC (d : Int32) (cur : CU) : Int32 := match cur with
  | none => d
  | some x => nI x.2.2
def mkC (S : St) (g : Nat → Int32) (cur : CU) : St := (fun k => if k = 109 then curA 2147483647 cur else if k = 110 then curB (-1) cur else if k = 111 then curC (-1) cur else S.1 k, fun k => if k = 4 then g else S.2 k)
def mkM (S : St) (cur : CU) : St := (fun k => if k = 34 then curA 100000000 cur else if k = 35 then curB (S.1 35) cur else if k = 36 then curC (S.1 36) cur else S.1 k, S.2)
theorem mkC_0 (S : St) : pF (pF (pF S 109 2147483647) 110 (-1)) 111 (-1) = mkC S (S.2 4) none := by
  refine Prod.ext ?_ ?_
  · funext k
    simp only [pF, upd, mkC, curA, curB, curC]
    by_cases h1 : k = 109
    · subst h1; rfl
    · by_cases h2 : k = 110
      · subst h2; rfl
      · by_cases h3 : k = 111
        · subst h3; rfl
        · simp [h1, h2, h3]
  · funext k
    simp only [pF, mkC]
    split
    · next h => rw [h]
    · rfl
theorem mkC_3 (S : St) (g : Nat → Int32) (cur : CU) (m : Int32) (k t : Nat) : pF (pF (pF (mkC S g cur) 109 m) 110 (nI k)) 111 (nI t) = mkC S g (some (m, k, t)) := by
  refine Prod.ext ?_ rfl
  funext j
  simp only [pF, upd, mkC, curA, curB, curC]
  by_cases h1 : j = 109
  · subst h1; rfl
  · by_cases h2 : j = 110
    · subst h2; rfl
    · by_cases h3 : j = 111
      · subst h3; rfl
      · simp [h1, h2, h3]
theorem mkC_A (S : St) (g g2 : Nat → Int32) (cur : CU) : pA (mkC S g cur) 4 g2 = mkC S g2 cur := by
  refine Prod.ext rfl ?_
  funext j
  simp only [pA, mkC]
  split <;> rfl
theorem mkM_0 (S : St) : pF S 34 100000000 = mkM S none := by
  refine Prod.ext ?_ rfl
  funext k
  simp only [pF, upd, mkM, curA, curB, curC]
  by_cases h1 : k = 34
  · subst h1; rfl
  · by_cases h2 : k = 35
    · subst h2; rfl
    · by_cases h3 : k = 36
      · subst h3; rfl
      · simp [h1, h2, h3]
theorem mkM_3 (S : St) (cur : CU) (m : Int32) (k t : Nat) : pF (pF (pF (mkM S cur) 34 m) 35 (nI k)) 36 (nI t) = mkM S (some (m, k, t)) := by
  refine Prod.ext ?_ rfl
  funext j
  simp only [pF, upd, mkM, curA, curB, curC]
  by_cases h1 : j = 34
  · subst h1; rfl
  · by_cases h2 : j = 35
    · subst h2; rfl
    · by_cases h3 : j = 36
      · subst h3; rfl
      · simp [h1, h2, h3]
theorem stp_at (M : Int32) (cur : CU) (m : Int32) (k t : Nat) (hM : ¬ M ≤ m) : (curA M cur ≤ m → stp cur m k t = cur) ∧ (¬ curA M cur ≤ m → stp cur m k t = some (m, k, t)) := by
  cases cur with
  | none => exact ⟨fun h => absurd h hM, fun _ => rfl⟩
  | some x => exact ⟨fun h => if_pos h, fun h => if_neg h⟩
theorem inn_some {mar : Nat → Nat → Int32} {t : Nat} {cur : CU} : ∀ k, 1 ≤ k → ∃ x, inn mar t cur k = some x := by
  intro k hk
  obtain ⟨j, rfl⟩ := Nat.exists_eq_succ_of_ne_zero (Nat.ne_of_gt hk)
  simp only [inn]
  cases inn mar t cur j with
  | none => exact ⟨_, rfl⟩
  | some x =>
    simp only [stp]
    split
    · exact ⟨_, rfl⟩
    · exact ⟨_, rfl⟩
def marF (bs ws bh : Nat → Nat) (n c : Nat) : Nat → Nat → Int32 := fun t k => 4 * nI (bs k) - nI (load ws bh n t k c)
theorem mar_lt {bs ws bh : Nat → Nat} {n c t k : Nat} (hb : bs k ≤ 1000) (hw : ∀ j, j < c → ws j ≤ 400) (hc : c ≤ 6) : ¬ (2147483647 : Int32) ≤ marF bs ws bh n c t k ∧ ¬ (100000000 : Int32) ≤ marF bs ws bh n c t k := by
  have h1 := load_le (bh := bh) (n := n) (t := t) (k := k) c hw
  have e : marF bs ws bh n c t k = nI (4 * bs k) - nI (load ws bh n t k c) := by
    unfold marF
    rw [show (4 : Int32) * nI (bs k) = nI (4 * bs k) from pk_mul 4 (bs k)]
  rw [e, i_le, i_le, sub_int (by omega) (by omega)]
  have e1 : (2147483647 : Int32).toInt = 2147483647 := rfl
  have e2 : (100000000 : Int32).toInt = 100000000 := rfl
  omega

theorem p_find7 {N n c : Nat} {S : St} {bs ws bh : Nat → Nat} (h0 : S.1 100 = nI n) (hc : S.1 108 = nI c) (hc1 : 1 ≤ c) (hc6 : c ≤ 6) (hn : 1 ≤ n ∧ n ≤ 12) (hbs : ∀ j, j < n → bs j ≤ 1000 ∧ S.2 2 j = nI (bs j)) (hw : ∀ j, j < c → ws j ≤ 400 ∧ S.2 6 j = nI (ws j)) (hb : ∀ j, j < c → S.2 7 j = nI (bh j) ∧ bh j < 900) (hN : 1000 < N) : ∃ g : Nat → Int32, f_X0_findLeastMargin_7 N n S = some (mkC S g (outr (marF bs ws bh n c) n (n + bh (c - 1)))) := by
  unfold f_X0_findLeastMargin_7
  rw [lett_s, lett_s, lett_s, lett_s, mkC_0]
  have e0 : (mkC S (S.2 4) none).1 108 = nI c := hc
  have e1 : (mkC S (S.2 4) none).1 100 = nI n := h0
  have e2 : (mkC S (S.2 4) none).2 7 = S.2 7 := rfl
  obtain ⟨hl1, hl2⟩ := hb (c - 1) (by omega)
  rw [e0, e1, e2, if_neg (nI_nle (by omega) (by omega)), nI_m1 (by omega), rd_nI (by omega) (by decide), bs_s, hl1, nI_m1 hn.1, nI_add]
  have main : ∃ gz : Nat → Int32, ∀ (d i : Nat) (M : Nat), i + d = n + bh (c - 1) → d < M → ∀ g : Nat → Int32, ∃ g2 : Nat → Int32, loop1 (fun (k8 : St → Int32 → Option St) (S9 : St) (x10 : Int32) => if nI (n - 1 + bh (c - 1)) < x10 then some S9 else (f_X0_layLoads_7 N n S9 x10).bind fun S12 => loop1 (fun (k15 : St → Int32 → Option St) (S16 : St) (x17 : Int32) => if (S16.1 100) ≤ x17 then k8 S16 (x10 + 1) else (rd (S16.2 2) n x17).bind fun x19 => (rd (S16.2 4) n x17).bind fun x20 => if (S16.1 109) ≤ ((4 * x19) - x20) then k15 S16 (x17 + 1) else lett (pF S16 109 ((4 * x19) - x20)) fun S21 => lett (pF S21 110 x17) fun S22 => lett (pF S22 111 x10) fun S23 => k15 S23 (x17 + 1)) N S12 0) M (mkC S g (outr (marF bs ws bh n c) n i)) (nI i) = some (mkC S g2 (outr (marF bs ws bh n c) n (n + bh (c - 1)))) := by
    refine ⟨S.2 4, ?_⟩
    intro d
    induction d with
    | zero =>
      intro i M hi hM g
      obtain ⟨M, rfl⟩ := Nat.exists_eq_succ_of_ne_zero (Nat.ne_of_gt hM)
      have hi : i = n + bh (c - 1) := by omega
      refine ⟨g, ?_⟩
      simp only [loop1]
      rw [if_pos (nI_lt (by omega) (by omega)), hi]
    | succ d ih =>
      intro i M hi hM g
      obtain ⟨M, rfl⟩ := Nat.exists_eq_succ_of_ne_zero (Nat.ne_of_gt (Nat.lt_of_le_of_lt (Nat.zero_le _) hM))
      obtain ⟨g3, e3, hg3⟩ := p_lay7 (N := N) (n := n) (c := c) (t := i) (S := mkC S g (outr (marF bs ws bh n c) n i)) (ws := ws) (bh := bh) h0 hc hc6 hn (by omega) (fun j hj => (hw j hj).2) (fun j hj => ⟨(hb j hj).1, Nat.lt_trans (hb j hj).2 (by decide)⟩) (by omega)
      simp only [loop1]
      rw [if_neg (nI_nlt (by omega) (by omega)), e3, bs_s, mkC_A]
      obtain ⟨g4, e4⟩ := ih (i + 1) M (by omega) (by omega) g3
      refine ⟨g4, ?_⟩
      refine Eq.trans ?_ e4
      refine loop1_run (I := fun k S2 x => x = nI k ∧ S2 = mkC S g3 (inn (marF bs ws bh n c) i (outr (marF bs ws bh n c) n i) k)) (k := n) ⟨rfl, rfl⟩ (by omega) ?_ ?_
      · intro k S2 x hk hI
        obtain ⟨rfl, rfl⟩ := hI
        refine Or.inl ⟨_, _, ⟨rfl, rfl⟩, fun rc => ?_⟩
        have f1 : ∀ cur, (mkC S g3 cur).1 100 = nI n := fun _ => h0
        have f2 : ∀ cur, (mkC S g3 cur).2 2 = S.2 2 := fun _ => rfl
        have f3 : ∀ cur, (mkC S g3 cur).2 4 = g3 := fun _ => rfl
        have f4 : ∀ cur, (mkC S g3 cur).1 109 = curA 2147483647 cur := fun _ => rfl
        rw [f1, f2, f3, f4, if_neg (nI_ge hk (by omega)), rd_nI hk (by omega), bs_s, rd_nI hk (by omega), bs_s, (hbs k hk).2, hg3 k hk]
        have hst := stp_at 2147483647 (inn (marF bs ws bh n c) i (outr (marF bs ws bh n c) n i) k) (marF bs ws bh n c i k) k i (mar_lt (hbs k hk).1 (fun j hj => (hw j hj).1) hc6).1
        simp only [inn]
        by_cases hle : curA 2147483647 (inn (marF bs ws bh n c) i (outr (marF bs ws bh n c) n i) k) ≤ marF bs ws bh n c i k
        · rw [if_pos (show _ ≤ 4 * nI (bs k) - nI (load ws bh n i k c) from hle), hst.1 hle, nI_1]
        · rw [if_neg (show ¬ _ ≤ 4 * nI (bs k) - nI (load ws bh n i k c) from hle), hst.2 hle, lett_s, lett_s, lett_s, nI_1, mkC_3]
          rfl
      · intro S2 x hI rc
        obtain ⟨rfl, rfl⟩ := hI
        have f1 : ∀ cur, (mkC S g3 cur).1 100 = nI n := fun _ => h0
        rw [f1, if_pos (nI_le (Nat.le_refl _) (by omega)), nI_1]
        rfl
  obtain ⟨-, main⟩ := main
  exact main (n + bh (c - 1)) 0 N (by omega) (by omega) (S.2 4)

theorem p_find8 {N n c : Nat} {S : St} {bs ws bh : Nat → Nat} (h0 : S.1 100 = nI n) (hc : S.1 108 = nI c) (hc1 : 1 ≤ c) (hc6 : c ≤ 6) (hn : 1 ≤ n ∧ n ≤ 12) (hbs : ∀ j, j < n → bs j ≤ 1000 ∧ S.2 2 j = nI (bs j)) (hw : ∀ j, j < c → ws j ≤ 400 ∧ S.2 6 j = nI (ws j)) (hb : ∀ j, j < c → S.2 8 j = nI (bh j) ∧ bh j < 900) (hN : 1000 < N) : ∃ g : Nat → Int32, f_X0_findLeastMargin_8 N n S = some (mkC S g (outr (marF bs ws bh n c) n (n + bh (c - 1)))) := by
  unfold f_X0_findLeastMargin_8
  rw [lett_s, lett_s, lett_s, lett_s, mkC_0]
  have e0 : (mkC S (S.2 4) none).1 108 = nI c := hc
  have e1 : (mkC S (S.2 4) none).1 100 = nI n := h0
  have e2 : (mkC S (S.2 4) none).2 8 = S.2 8 := rfl
  obtain ⟨hl1, hl2⟩ := hb (c - 1) (by omega)
  rw [e0, e1, e2, if_neg (nI_nle (by omega) (by omega)), nI_m1 (by omega), rd_nI (by omega) (by decide), bs_s, hl1, nI_m1 hn.1, nI_add]
  have main : ∃ gz : Nat → Int32, ∀ (d i : Nat) (M : Nat), i + d = n + bh (c - 1) → d < M → ∀ g : Nat → Int32, ∃ g2 : Nat → Int32, loop1 (fun (k8 : St → Int32 → Option St) (S9 : St) (x10 : Int32) => if nI (n - 1 + bh (c - 1)) < x10 then some S9 else (f_X0_layLoads_8 N n S9 x10).bind fun S12 => loop1 (fun (k15 : St → Int32 → Option St) (S16 : St) (x17 : Int32) => if (S16.1 100) ≤ x17 then k8 S16 (x10 + 1) else (rd (S16.2 2) n x17).bind fun x19 => (rd (S16.2 4) n x17).bind fun x20 => if (S16.1 109) ≤ ((4 * x19) - x20) then k15 S16 (x17 + 1) else lett (pF S16 109 ((4 * x19) - x20)) fun S21 => lett (pF S21 110 x17) fun S22 => lett (pF S22 111 x10) fun S23 => k15 S23 (x17 + 1)) N S12 0) M (mkC S g (outr (marF bs ws bh n c) n i)) (nI i) = some (mkC S g2 (outr (marF bs ws bh n c) n (n + bh (c - 1)))) := by
    refine ⟨S.2 4, ?_⟩
    intro d
    induction d with
    | zero =>
      intro i M hi hM g
      obtain ⟨M, rfl⟩ := Nat.exists_eq_succ_of_ne_zero (Nat.ne_of_gt hM)
      have hi : i = n + bh (c - 1) := by omega
      refine ⟨g, ?_⟩
      simp only [loop1]
      rw [if_pos (nI_lt (by omega) (by omega)), hi]
    | succ d ih =>
      intro i M hi hM g
      obtain ⟨M, rfl⟩ := Nat.exists_eq_succ_of_ne_zero (Nat.ne_of_gt (Nat.lt_of_le_of_lt (Nat.zero_le _) hM))
      obtain ⟨g3, e3, hg3⟩ := p_lay8 (N := N) (n := n) (c := c) (t := i) (S := mkC S g (outr (marF bs ws bh n c) n i)) (ws := ws) (bh := bh) h0 hc hc6 hn (by omega) (fun j hj => (hw j hj).2) (fun j hj => ⟨(hb j hj).1, Nat.lt_trans (hb j hj).2 (by decide)⟩) (by omega)
      simp only [loop1]
      rw [if_neg (nI_nlt (by omega) (by omega)), e3, bs_s, mkC_A]
      obtain ⟨g4, e4⟩ := ih (i + 1) M (by omega) (by omega) g3
      refine ⟨g4, ?_⟩
      refine Eq.trans ?_ e4
      refine loop1_run (I := fun k S2 x => x = nI k ∧ S2 = mkC S g3 (inn (marF bs ws bh n c) i (outr (marF bs ws bh n c) n i) k)) (k := n) ⟨rfl, rfl⟩ (by omega) ?_ ?_
      · intro k S2 x hk hI
        obtain ⟨rfl, rfl⟩ := hI
        refine Or.inl ⟨_, _, ⟨rfl, rfl⟩, fun rc => ?_⟩
        have f1 : ∀ cur, (mkC S g3 cur).1 100 = nI n := fun _ => h0
        have f2 : ∀ cur, (mkC S g3 cur).2 2 = S.2 2 := fun _ => rfl
        have f3 : ∀ cur, (mkC S g3 cur).2 4 = g3 := fun _ => rfl
        have f4 : ∀ cur, (mkC S g3 cur).1 109 = curA 2147483647 cur := fun _ => rfl
        rw [f1, f2, f3, f4, if_neg (nI_ge hk (by omega)), rd_nI hk (by omega), bs_s, rd_nI hk (by omega), bs_s, (hbs k hk).2, hg3 k hk]
        have hst := stp_at 2147483647 (inn (marF bs ws bh n c) i (outr (marF bs ws bh n c) n i) k) (marF bs ws bh n c i k) k i (mar_lt (hbs k hk).1 (fun j hj => (hw j hj).1) hc6).1
        simp only [inn]
        by_cases hle : curA 2147483647 (inn (marF bs ws bh n c) i (outr (marF bs ws bh n c) n i) k) ≤ marF bs ws bh n c i k
        · rw [if_pos (show _ ≤ 4 * nI (bs k) - nI (load ws bh n i k c) from hle), hst.1 hle, nI_1]
        · rw [if_neg (show ¬ _ ≤ 4 * nI (bs k) - nI (load ws bh n i k c) from hle), hst.2 hle, lett_s, lett_s, lett_s, nI_1, mkC_3]
          rfl
      · intro S2 x hI rc
        obtain ⟨rfl, rfl⟩ := hI
        have f1 : ∀ cur, (mkC S g3 cur).1 100 = nI n := fun _ => h0
        rw [f1, if_pos (nI_le (Nat.le_refl _) (by omega)), nI_1]
        rfl
  obtain ⟨-, main⟩ := main
  exact main (n + bh (c - 1)) 0 N (by omega) (by omega) (S.2 4)

theorem sub_sub_nI (x : Int32) (a b : Nat) : x - nI a - nI b = x - nI (a + b) := by
  rw [← nI_add]
  apply Int32.toBitVec_inj.mp
  simp only [Int32.toBitVec_sub, Int32.toBitVec_add]
  exact BitVec.sub_sub _ _ _
theorem p_place0 {N n i : Nat} {T : St} {gs : Nat → Nat} {x : Int32} (hi : i < 6) (hg : ∀ j, 1 ≤ j → j ≤ i → T.2 5 j = nI (gs j)) (hN : 20 < N) : f_X7_placeOf N n T (nI i) x 0 = some (x - nI (bhf gs i), T) := by
  unfold f_X7_placeOf
  refine loop2_run (I := fun k S2 y z => S2 = T ∧ y = x - nI (bhf gs k) ∧ z = nI (k + 1)) (k := i) ⟨rfl, ?_, rfl⟩ (by omega) ?_ ?_
  · show x = x - nI 0
    rw [nI_0]
    exact (Int32.sub_zero x).symm
  · intro k S2 y z hk hI
    obtain ⟨rfl, rfl, rfl⟩ := hI
    refine Or.inl ⟨_, _, _, ⟨rfl, rfl, rfl⟩, fun rc => ?_⟩
    rw [if_neg (nI_nlt (by omega) (by omega)), if_pos (show (0 : Int32) ≤ 0 by decide), rd_nI (by omega) (by decide), bs_s, hg (k + 1) (by omega) (by omega), sub_sub_nI, nI_1]
    rfl
  · intro S2 y z hI rc
    obtain ⟨rfl, rfl, rfl⟩ := hI
    rw [if_pos (nI_lt (by omega) (by omega))]
theorem p_placeG {N n i g : Nat} {T : St} {x : Int32} (hi : i < 6) (hg : 1 ≤ g ∧ g ≤ 12) (hN : 20 < N) : f_X7_placeOf N n T (nI i) x (nI g) = some (x - nI (i * g), T) := by
  unfold f_X7_placeOf
  refine loop2_run (I := fun k S2 y z => S2 = T ∧ y = x - nI (k * g) ∧ z = nI (k + 1)) (k := i) ⟨rfl, ?_, rfl⟩ (by omega) ?_ ?_
  · rw [Nat.zero_mul, nI_0]
    exact (Int32.sub_zero x).symm
  · intro k S2 y z hk hI
    obtain ⟨rfl, rfl, rfl⟩ := hI
    refine Or.inl ⟨_, _, _, ⟨rfl, rfl, rfl⟩, fun rc => ?_⟩
    rw [if_neg (nI_nlt (by omega) (by omega)), if_neg (nI_nle (by omega) (by omega)), sub_sub_nI, nI_1, Nat.succ_mul]
  · intro S2 y z hI rc
    obtain ⟨rfl, rfl, rfl⟩ := hI
    rw [if_pos (nI_lt (by omega) (by omega))]
/-- placeOf answers by bh, whatever else the state holds -/
def PlOf (N n c : Nat) (row : Nat → Int32) (bh : Nat → Nat) (like : Int32) : Prop := ∀ (T : St) (i : Nat) (x : Int32), T.2 5 = row → i < c → f_X7_placeOf N n T (nI i) x like = some (x - nI (bh i), T)
theorem p_pressOn {N n m c t k : Nat} {T : St} {ws bh : Nat → Nat} {like : Int32} (h0 : T.1 0 = nI n) (hc : T.1 4 = nI c) (hc6 : c ≤ 6) (hn : 1 ≤ n ∧ n ≤ 12) (ht : t < 1000) (hk : k < n) (hw : ∀ j, j < c → T.2 4 j = nI (ws j)) (hb : ∀ j, j < c → bh j < 1000) (hpl : PlOf N m c (T.2 5) bh like) (hN : 20 < N) : f_X7_pressOn N m T (nI k) (nI t) like = some (nI (load ws bh n t k c), T) := by
  unfold f_X7_pressOn
  refine loop2_run (I := fun i S2 y z => S2 = T ∧ y = nI (load ws bh n t k i) ∧ z = nI i) (k := c) ⟨rfl, rfl, rfl⟩ (by omega) ?_ ?_
  · intro i S2 y z hi hI
    obtain ⟨rfl, rfl, rfl⟩ := hI
    refine Or.inl ⟨_, _, _, ⟨rfl, rfl, rfl⟩, fun rc => ?_⟩
    rw [hc, if_neg (nI_ge hi (by omega)), hpl S2 i _ rfl hi, bd2_s, p_isHull h0 hn.1, bd2_s]
    simp only [load, ctb]
    by_cases hon : bh i ≤ t ∧ t - bh i < n
    · rw [b01_t ((on_hull ht (hb i hi) hn).mpr hon), if_neg one_ne, if_pos hon, sub_nat hon.1, lett_s]
      dsimp only
      by_cases a1 : t - bh i = k
      · rw [if_pos (congrArg nI a1), if_pos a1, rd_nI (by omega) (by decide), bs_s, hw i hi, show (2 : Int32) * nI (ws i) = nI (2 * ws i) from pk_mul 2 (ws i), nI_add, nI_1]
      · rw [if_neg (fun e => a1 ((nI_eq_iff (by omega) (by omega)).mp e)), if_neg a1]
        by_cases a2 : t - bh i + 1 = k
        · have e : nI (t - bh i) = nI k - 1 := by rw [← a2, nI_pred]
          rw [if_pos e, if_pos (Or.inl a2), rd_nI (by omega) (by decide), bs_s, hw i hi, nI_add, nI_1]
        · have e : ¬ nI (t - bh i) = nI k - 1 := by
            intro e
            rcases Nat.eq_zero_or_pos k with h | h
            · subst h
              have h3 : nI (t - bh i) < 0 := by rw [e]; decide
              exact nI_pos (by omega) h3
            · rw [nI_m1 h] at e
              have := (nI_eq_iff (by omega) (by omega)).mp e
              omega
          rw [if_neg e]
          by_cases a3 : t - bh i = k + 1
          · rw [nI_1, if_pos (congrArg nI a3), if_pos (Or.inr a3), rd_nI (by omega) (by decide), bs_s, hw i hi, nI_add, nI_1]
          · rw [nI_1, if_neg (fun e => a3 ((nI_eq_iff (by omega) (by omega)).mp e)), if_neg (fun h => h.elim a2 a3), nI_1]
            show rc S2 (nI _ + nI 0) _ = _
            rw [nI_add]
    · rw [b01_f (fun h => hon ((on_hull ht (hb i hi) hn).mp h)), if_pos rfl, if_neg hon, nI_1]
      rfl
  · intro S2 y z hI rc
    obtain ⟨rfl, rfl, rfl⟩ := hI
    rw [hc, if_pos (nI_le (Nat.le_refl _) (by omega))]
theorem p_looks {N n m c : Nat} {T : St} {bs ws bh : Nat → Nat} {like : Int32} (h0 : T.1 0 = nI n) (hc : T.1 4 = nI c) (hc1 : 1 ≤ c) (hc6 : c ≤ 6) (hn : 1 ≤ n ∧ n ≤ 12) (hbs : ∀ j, j < n → bs j ≤ 1000 ∧ T.2 1 j = nI (bs j)) (hw : ∀ j, j < c → ws j ≤ 400 ∧ T.2 4 j = nI (ws j)) (hb : ∀ j, j < c → bh j < 900) (hpl : PlOf N m c (T.2 5) bh like) (hN : 1000 < N) : f_X7_looks N m T like = some (mkM T (outr (marF bs ws bh n c) n (n + bh (c - 1)))) := by
  unfold f_X7_looks
  rw [lett_s, mkM_0]
  have hb1 := hb (c - 1) (by omega)
  refine loop1_run (I := fun i S2 x => x = nI i ∧ S2 = mkM T (outr (marF bs ws bh n c) n i)) (k := n + bh (c - 1)) ⟨rfl, rfl⟩ (by omega) ?_ ?_
  · intro i S2 x hi hI
    obtain ⟨rfl, rfl⟩ := hI
    have f1 : ∀ cur, (mkM T cur).1 0 = nI n := fun _ => h0
    have f2 : ∀ cur, (mkM T cur).1 4 = nI c := fun _ => hc
    have f4 : ∀ cur, (mkM T cur).1 34 = curA 100000000 cur := fun _ => rfl
    have f5 : ∀ cur, (mkM T cur).2 = T.2 := fun _ => rfl
    refine Or.inl ⟨mkM T (outr (marF bs ws bh n c) n (i + 1)), nI (i + 1), ⟨rfl, rfl⟩, fun rc => ?_⟩
    rw [f2, nI_m1 hc1, hpl (mkM T (outr (marF bs ws bh n c) n i)) (c - 1) (nI i) rfl (by omega), bd2_s, f1, if_neg (by rw [i_nle]; exact (sub_le_iff (by omega) (by omega) (by omega)).mpr (by omega))]
    refine loop1_run (I := fun k S2 x => x = nI k ∧ S2 = mkM T (inn (marF bs ws bh n c) i (outr (marF bs ws bh n c) n i) k)) (k := n) ⟨rfl, rfl⟩ (by omega) ?_ ?_
    · intro k S2 x hk hI
      obtain ⟨rfl, rfl⟩ := hI
      refine Or.inl ⟨_, _, ⟨rfl, rfl⟩, fun rc2 => ?_⟩
      rw [f1, f5, if_neg (nI_ge hk (by omega)), rd_nI (by omega) (by decide), bs_s, (hbs k hk).2, p_pressOn (T := mkM T (inn (marF bs ws bh n c) i (outr (marF bs ws bh n c) n i) k)) (t := i) (k := k) (n := n) (c := c) (ws := ws) (bh := bh) h0 hc hc6 hn (by omega) hk (fun j hj => (hw j hj).2) (fun j hj => Nat.lt_trans (hb j hj) (by decide)) hpl (by omega), bd2_s, f4]
      have hst := stp_at 100000000 (inn (marF bs ws bh n c) i (outr (marF bs ws bh n c) n i) k) (marF bs ws bh n c i k) k i (mar_lt (hbs k hk).1 (fun j hj => (hw j hj).1) hc6).2
      simp only [inn]
      by_cases hle : curA 100000000 (inn (marF bs ws bh n c) i (outr (marF bs ws bh n c) n i) k) ≤ marF bs ws bh n c i k
      · rw [if_pos (show _ ≤ 4 * nI (bs k) - nI (load ws bh n i k c) from hle), hst.1 hle, nI_1]
      · rw [if_neg (show ¬ _ ≤ 4 * nI (bs k) - nI (load ws bh n i k c) from hle), hst.2 hle, lett_s, lett_s, lett_s, nI_1, mkM_3]
        rfl
    · intro S2 x hI rc2
      obtain ⟨rfl, rfl⟩ := hI
      rw [f1, if_pos (nI_le (Nat.le_refl _) (by omega)), nI_1]
      rfl
  · intro S2 x hI rc
    obtain ⟨rfl, rfl⟩ := hI
    have f1 : ∀ cur, (mkM T cur).1 0 = nI n := fun _ => h0
    have f2 : ∀ cur, (mkM T cur).1 4 = nI c := fun _ => hc
    rw [f2, nI_m1 hc1, hpl (mkM T (outr (marF bs ws bh n c) n (n + bh (c - 1)))) (c - 1) _ rfl (by omega), bd2_s, f1, if_pos (by rw [← i_nlt]; exact fun h => by have := (sub_le_iff (by omega) (by omega) (by omega)).mp h; omega)]

