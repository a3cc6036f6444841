-- DECK, fourth part: pressed, worst, gap
theorem Kp_mkC (S : St) (g : Nat → Int32) (cur : CU) : Kp pD qD S (mkC S g cur) := by
  refine ⟨fun k hk => ?_, fun k hk => ?_⟩
  · have h1 : k ≠ 109 := fun e => by subst e; exact absurd hk (by decide)
    have h2 : k ≠ 110 := fun e => by subst e; exact absurd hk (by decide)
    have h3 : k ≠ 111 := fun e => by subst e; exact absurd hk (by decide)
    simp [mkC, h1, h2, h3]
  · have h1 : k ≠ 4 := fun e => by subst e; exact absurd hk (by decide)
    simp [mkC, h1]
theorem Kp_mkM (S : St) (cur : CU) : Kp pDM qDM S (mkM S cur) := by
  refine ⟨fun k hk => ?_, fun k hk => rfl⟩
  have h1 : k ≠ 34 := fun e => by subst e; exact absurd hk (by decide)
  have h2 : k ≠ 35 := fun e => by subst e; exact absurd hk (by decide)
  have h3 : k ≠ 36 := fun e => by subst e; exact absurd hk (by decide)
  simp [mkM, h1, h2, h3]
theorem PlOf_0 {N m c : Nat} {row : Nat → Int32} {gs : Nat → Nat} (hc : c ≤ 6) (hg : ∀ j, 1 ≤ j → j < c → row j = nI (gs j)) (hN : 20 < N) : PlOf N m c row (bhf gs) 0 := by
  intro T i x hT hi
  exact p_place0 (by omega) (fun j h1 h2 => by rw [hT]; exact hg j h1 (by omega)) hN
theorem PlOf_G {N m c g : Nat} {row : Nat → Int32} (hc : c ≤ 6) (hg : 1 ≤ g ∧ g ≤ 12) (hN : 20 < N) : PlOf N m c row (fun i => i * g) (nI g) := by
  intro T i x hT hi
  exact p_placeG (by omega) hg hN
theorem d_pressed {N n : Nat} {S T : St} (a1 a2 : Int32) (hN : 1000 < N) (hn : 1 ≤ n ∧ n ≤ 12) (h : RD n S T) : ∃ (r : Int32) (S2 T2 : St), f_X6_pressed N n S a1 a2 = some (r, S2) ∧ f_X7_pressed N n T a1 a2 = some (r, T2) ∧ RD n S2 T2 ∧ Kp pD qD S S2 ∧ Kp pDM qDM T T2 := by
  obtain ⟨bs, ws, gs, c, hx⟩ := id h
  obtain ⟨⟨hc, hS0, hT0, hSc, hTc⟩, hb, ha, hp, hw, hbh, hg⟩ := hx
  have hb12 := bhf_le (c := c) (fun j h1 h2 => (hg j h1 h2).2.1)
  unfold f_X6_pressed f_X7_pressed
  rw [p_hasHull hS0 hn.1, p_isHull hT0 hn.1, bd2_s, bd2_s]
  by_cases h1 : nI 0 ≤ a1 ∧ a1 ≤ nI (n - 1)
  · rw [b01_t h1, if_neg one_ne, if_neg one_ne, p_within, p_in N n T (lo' := 0) (hi' := 100) (lo := 0) (hi := 100) rfl rfl, bd2_s, bd2_s]
    by_cases h2 : (0 : Int32) ≤ a2 ∧ a2 ≤ 100
    · rw [b01_t h2, if_neg one_ne, if_neg one_ne]
      obtain ⟨k, hk, rfl⟩ := hull_ix h1 hn.1 hn.2
      obtain ⟨t, -, ht, rfl⟩ := rng (a := 0) (m := 100) h2.1 h2.2 (by decide) (by decide)
      obtain ⟨g, e1, hg1⟩ := p_lay7 (N := N) (n := n) (c := c) (t := t) (S := S) (ws := ws) (bh := bhf gs) hS0 hSc hc hn (by omega) (fun j hj => (hw j hj).2.2.1) (fun j hj => ⟨hbh j hj, by have := hb12 j hj; omega⟩) (by omega)
      have e2 := p_pressOn (N := N) (n := n) (m := n) (c := c) (t := t) (k := k) (T := T) (ws := ws) (bh := bhf gs) (like := 0) hT0 hTc hc hn (by omega) hk (fun j hj => (hw j hj).2.2.2) (fun j hj => by have := hb12 j hj; omega) (PlOf_0 hc (fun j a b => (hg j a b).2.2) (by omega)) (by omega)
      unfold f_X0_loadOn
      rw [e1, bs_s, pA_at, rd_nI hk (by omega), bs_s, bd2_s, e2, bd2_s, hg1 k hk]
      exact ⟨_, _, _, rfl, rfl, RD_kp (P := fun _ => false) (Q := fun k => Nat.beq k 4) (P' := fun _ => false) (Q' := fun _ => false) h ((Kp.rf _ _ _).pA _ rfl) (Kp.rf _ _ _) ⟨rfl, rfl⟩ ⟨rfl, rfl, rfl, rfl, rfl⟩ ⟨rfl, rfl⟩ ⟨rfl, rfl, rfl, rfl, rfl⟩, (Kp.rf _ _ _).pA _ rfl, Kp.rf _ _ _⟩
    · rw [b01_f h2, if_pos rfl, if_pos rfl]
      exact ⟨_, S, T, rfl, rfl, h, Kp.rf _ _ _, Kp.rf _ _ _⟩
  · rw [b01_f h1, if_pos rfl, if_pos rfl]
    exact ⟨_, S, T, rfl, rfl, h, Kp.rf _ _ _, Kp.rf _ _ _⟩
theorem RD_mk {n : Nat} {S T : St} (h : RD n S T) (g : Nat → Int32) (cur cur2 : CU) : RD n (mkC S g cur) (mkM T cur2) := by
  obtain ⟨bs, ws, gs, c, h⟩ := h
  exact ⟨bs, ws, gs, c, h⟩
theorem d_worst {N n : Nat} {S T : St} (a1 : Int32) (hN : 1000 < N) (hn : 1 ≤ n ∧ n ≤ 12) (h : RD n S T) : ∃ (r : Int32) (S2 T2 : St), f_X6_worst N n S a1 = some (r, S2) ∧ f_X7_worst N n T a1 = some (r, T2) ∧ RD n S2 T2 ∧ Kp pD qD S S2 ∧ Kp pDM qDM T T2 := by
  obtain ⟨bs, ws, gs, c, hx⟩ := id h
  obtain ⟨⟨hc, hS0, hT0, hSc, hTc⟩, hb, ha, hp, hw, hbh, hg⟩ := hx
  have hb12 := bhf_le (c := c) (fun j h1 h2 => (hg j h1 h2).2.1)
  have stay : ∀ r : Int32, ∃ (r2 : Int32) (S2 T2 : St), some (r, S) = some (r2, S2) ∧ some (r, T) = some (r2, T2) ∧ RD n S2 T2 ∧ Kp pD qD S S2 ∧ Kp pDM qDM T T2 := fun r => ⟨r, S, T, rfl, rfl, h, Kp.rf _ _ _, Kp.rf _ _ _⟩
  unfold f_X6_worst f_X7_worst f_X0_cartCount
  rw [bd2_s, hSc, hTc]
  by_cases h0 : c = 0
  · subst h0
    rw [if_pos (show nI 0 ≤ 0 by decide), if_pos (show nI 0 = 0 from rfl)]
    exact stay _
  · rw [if_neg (nI_nle (by omega) (by omega)), if_neg (nI_ne0 (by omega) (by omega)), p_within, p_in N n T (lo' := 0) (hi' := 2) (lo := 0) (hi := 2) rfl rfl, bd2_s, bd2_s]
    by_cases h2 : (0 : Int32) ≤ a1 ∧ a1 ≤ 2
    · rw [b01_t h2, if_neg one_ne, if_neg one_ne]
      obtain ⟨g, e1⟩ := p_find7 (N := N) (n := n) (c := c) (S := S) (bs := bs) (ws := ws) (bh := bhf gs) hS0 hSc (by omega) hc hn (fun j hj => ⟨(hb j hj).2.1, (hb j hj).2.2.1⟩) (fun j hj => ⟨(hw j hj).2.1, (hw j hj).2.2.1⟩) (fun j hj => ⟨hbh j hj, by have := hb12 j hj; omega⟩) hN
      have e2 := p_looks (N := N) (n := n) (m := n) (c := c) (T := T) (bs := bs) (ws := ws) (bh := bhf gs) (like := 0) hT0 hTc (by omega) hc hn (fun j hj => ⟨(hb j hj).2.1, (hb j hj).2.2.2⟩) (fun j hj => ⟨(hw j hj).2.1, (hw j hj).2.2.2⟩) (fun j hj => by have := hb12 j hj; omega) (PlOf_0 hc (fun j a b => (hg j a b).2.2) (by omega)) hN
      unfold f_X0_leastMargin
      rw [e1, e2, bs_s, bs_s]
      obtain ⟨cur, hcur⟩ : ∃ x, outr (marF bs ws (bhf gs) n c) n (n + bhf gs (c - 1)) = some x := by
        obtain ⟨m, hm⟩ : ∃ m, n + bhf gs (c - 1) = m + 1 := ⟨n + bhf gs (c - 1) - 1, by omega⟩
        rw [hm]
        exact inn_some n hn.1
      rw [hcur]
      have hk := RD_mk h g (some cur) (some cur)
      have k1 := Kp_mkC S g (some cur)
      have k2 := Kp_mkM T (some cur)
      by_cases c0 : a1 = 0
      · rw [if_pos c0, if_pos c0, bd2_s]; exact ⟨_, _, _, rfl, rfl, hk, k1, k2⟩
      · rw [if_neg c0, if_neg c0]
        by_cases c1 : a1 = 1
        · rw [if_pos c1, if_pos c1, bd2_s]; exact ⟨_, _, _, rfl, rfl, hk, k1, k2⟩
        · rw [if_neg c1, if_neg c1, bd2_s]; exact ⟨_, _, _, rfl, rfl, hk, k1, k2⟩
    · rw [b01_f h2, if_pos rfl, if_pos rfl]
      exact stay _
/-- the least even gap that holds, from g on -/
def gapF (bs ws : Nat → Nat) (n c : Nat) : Nat → Nat → Option Nat
  | 0, _ => none
  | d + 1, g => if curA 0 (outr (marF bs ws (fun i => i * g) n c) n (n + (c - 1) * g)) < 0 then gapF bs ws n c d (g + 1) else some g
def gapI (o : Option Nat) : Int32 := match o with
  | none => -1
  | some g => nI g
/-- a deck state with its rows 4, 8 and the three found numbers changed -/
def KG (S S2 : St) : Prop := Kp (fun k => Nat.beq k 109 || Nat.beq k 110 || Nat.beq k 111) (fun k => Nat.beq k 4 || Nat.beq k 8) S S2
theorem KG_mkC (S : St) (g : Nat → Int32) (cur : CU) : KG S (mkC S g cur) := by
  refine ⟨fun k hk => ?_, fun k hk => ?_⟩
  · have h1 : k ≠ 109 := fun e => by subst e; exact absurd hk (by decide)
    have h2 : k ≠ 110 := fun e => by subst e; exact absurd hk (by decide)
    have h3 : k ≠ 111 := fun e => by subst e; exact absurd hk (by decide)
    simp [mkC, h1, h2, h3]
  · have h1 : k ≠ 4 := fun e => by subst e; exact absurd hk (by decide)
    simp [mkC, h1]
theorem KG_D {S S2 : St} (h : KG S S2) : Kp pD qD S S2 := by
  refine ⟨fun k hk => h.1 k ?_, fun k hk => h.2 k ?_⟩
  · cases hb : (Nat.beq k 109 || Nat.beq k 110 || Nat.beq k 111) with
    | false => exact hb
    | true =>
      simp only [Bool.or_eq_true, Nat.beq_eq] at hb
      rcases hb with (rfl | rfl) | rfl <;> exact absurd hk (by decide)
  · cases hb : (Nat.beq k 4 || Nat.beq k 8) with
    | false => exact hb
    | true =>
      simp only [Bool.or_eq_true, Nat.beq_eq] at hb
      rcases hb with rfl | rfl <;> exact absurd hk (by decide)
theorem KG_RD {n : Nat} {S S2 T T2 : St} (h : RD n S T) (k : KG S S2) (k2 : Kp (fun k => Nat.beq k 34 || Nat.beq k 35 || Nat.beq k 36) (fun _ => false) T T2) : RD n S2 T2 := RD_kp h k k2 ⟨rfl, rfl⟩ ⟨rfl, rfl, rfl, rfl, rfl⟩ ⟨rfl, rfl⟩ ⟨rfl, rfl, rfl, rfl, rfl⟩
theorem Kp_mkM3 (S : St) (cur : CU) : Kp (fun k => Nat.beq k 34 || Nat.beq k 35 || Nat.beq k 36) (fun _ => false) S (mkM S cur) := by
  refine ⟨fun k hk => ?_, fun k hk => rfl⟩
  have h1 : k ≠ 34 := fun e => by subst e; exact absurd hk (by decide)
  have h2 : k ≠ 35 := fun e => by subst e; exact absurd hk (by decide)
  have h3 : k ≠ 36 := fun e => by subst e; exact absurd hk (by decide)
  simp [mkM, h1, h2, h3]
theorem Kp_M3 {S S2 : St} (h : Kp (fun k => Nat.beq k 34 || Nat.beq k 35 || Nat.beq k 36) (fun _ => false) S S2) : Kp pDM qDM S S2 := by
  refine ⟨fun k hk => h.1 k ?_, fun k hk => h.2 k rfl⟩
  cases hb : (Nat.beq k 34 || Nat.beq k 35 || Nat.beq k 36) with
  | false => exact hb
  | true =>
    simp only [Bool.or_eq_true, Nat.beq_eq] at hb
    rcases hb with (rfl | rfl) | rfl <;> exact absurd hk (by decide)
/-- laying the even places -/
theorem p_even {α : Type} {N n c g : Nat} {S : St} (hc : S.1 108 = nI c) (hc6 : c ≤ 6) (hN : 20 < N) (Z : St → Option α) : ∃ f : Nat → Int32, (∀ j, j < c → f j = nI (j * g)) ∧ loop1 (fun (k5 : St → Int32 → Option α) (S6 : St) (x7 : Int32) => if (S6.1 108) ≤ x7 then Z S6 else (wr S6 8 6 x7 (x7 * nI g)).bind fun S12 => k5 S12 (x7 + 1)) N S 0 = Z (pA S 8 f) := by
  refine ⟨fun j => if j < c then nI (j * g) else S.2 8 j, fun j hj => if_pos hj, ?_⟩
  refine loop1_run (I := fun i S2 x => x = nI i ∧ S2 = pA S 8 (fun j => if j < i then nI (j * g) else S.2 8 j)) (k := c) ⟨rfl, ?_⟩ (by omega) ?_ ?_
  · refine (pA_self S 8).symm.trans (congrArg (pA S 8) ?_)
    funext j
    rw [if_neg (Nat.not_lt_zero j)]
  · intro i S2 x hi hI
    obtain ⟨rfl, rfl⟩ := hI
    refine Or.inl ⟨_, _, ⟨rfl, rfl⟩, fun rc => ?_⟩
    rw [pA_1, hc, if_neg (nI_ge hi (by omega)), wr_nI (by omega) (by decide), bs_s, pA_at, pA_pA, nI_1, show nI i * nI g = nI (i * g) from pk_mul i g]
    congr 2
    funext j
    unfold upd
    by_cases e : j = i
    · subst e; rw [if_pos rfl, if_pos (by omega)]
    · rw [if_neg e]
      by_cases h2 : j < i
      · show (if j < i then nI (j * g) else S.2 8 j) = _
        rw [if_pos h2, if_pos (by omega)]
      · show (if j < i then nI (j * g) else S.2 8 j) = _
        rw [if_neg h2, if_neg (by omega)]
  · intro S2 x hI rc
    obtain ⟨rfl, rfl⟩ := hI
    rw [pA_1, hc, if_pos (nI_le (Nat.le_refl _) (by omega))]
theorem KG_rd {n : Nat} {S S2 : St} (k : KG S S2) : S2.1 100 = S.1 100 ∧ S2.1 108 = S.1 108 ∧ S2.2 2 = S.2 2 ∧ S2.2 6 = S.2 6 := ⟨k.1 100 rfl, k.1 108 rfl, k.2 2 rfl, k.2 6 rfl⟩
theorem p_gapC {N n c : Nat} {S : St} {bs ws : Nat → Nat} (h0 : S.1 100 = nI n) (hc : S.1 108 = nI c) (hc1 : 1 ≤ c) (hc6 : c ≤ 6) (hn : 1 ≤ n ∧ n ≤ 12) (hbs : ∀ j, j < n → bs j ≤ 1000 ∧ S.2 2 j = nI (bs j)) (hw : ∀ j, j < c → ws j ≤ 400 ∧ S.2 6 j = nI (ws j)) (hN : 1000 < N) : ∃ S2 : St, KG S S2 ∧ f_X0_leastEvenGap N n S = some (gapI (gapF bs ws n c 12 1), S2) := by
  unfold f_X0_leastEvenGap
  have main : ∀ (d g M : Nat), g + d = 13 → 1 ≤ g → d < M → ∀ S2 : St, KG S S2 → ∃ S3 : St, KG S S3 ∧ loop1 (fun (k1 : St → Int32 → Option (Int32 × St)) (S2 : St) (x3 : Int32) => if 12 < x3 then some ((-1), S2) else loop1 (fun (k5 : St → Int32 → Option (Int32 × St)) (S6 : St) (x7 : Int32) => if (S6.1 108) ≤ x7 then (f_X0_findLeastMargin_8 N n S6 ).bind fun S9 => if (S9.1 109) < 0 then k1 S9 (x3 + 1) else some (x3, S9) else (wr S6 8 6 x7 (x7 * x3)).bind fun S12 => k5 S12 (x7 + 1)) N S2 0) M S2 (nI g) = some (gapI (gapF bs ws n c d g), S3) := by
    intro d
    induction d with
    | zero =>
      intro g M hg h1 hM S2 hk
      obtain ⟨M, rfl⟩ := Nat.exists_eq_succ_of_ne_zero (Nat.ne_of_gt hM)
      have hg : g = 13 := by omega
      subst hg
      refine ⟨S2, hk, ?_⟩
      simp only [loop1]
      rw [if_pos (show (12 : Int32) < nI 13 by decide)]
      rfl
    | succ d ih =>
      intro g M hg h1 hM S2 hk
      obtain ⟨M, rfl⟩ := Nat.exists_eq_succ_of_ne_zero (Nat.ne_of_gt (Nat.lt_of_le_of_lt (Nat.zero_le _) hM))
      obtain ⟨q1, q2, q3, q4⟩ := KG_rd (n := n) hk
      simp only [loop1]
      rw [if_neg (show ¬ (12 : Int32) < nI g from nI_nlt (b := g) (a := 12) (by omega) (by decide))]
      obtain ⟨f, hf, e1⟩ := p_even (N := N) (n := n) (c := c) (g := g) (S := S2) (q2.trans hc) hc6 (by omega) (fun S6 => (f_X0_findLeastMargin_8 N n S6 ).bind fun S9 => if (S9.1 109) < 0 then loop1 (fun (k1 : St → Int32 → Option (Int32 × St)) (S2 : St) (x3 : Int32) => if 12 < x3 then some ((-1), S2) else loop1 (fun (k5 : St → Int32 → Option (Int32 × St)) (S6 : St) (x7 : Int32) => if (S6.1 108) ≤ x7 then (f_X0_findLeastMargin_8 N n S6 ).bind fun S9 => if (S9.1 109) < 0 then k1 S9 (x3 + 1) else some (x3, S9) else (wr S6 8 6 x7 (x7 * x3)).bind fun S12 => k5 S12 (x7 + 1)) N S2 0) M S9 (nI g + 1) else some (nI g, S9))
      rw [e1]
      obtain ⟨g3, e3⟩ := p_find8 (N := N) (n := n) (c := c) (S := pA S2 8 f) (bs := bs) (ws := ws) (bh := fun i => i * g) (q1.trans h0) (q2.trans hc) hc1 hc6 hn (fun j hj => ⟨(hbs j hj).1, by show S2.2 2 j = _; rw [q3]; exact (hbs j hj).2⟩) (fun j hj => ⟨(hw j hj).1, by show S2.2 6 j = _; rw [q4]; exact (hw j hj).2⟩) (fun j hj => ⟨hf j hj, by
        have h5 : j * g ≤ 6 * 12 := Nat.mul_le_mul (by omega) (by omega)
        show j * g < 900
        omega⟩) hN
      rw [e3, bs_s]
      obtain ⟨cur, hcur⟩ : ∃ x, outr (marF bs ws (fun i => i * g) n c) n (n + (c - 1) * g) = some x := by
        obtain ⟨m, hm⟩ : ∃ m, n + (c - 1) * g = m + 1 := ⟨n + (c - 1) * g - 1, by omega⟩
        rw [hm]
        exact inn_some n hn.1
      have hk2 : KG S (mkC (pA S2 8 f) g3 (outr (marF bs ws (fun i => i * g) n c) n (n + (c - 1) * g))) := (hk.pA f rfl).tr (KG_mkC _ _ _)
      have e109 : (mkC (pA S2 8 f) g3 (outr (marF bs ws (fun i => i * g) n c) n (n + (c - 1) * g))).1 109 = curA 0 (outr (marF bs ws (fun i => i * g) n c) n (n + (c - 1) * g)) := by rw [hcur]; rfl
      rw [e109]
      simp only [gapF]
      by_cases hlt : curA 0 (outr (marF bs ws (fun i => i * g) n c) n (n + (c - 1) * g)) < 0
      · rw [if_pos hlt, if_pos hlt, nI_1]
        exact ih (g + 1) M (by omega) (by omega) (by omega) _ hk2
      · rw [if_neg hlt, if_neg hlt]
        exact ⟨_, hk2, rfl⟩
  exact main 12 1 N (by omega) (by omega) (by omega) S (Kp.rf _ _ _)
theorem p_gapM {N n m c : Nat} {T : St} {bs ws : Nat → Nat} (h0 : T.1 0 = nI n) (hc : T.1 4 = nI c) (hc1 : 1 ≤ c) (hc6 : c ≤ 6) (hn : 1 ≤ n ∧ n ≤ 12) (hbs : ∀ j, j < n → bs j ≤ 1000 ∧ T.2 1 j = nI (bs j)) (hw : ∀ j, j < c → ws j ≤ 400 ∧ T.2 4 j = nI (ws j)) (hN : 1000 < N) : ∃ T2 : St, Kp (fun k => Nat.beq k 34 || Nat.beq k 35 || Nat.beq k 36) (fun _ => false) T T2 ∧ f_X7_gap N m T = some (gapI (gapF bs ws n c 12 1), T2) := by
  unfold f_X7_gap
  have main : ∀ (d g M : Nat), g + d = 13 → 1 ≤ g → d + 1 < M → ∀ T2 : St, Kp (fun k => Nat.beq k 34 || Nat.beq k 35 || Nat.beq k 36) (fun _ => false) T T2 → ∃ T3 : St, Kp (fun k => Nat.beq k 34 || Nat.beq k 35 || Nat.beq k 36) (fun _ => false) T T3 ∧ loop2 (fun (k1 : St → Int32 → Int32 → Option (Int32 × St)) (S2 : St) (x3 : Int32) (x4 : Int32) => if 12 < x4 then some (x3, S2) else if 0 ≤ x3 then some (x3, S2) else if (S2.1 4) ≤ 0 then some (x3, S2) else (f_X7_looks N m S2 x4).bind fun S6 => if (S6.1 34) < 0 then k1 S6 (-1) (x4 + 1) else k1 S6 x4 (x4 + 1)) M T2 (-1) (nI g) = some (gapI (gapF bs ws n c d g), T3) := by
    intro d
    induction d with
    | zero =>
      intro g M hg h1 hM T2 hk
      obtain ⟨M, rfl⟩ := Nat.exists_eq_succ_of_ne_zero (Nat.ne_of_gt (Nat.lt_of_le_of_lt (Nat.zero_le _) hM))
      have hg : g = 13 := by omega
      subst hg
      refine ⟨T2, hk, ?_⟩
      simp only [loop2]
      rw [if_pos (show (12 : Int32) < nI 13 by decide)]
      rfl
    | succ d ih =>
      intro g M hg h1 hM T2 hk
      obtain ⟨M, rfl⟩ := Nat.exists_eq_succ_of_ne_zero (Nat.ne_of_gt (Nat.lt_of_le_of_lt (Nat.zero_le _) hM))
      have q1 : T2.1 0 = nI n := (hk.1 0 rfl).trans h0
      have q2 : T2.1 4 = nI c := (hk.1 4 rfl).trans hc
      have q3 : T2.2 1 = T.2 1 := hk.2 1 rfl
      have q4 : T2.2 4 = T.2 4 := hk.2 4 rfl
      simp only [loop2]
      rw [if_neg (show ¬ (12 : Int32) < nI g from nI_nlt (b := g) (a := 12) (by omega) (by decide)), if_neg (show ¬ (0 : Int32) ≤ -1 by decide), q2, if_neg (nI_nle (by omega) (by omega))]
      have e2 := p_looks (N := N) (n := n) (m := m) (c := c) (T := T2) (bs := bs) (ws := ws) (bh := fun i => i * g) (like := nI g) q1 q2 hc1 hc6 hn (fun j hj => ⟨(hbs j hj).1, by rw [q3]; exact (hbs j hj).2⟩) (fun j hj => ⟨(hw j hj).1, by rw [q4]; exact (hw j hj).2⟩) (fun j hj => by
        have h5 : j * g ≤ 6 * 12 := Nat.mul_le_mul (by omega) (by omega)
        show j * g < 900
        omega) (PlOf_G hc6 ⟨h1, by omega⟩ (by omega)) hN
      rw [e2, bs_s]
      obtain ⟨cur, hcur⟩ : ∃ x, outr (marF bs ws (fun i => i * g) n c) n (n + (c - 1) * g) = some x := by
        obtain ⟨m, hm⟩ : ∃ m, n + (c - 1) * g = m + 1 := ⟨n + (c - 1) * g - 1, by omega⟩
        rw [hm]
        exact inn_some n hn.1
      have hk2 := hk.tr (Kp_mkM3 T2 (outr (marF bs ws (fun i => i * g) n c) n (n + (c - 1) * g)))
      have e34 : (mkM T2 (outr (marF bs ws (fun i => i * g) n c) n (n + (c - 1) * g))).1 34 = curA 0 (outr (marF bs ws (fun i => i * g) n c) n (n + (c - 1) * g)) := by rw [hcur]; rfl
      rw [e34]
      simp only [gapF]
      by_cases hlt : curA 0 (outr (marF bs ws (fun i => i * g) n c) n (n + (c - 1) * g)) < 0
      · rw [if_pos hlt, if_pos hlt, nI_1]
        exact ih (g + 1) M (by omega) (by omega) (by omega) _ hk2
      · rw [if_neg hlt, if_neg hlt]
        refine ⟨_, hk2, ?_⟩
        obtain ⟨M, rfl⟩ := Nat.exists_eq_succ_of_ne_zero (show M ≠ 0 by omega)
        simp only [loop2]
        have hge : (0 : Int32) ≤ nI g := nI_pos' (by omega)
        by_cases h12 : (12 : Int32) < nI g + 1
        · rw [if_pos h12]; rfl
        · rw [if_neg h12, if_pos hge]; rfl
  exact main 12 1 N (by omega) (by omega) (by omega) T (Kp.rf _ _ _)
theorem d_gap {N n : Nat} {S T : St} (hN : 1000 < N) (hn : 1 ≤ n ∧ n ≤ 12) (h : RD n S T) : ∃ (r : Int32) (S2 T2 : St), f_X6_gap N n S = some (r, S2) ∧ f_X7_gap N n T = some (r, T2) ∧ RD n S2 T2 ∧ Kp pD qD S S2 ∧ Kp pDM qDM T T2 := by
  obtain ⟨bs, ws, gs, c, hx⟩ := id h
  obtain ⟨⟨hc, hS0, hT0, hSc, hTc⟩, hb, ha, hp, hw, hbh, hg⟩ := hx
  by_cases h0 : c = 0
  · subst h0
    refine ⟨-1, S, T, ?_, ?_, h, Kp.rf _ _ _, Kp.rf _ _ _⟩
    · unfold f_X6_gap f_X0_cartCount
      rw [bd2_s, hSc, if_pos (show nI 0 ≤ 0 by decide)]
    · unfold f_X7_gap
      obtain ⟨N, rfl⟩ := Nat.exists_eq_succ_of_ne_zero (show N ≠ 0 by omega)
      simp only [loop2]
      rw [if_neg (show ¬ (12 : Int32) < 1 by decide), if_neg (show ¬ (0 : Int32) ≤ -1 by decide), hTc, if_pos (show nI 0 ≤ 0 by decide)]
  · obtain ⟨S2, k1, e1⟩ := p_gapC (N := N) (n := n) (c := c) (S := S) (bs := bs) (ws := ws) hS0 hSc (by omega) hc hn (fun j hj => ⟨(hb j hj).2.1, (hb j hj).2.2.1⟩) (fun j hj => ⟨(hw j hj).2.1, (hw j hj).2.2.1⟩) hN
    obtain ⟨T2, k2, e2⟩ := p_gapM (N := N) (n := n) (m := n) (c := c) (T := T) (bs := bs) (ws := ws) hT0 hTc (by omega) hc hn (fun j hj => ⟨(hb j hj).2.1, (hb j hj).2.2.2⟩) (fun j hj => ⟨(hw j hj).2.1, (hw j hj).2.2.2⟩) hN
    refine ⟨_, S2, T2, ?_, e2, KG_RD h k1 k2, KG_D k1, Kp_M3 k2⟩
    unfold f_X6_gap f_X0_cartCount
    rw [bd2_s, hSc, if_neg (nI_nle (by omega) (by omega)), e1, bd2_s]
