-- DECK, second part: carts, loads, margins
theorem bhf_congr {gs gs2 : Nat → Nat} : ∀ i, (∀ j, 1 ≤ j → j ≤ i → gs j = gs2 j) → bhf gs i = bhf gs2 i := by
  intro i
  induction i with
  | zero => intro _; rfl
  | succ i ih => intro h; simp only [bhf]; rw [ih (fun j h1 h2 => h j h1 (by omega)), h (i + 1) (by omega) (Nat.le_refl _)]
theorem bhf_le {gs : Nat → Nat} {c : Nat} (h : ∀ j, 1 ≤ j → j < c → gs j ≤ 12) : ∀ i, i < c → bhf gs i ≤ 12 * i := by
  intro i
  induction i with
  | zero => intro _; exact Nat.zero_le _
  | succ i ih => intro hi; simp only [bhf]; have h1 := ih (by omega); have h2 := h (i + 1) (by omega) hi; omega
theorem d_cart {N n : Nat} {S T : St} (a1 a2 : Int32) (h : RD n S T) : ∃ (r : Int32) (S2 T2 : St), f_X6_cart N n S a1 a2 = some (r, S2) ∧ f_X7_cart N n T a1 a2 = some (r, T2) ∧ RD n S2 T2 ∧ Kp pD qD S S2 ∧ Kp pDM qDM T T2 := by
  obtain ⟨bs, ws, gs, c, hx⟩ := id h
  obtain ⟨⟨hc, hS0, hT0, hSc, hTc⟩, hb, ha, hp, hw, hbh, hg⟩ := hx
  have stay : ∀ r : Int32, ∃ (r2 : Int32) (S2 T2 : St), some (r, S) = some (r2, S2) ∧ some (r, T) = some (r2, T2) ∧ RD n S2 T2 ∧ Kp pD qD S S2 ∧ Kp pDM qDM T T2 := fun r => ⟨r, S, T, rfl, rfl, h, Kp.rf _ _ _, Kp.rf _ _ _⟩
  unfold f_X6_cart f_X7_cart
  rw [p_within, p_in N n T (lo' := 1) (hi' := 400) (lo := 1) (hi := 400) rfl rfl, bd2_s, bd2_s]
  by_cases h1 : (1 : Int32) ≤ a1 ∧ a1 ≤ 400
  · rw [b01_t h1, if_neg one_ne, if_neg one_ne, lett_s]
    unfold f_X0_cartCount
    rw [bd2_s, hSc, hTc]
    obtain ⟨v, hv1, hv2, rfl⟩ := rng (a := 1) (m := 400) h1.1 h1.2 (by decide) (by decide)
    by_cases h6 : c = 6
    · subst h6
      rw [if_neg (show ¬ nI 6 < 6 by decide), if_neg (show ¬ nI 6 ≤ 0 by decide), p_in N n T (lo' := 1) (hi' := 12) (lo := 1) (hi := 12) rfl rfl, bd2_s]
      by_cases h2 : (1 : Int32) ≤ a2 ∧ a2 ≤ 12
      · rw [b01_t h2, if_neg one_ne]
        dsimp only
        rw [hTc, if_pos (show nI 6 = 6 from rfl)]; exact stay _
      · rw [b01_f h2, if_pos rfl]; exact stay _
    · have hlt : nI c < 6 := nI_lt (a := c) (b := 6) (by omega) (by decide)
      rw [if_pos hlt, bd2_s, lett_s]
      dsimp only
      have hne6 : ¬ nI c = 6 := fun e => h6 ((nI_eq_iff (a := c) (b := 6) (by omega) (by decide)).mp e)
      have put : ∀ g : Nat, (1 ≤ c → 1 ≤ g ∧ g ≤ 12) → ∀ x : Int32, (1 ≤ c → x = nI g) → ∃ (r : Int32) (S2 T2 : St), (bd2 (f_X0_addCart N n S (nI v) x) fun r14 S13 => some (r14, S13)) = some (r, S2) ∧ (if T.1 4 = 6 then some ((-1), T) else (wr T 4 6 (T.1 4) (nI v)).bind fun S7 => (wr S7 5 6 (S7.1 4) x).bind fun S8 => lett (pF S8 4 ((S8.1 4) + 1)) fun S9 => some (S9.1 4, S9)) = some (r, T2) ∧ RD n S2 T2 ∧ Kp pD qD S S2 ∧ Kp pDM qDM T T2 := by
        intro g hg12 x hxg
        have e1 : f_X0_addCart N n S (nI v) x = some (nI (c + 1), pF (pA (pA S 6 (upd (S.2 6) c (nI v))) 7 (upd (S.2 7) c (if c = 0 then 0 else S.2 7 (c - 1) + x))) 108 (nI (c + 1))) := by
          unfold f_X0_addCart
          rw [hSc, wr_nI (by omega) (by decide), bs_s, lett_s]
          have e2 : (pA S 6 (upd (S.2 6) c (nI v))).1 108 = nI c := hSc
          rw [e2]
          by_cases h0 : c = 0
          · subst h0
            rw [if_pos (show nI 0 = 0 from rfl), if_pos rfl]
            dsimp only
            rw [wr_nI (by decide) (by decide), bs_s, lett_s, pF_at]
            show some (S.1 108 + 1, pF _ 108 (S.1 108 + 1)) = _
            rw [hSc]
            rfl
          · rw [if_neg (nI_ne0 (by omega) (by omega)), if_neg h0, nI_m1 (by omega), rd_nI (by omega) (by decide), bs_s]
            dsimp only
            rw [wr_nI (by omega) (by decide), bs_s, lett_s, pF_at]
            show some (S.1 108 + 1, pF _ 108 (S.1 108 + 1)) = _
            rw [hSc, nI_1]
            rfl
        rw [e1, bd2_s, hTc, if_neg hne6, wr_nI (by omega) (by decide), bs_s]
        have e3 : (pA T 4 (upd (T.2 4) c (nI v))).1 4 = nI c := hTc
        rw [e3, wr_nI (by omega) (by decide), bs_s, lett_s, pF_at]
        refine ⟨nI (c + 1), _, pF (pA (pA T 4 (upd (T.2 4) c (nI v))) 5 (upd (T.2 5) c x)) 4 (nI (c + 1)), rfl, ?_, ⟨bs, fun j => if j = c then v else ws j, fun j => if j = c then g else gs j, c + 1, ⟨by omega, hS0, hT0, rfl, rfl⟩, hb, ha, hp, ?_, ?_, ?_⟩, (((Kp.rf _ _ _).pA _ rfl).pA _ rfl).pF _ rfl, (((Kp.rf _ _ _).pA _ rfl).pA _ rfl).pF _ rfl⟩
        · show some (T.1 4 + 1, pF _ 4 (T.1 4 + 1)) = _
          rw [hTc, nI_1]
          rfl
        · intro j hj
          show 1 ≤ (if j = c then v else ws j) ∧ (if j = c then v else ws j) ≤ 400 ∧ upd (S.2 6) c (nI v) j = nI (if j = c then v else ws j) ∧ upd (T.2 4) c (nI v) j = nI (if j = c then v else ws j)
          by_cases e : j = c
          · subst e; rw [if_pos rfl, upd_at, upd_at]; exact ⟨hv1, hv2, rfl, rfl⟩
          · rw [if_neg e, upd_ne _ _ e, upd_ne _ _ e]; exact hw j (by omega)
        · intro j hj
          show upd (S.2 7) c _ j = nI (bhf _ j)
          have hcg : ∀ j, j < c → bhf (fun j => if j = c then g else gs j) j = bhf gs j := fun j hj => bhf_congr j (fun i h1 h2 => if_neg (by omega))
          by_cases e : j = c
          · subst e
            rw [upd_at]
            by_cases h0 : j = 0
            · subst h0; rfl
            · rw [if_neg h0]
              obtain ⟨k, rfl⟩ := Nat.exists_eq_succ_of_ne_zero h0
              show S.2 7 (k + 1 - 1) + x = nI (bhf _ k + (if k + 1 = k + 1 then g else gs (k + 1)))
              rw [if_pos rfl, hcg k (Nat.lt_succ_self k), Nat.add_sub_cancel, hbh k (Nat.lt_succ_self k), hxg (by omega), nI_add]
          · rw [upd_ne _ _ e, hcg j (by omega)]; exact hbh j (by omega)
        · intro j h1 hj
          show 1 ≤ (if j = c then g else gs j) ∧ (if j = c then g else gs j) ≤ 12 ∧ upd (T.2 5) c x j = nI (if j = c then g else gs j)
          by_cases e : j = c
          · subst e; rw [if_pos rfl, upd_at]; exact ⟨(hg12 h1).1, (hg12 h1).2, hxg h1⟩
          · rw [if_neg e, upd_ne _ _ e]; exact hg j h1 (by omega)
      by_cases h0 : c = 0
      · subst h0
        rw [if_pos (show nI 0 ≤ 0 by decide), if_pos (show nI 0 ≤ 0 by decide)]
        exact put 1 (fun h => absurd h (by omega)) a2 (fun h => absurd h (by omega))
      · have hn0 : ¬ nI c ≤ 0 := nI_nle (by omega) (by omega)
        rw [if_neg hn0, if_neg hn0, p_within, p_in N n T (lo' := 1) (hi' := 12) (lo := 1) (hi := 12) rfl rfl, bd2_s, bd2_s]
        by_cases h2 : (1 : Int32) ≤ a2 ∧ a2 ≤ 12
        · rw [b01_t h2, if_neg one_ne, if_neg one_ne]
          obtain ⟨g, hg1, hg2, rfl⟩ := rng (a := 1) (m := 12) h2.1 h2.2 (by decide) (by decide)
          exact put g (fun _ => ⟨hg1, hg2⟩) _ (fun _ => rfl)
        · rw [b01_f h2, if_pos rfl, if_pos rfl]; exact stay _
  · rw [b01_f h1, if_pos rfl, if_pos rfl]; exact stay _
def ctb (wt bh t n k : Nat) : Nat := if bh ≤ t ∧ t - bh < n then (if t - bh = k then 2 * wt else if t - bh + 1 = k ∨ t - bh = k + 1 then wt else 0) else 0
def load (ws bh : Nat → Nat) (n t k : Nat) : Nat → Nat
  | 0 => 0
  | i + 1 => load ws bh n t k i + ctb (ws i) (bh i) t n k
theorem ctb_le (wt bh t n k : Nat) : ctb wt bh t n k ≤ 2 * wt := by
  unfold ctb
  split
  · split
    · exact Nat.le_refl _
    · split <;> omega
  · omega
theorem load_le {ws bh : Nat → Nat} {n t k : Nat} : ∀ c, (∀ j, j < c → ws j ≤ 400) → load ws bh n t k c ≤ 800 * c := by
  intro c
  induction c with
  | zero => intro _; exact Nat.le_refl _
  | succ c ih => intro h; simp only [load]; have h1 := ih (fun j hj => h j (by omega)); have h2 := ctb_le (ws c) (bh c) t n k; have h3 := h c (Nat.lt_succ_self c); omega
/-- whether a cart stands on a hull -/
theorem on_hull {t bh n : Nat} (ht : t < 1000) (hb : bh < 1000) (hn : 1 ≤ n ∧ n ≤ 12) : (nI 0 ≤ nI t - nI bh ∧ nI t - nI bh ≤ nI (n - 1)) ↔ (bh ≤ t ∧ t - bh < n) := by
  rw [i_le, i_le, sub_int (by omega) (by omega), nI_int (by omega), nI_int (by omega)]
  omega
theorem sub_nat {t bh : Nat} (h : bh ≤ t) : nI t - nI bh = nI (t - bh) := pk_sub h
theorem p_press_in {N n j : Nat} {S : St} {w : Int32} (h0 : S.1 100 = nI n) (hn : 1 ≤ n ∧ n ≤ 12) (hj : j < n) : f_X0_press N n S (nI j) w = some (pA S 4 (upd (S.2 4) j (S.2 4 j + w))) := by
  unfold f_X0_press
  rw [p_hasHull h0 hn.1, bd2_s, b01_t (in_rng (Nat.zero_le _) (by omega) (by omega)), if_neg one_ne, rd_nI hj (by omega), bs_s, wr_nI hj (by omega), bs_s]
theorem p_press_out {N n : Nat} {S : St} {a w : Int32} (h0 : S.1 100 = nI n) (hn : 1 ≤ n ∧ n ≤ 12) (ha : ¬ (nI 0 ≤ a ∧ a ≤ nI (n - 1))) : f_X0_press N n S a w = some S := by
  unfold f_X0_press
  rw [p_hasHull h0 hn.1, bd2_s, b01_f ha, if_pos rfl]
/-- the three presses of one cart -/
theorem p_three {N n p i : Nat} {S : St} {wt : Nat} (h0 : S.1 100 = nI n) (hn : 1 ≤ n ∧ n ≤ 12) (hp : p < n) (hi : i < 6) (hw : S.2 6 i = nI wt) {β : Type} (K : St → Option β) : ∃ g : Nat → Int32, (∀ k, k < n → g k = S.2 4 k + nI (if p = k then 2 * wt else if p + 1 = k ∨ p = k + 1 then wt else 0)) ∧ ((rd (S.2 6) 6 (nI i)).bind fun x12 => (f_X0_press N n S (nI p) (2 * x12)).bind fun S13 => (rd (S13.2 6) 6 (nI i)).bind fun x16 => (f_X0_press N n S13 (nI p - 1) x16).bind fun S17 => (rd (S17.2 6) 6 (nI i)).bind fun x20 => (f_X0_press N n S17 (nI p + 1) x20).bind fun S21 => K S21) = K (pA S 4 g) := by
  have hm : ∀ g : Nat → Int32, (if 1 ≤ p then upd g (p - 1) (g (p - 1) + nI wt) else g) = fun k => if p = k + 1 then g k + nI wt else g k := by
    intro g
    funext k
    by_cases h1 : 1 ≤ p
    · rw [if_pos h1]
      by_cases e : p = k + 1
      · rw [if_pos e]
        have : p - 1 = k := by omega
        rw [this, upd_at]
      · rw [if_neg e, upd_ne _ _ (by omega)]
    · rw [if_neg h1, if_neg (by omega)]
  have hq : ∀ g : Nat → Int32, ∀ k, k < n → (if p + 1 < n then upd g (p + 1) (g (p + 1) + nI wt) else g) k = if p + 1 = k then g k + nI wt else g k := by
    intro g k hk
    by_cases h1 : p + 1 < n
    · rw [if_pos h1]
      by_cases e : p + 1 = k
      · rw [if_pos e, ← e, upd_at]
      · rw [if_neg e, upd_ne _ _ (by omega)]
    · rw [if_neg h1, if_neg (by omega)]
  have pm : ∀ g : Nat → Int32, f_X0_press N n (pA S 4 g) (nI p - 1) (nI wt) = some (pA S 4 (if 1 ≤ p then upd g (p - 1) (g (p - 1) + nI wt) else g)) := by
    intro g
    have h0' : (pA S 4 g).1 100 = nI n := h0
    by_cases h1 : 1 ≤ p
    · rw [nI_m1 h1, p_press_in h0' hn (by omega), pA_at, pA_pA, if_pos h1]
    · have e : p = 0 := by omega
      subst e
      rw [p_press_out h0' hn (fun h => absurd h.1 (by decide)), if_neg h1]
  have pq : ∀ g : Nat → Int32, f_X0_press N n (pA S 4 g) (nI p + 1) (nI wt) = some (pA S 4 (if p + 1 < n then upd g (p + 1) (g (p + 1) + nI wt) else g)) := by
    intro g
    have h0' : (pA S 4 g).1 100 = nI n := h0
    rw [nI_1]
    by_cases h1 : p + 1 < n
    · rw [p_press_in h0' hn h1, pA_at, pA_pA, if_pos h1]
    · rw [p_press_out h0' hn (fun h => by
        have h2 := (nI_le_iff (a := p + 1) (b := n - 1) (by omega) (by omega)).mp h.2
        omega), if_neg h1]
  have e6 : ∀ g : Nat → Int32, (pA S 4 g).2 6 = S.2 6 := fun g => rfl
  obtain ⟨g1, hg1⟩ : ∃ g1 : Nat → Int32, g1 = upd (S.2 4) p (S.2 4 p + 2 * nI wt) := ⟨_, rfl⟩
  obtain ⟨g2, hg2⟩ : ∃ g2 : Nat → Int32, g2 = if 1 ≤ p then upd g1 (p - 1) (g1 (p - 1) + nI wt) else g1 := ⟨_, rfl⟩
  refine ⟨if p + 1 < n then upd g2 (p + 1) (g2 (p + 1) + nI wt) else g2, ?_, ?_⟩
  rotate_left
  · rw [rd_nI hi (by decide), bs_s, hw, p_press_in h0 hn hp, bs_s, ← hg1, e6, rd_nI hi (by decide), bs_s, hw, pm, bs_s, ← hg2, e6, rd_nI hi (by decide), bs_s, hw, pq, bs_s]
  · intro k hk
    rw [hq _ k hk, hg2, hm, hg1]
    have e2 : (2 : Int32) * nI wt = nI (2 * wt) := pk_mul 2 wt
    rw [e2]
    by_cases a1 : p = k
    · subst a1
      rw [if_pos rfl, if_neg (by omega)]
      show (if p = p + 1 then _ else upd (S.2 4) p _ p) = _
      rw [if_neg (by omega), upd_at]
    · rw [if_neg a1]
      have hu : ∀ v : Int32, upd (S.2 4) p v k = S.2 4 k := fun v => upd_ne _ _ (fun e => a1 e.symm)
      by_cases a2 : p + 1 = k
      · rw [if_pos a2, if_pos (Or.inl a2)]
        show (if p = k + 1 then _ else upd (S.2 4) p _ k) + _ = _
        rw [if_neg (by omega), hu]
      · rw [if_neg a2]
        show (if p = k + 1 then upd (S.2 4) p _ k + _ else upd (S.2 4) p _ k) = _
        by_cases a3 : p = k + 1
        · rw [if_pos a3, if_pos (Or.inr a3), hu]
        · rw [if_neg a3, if_neg (fun h => h.elim a2 a3), hu]
          exact (show S.2 4 k = S.2 4 k + nI 0 by rw [nI_0]; exact (Int32.add_zero _).symm)

/-- the loads of all hulls at a step, row 7 -/
theorem p_lay7 {N n c t : Nat} {S : St} {ws bh : Nat → Nat} (h0 : S.1 100 = nI n) (hc : S.1 108 = nI c) (hc6 : c ≤ 6) (hn : 1 ≤ n ∧ n ≤ 12) (ht : t < 1000) (hw : ∀ j, j < c → S.2 6 j = nI (ws j)) (hb : ∀ j, j < c → S.2 7 j = nI (bh j) ∧ bh j < 1000) (hN : 20 < N) : ∃ g : Nat → Int32, f_X0_layLoads_7 N n S (nI t) = some (pA S 4 g) ∧ ∀ k, k < n → g k = nI (load ws bh n t k c) := by
  unfold f_X0_layLoads_7
  rw [p_J7_fill_53178_4 (by omega) (by omega), bs_s]
  have main : ∀ (d i : Nat), i + d = c → ∀ (M : Nat), d < M → ∀ g : Nat → Int32, (∀ k, k < n → g k = nI (load ws bh n t k i)) → ∃ g2 : Nat → Int32, loop1 (fun (k4 : St → Int32 → Option St) (S5 : St) (x6 : Int32) => if (S5.1 108) ≤ x6 then some S5 else (rd (S5.2 7) 6 x6).bind fun x8 => bd2 (f_X0_hasHull N n S5 (nI t - x8)) fun r10 S9 => if r10 = 0 then k4 S9 (x6 + 1) else (rd (S9.2 6) 6 x6).bind fun x12 => (f_X0_press N n S9 (nI t - x8) (2 * x12)).bind fun S13 => (rd (S13.2 6) 6 x6).bind fun x16 => (f_X0_press N n S13 ((nI t - x8) - 1) x16).bind fun S17 => (rd (S17.2 6) 6 x6).bind fun x20 => (f_X0_press N n S17 ((nI t - x8) + 1) x20).bind fun S21 => k4 S21 (x6 + 1)) M (pA S 4 g) (nI i) = some (pA S 4 g2) ∧ ∀ k, k < n → g2 k = nI (load ws bh n t k c) := by
    intro d
    induction d with
    | zero =>
      intro i hi M hM g hg
      obtain ⟨M, rfl⟩ := Nat.exists_eq_succ_of_ne_zero (Nat.ne_of_gt hM)
      have hi : i = c := by omega
      subst hi
      refine ⟨g, ?_, hg⟩
      simp only [loop1]
      rw [pA_1, hc, if_pos (nI_le (Nat.le_refl _) (by omega))]
    | succ d ih =>
      intro i hi M hM g hg
      obtain ⟨M, rfl⟩ := Nat.exists_eq_succ_of_ne_zero (Nat.ne_of_gt (Nat.lt_of_le_of_lt (Nat.zero_le _) hM))
      have hlt : i < c := by omega
      obtain ⟨hb1, hb2⟩ := hb i hlt
      have h0' : (pA S 4 g).1 100 = nI n := h0
      have e8 : (pA S 4 g).2 7 = S.2 7 := rfl
      simp only [loop1]
      rw [pA_1, hc, if_neg (nI_ge hlt (by omega)), e8, rd_nI (by omega) (by decide), bs_s, hb1, p_hasHull h0' hn.1, bd2_s]
      by_cases hon : bh i ≤ t ∧ t - bh i < n
      · rw [b01_t ((on_hull ht hb2 hn).mpr hon), if_neg one_ne, sub_nat hon.1]
        obtain ⟨g3, hg3, e3⟩ := p_three (N := N) (S := pA S 4 g) (p := t - bh i) (i := i) (wt := ws i) h0' hn hon.2 (by omega) (hw i hlt) (fun S21 => loop1 (fun (k4 : St → Int32 → Option St) (S5 : St) (x6 : Int32) => if (S5.1 108) ≤ x6 then some S5 else (rd (S5.2 7) 6 x6).bind fun x8 => bd2 (f_X0_hasHull N n S5 (nI t - x8)) fun r10 S9 => if r10 = 0 then k4 S9 (x6 + 1) else (rd (S9.2 6) 6 x6).bind fun x12 => (f_X0_press N n S9 (nI t - x8) (2 * x12)).bind fun S13 => (rd (S13.2 6) 6 x6).bind fun x16 => (f_X0_press N n S13 ((nI t - x8) - 1) x16).bind fun S17 => (rd (S17.2 6) 6 x6).bind fun x20 => (f_X0_press N n S17 ((nI t - x8) + 1) x20).bind fun S21 => k4 S21 (x6 + 1)) M S21 (nI i + 1))
        rw [e3, pA_pA, nI_1]
        refine ih (i + 1) (by omega) M (by omega) g3 (fun k hk => ?_)
        rw [hg3 k hk]
        show g k + _ = _
        rw [hg k hk, nI_add]
        simp only [load, ctb]
        rw [if_pos hon]
      · rw [b01_f (fun h => hon ((on_hull ht hb2 hn).mp h)), if_pos rfl, nI_1]
        refine ih (i + 1) (by omega) M (by omega) g (fun k hk => ?_)
        rw [hg k hk]
        simp only [load, ctb]
        rw [if_neg hon]
        rfl
  exact main c 0 (by omega) N (by omega) _ (fun k hk => by
    show (if k < n then 0 else S.2 4 k) = _
    rw [if_pos hk]
    rfl)

/-- the loads of all hulls at a step, row 8 -/
theorem p_lay8 {N n c t : Nat} {S : St} {ws bh : Nat → Nat} (h0 : S.1 100 = nI n) (hc : S.1 108 = nI c) (hc6 : c ≤ 6) (hn : 1 ≤ n ∧ n ≤ 12) (ht : t < 1000) (hw : ∀ j, j < c → S.2 6 j = nI (ws j)) (hb : ∀ j, j < c → S.2 8 j = nI (bh j) ∧ bh j < 1000) (hN : 20 < N) : ∃ g : Nat → Int32, f_X0_layLoads_8 N n S (nI t) = some (pA S 4 g) ∧ ∀ k, k < n → g k = nI (load ws bh n t k c) := by
  unfold f_X0_layLoads_8
  rw [p_J7_fill_53178_4 (by omega) (by omega), bs_s]
  have main : ∀ (d i : Nat), i + d = c → ∀ (M : Nat), d < M → ∀ g : Nat → Int32, (∀ k, k < n → g k = nI (load ws bh n t k i)) → ∃ g2 : Nat → Int32, loop1 (fun (k4 : St → Int32 → Option St) (S5 : St) (x6 : Int32) => if (S5.1 108) ≤ x6 then some S5 else (rd (S5.2 8) 6 x6).bind fun x8 => bd2 (f_X0_hasHull N n S5 (nI t - x8)) fun r10 S9 => if r10 = 0 then k4 S9 (x6 + 1) else (rd (S9.2 6) 6 x6).bind fun x12 => (f_X0_press N n S9 (nI t - x8) (2 * x12)).bind fun S13 => (rd (S13.2 6) 6 x6).bind fun x16 => (f_X0_press N n S13 ((nI t - x8) - 1) x16).bind fun S17 => (rd (S17.2 6) 6 x6).bind fun x20 => (f_X0_press N n S17 ((nI t - x8) + 1) x20).bind fun S21 => k4 S21 (x6 + 1)) M (pA S 4 g) (nI i) = some (pA S 4 g2) ∧ ∀ k, k < n → g2 k = nI (load ws bh n t k c) := by
    intro d
    induction d with
    | zero =>
      intro i hi M hM g hg
      obtain ⟨M, rfl⟩ := Nat.exists_eq_succ_of_ne_zero (Nat.ne_of_gt hM)
      have hi : i = c := by omega
      subst hi
      refine ⟨g, ?_, hg⟩
      simp only [loop1]
      rw [pA_1, hc, if_pos (nI_le (Nat.le_refl _) (by omega))]
    | succ d ih =>
      intro i hi M hM g hg
      obtain ⟨M, rfl⟩ := Nat.exists_eq_succ_of_ne_zero (Nat.ne_of_gt (Nat.lt_of_le_of_lt (Nat.zero_le _) hM))
      have hlt : i < c := by omega
      obtain ⟨hb1, hb2⟩ := hb i hlt
      have h0' : (pA S 4 g).1 100 = nI n := h0
      have e8 : (pA S 4 g).2 8 = S.2 8 := rfl
      simp only [loop1]
      rw [pA_1, hc, if_neg (nI_ge hlt (by omega)), e8, rd_nI (by omega) (by decide), bs_s, hb1, p_hasHull h0' hn.1, bd2_s]
      by_cases hon : bh i ≤ t ∧ t - bh i < n
      · rw [b01_t ((on_hull ht hb2 hn).mpr hon), if_neg one_ne, sub_nat hon.1]
        obtain ⟨g3, hg3, e3⟩ := p_three (N := N) (S := pA S 4 g) (p := t - bh i) (i := i) (wt := ws i) h0' hn hon.2 (by omega) (hw i hlt) (fun S21 => loop1 (fun (k4 : St → Int32 → Option St) (S5 : St) (x6 : Int32) => if (S5.1 108) ≤ x6 then some S5 else (rd (S5.2 8) 6 x6).bind fun x8 => bd2 (f_X0_hasHull N n S5 (nI t - x8)) fun r10 S9 => if r10 = 0 then k4 S9 (x6 + 1) else (rd (S9.2 6) 6 x6).bind fun x12 => (f_X0_press N n S9 (nI t - x8) (2 * x12)).bind fun S13 => (rd (S13.2 6) 6 x6).bind fun x16 => (f_X0_press N n S13 ((nI t - x8) - 1) x16).bind fun S17 => (rd (S17.2 6) 6 x6).bind fun x20 => (f_X0_press N n S17 ((nI t - x8) + 1) x20).bind fun S21 => k4 S21 (x6 + 1)) M S21 (nI i + 1))
        rw [e3, pA_pA, nI_1]
        refine ih (i + 1) (by omega) M (by omega) g3 (fun k hk => ?_)
        rw [hg3 k hk]
        show g k + _ = _
        rw [hg k hk, nI_add]
        simp only [load, ctb]
        rw [if_pos hon]
      · rw [b01_f (fun h => hon ((on_hull ht hb2 hn).mp h)), if_pos rfl, nI_1]
        refine ih (i + 1) (by omega) M (by omega) g (fun k hk => ?_)
        rw [hg k hk]
        simp only [load, ctb]
        rw [if_neg hon]
        rfl
  exact main c 0 (by omega) N (by omega) _ (fun k hk => by
    show (if k < n then 0 else S.2 4 k) = _
    rw [if_pos hk]
    rfl)

