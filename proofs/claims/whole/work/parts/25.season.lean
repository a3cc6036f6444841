-- SEASON: foretold levels, the fewest days out
def bI (b : Bool) : Int32 := if b then 1 else 0
theorem bI_0 {b : Bool} : bI b = 0 ↔ b = false := by cases b <;> simp [bI]
theorem zr_bI (b : Bool) (S : St) : zr (bI b) S = some (bI b, S) := by cases b <;> rfl
def mn1 (r ly : Nat) : Nat := if ly < r + 1 then ly else r + 1
theorem mn1_le {r ly : Nat} : mn1 r ly ≤ ly := by
  unfold mn1
  split <;> omega
def okIn (bd : Nat → Bool) (ly d r : Nat) : Bool := !bd d && (Nat.beq r 0 || Nat.beq r ly)
def nd (bd : Nat → Bool) (ly : Nat) : Nat → Nat → Nat
  | 0, _ => 0
  | m + 1, r => if okIn bd ly (59 - m) r = true then (if nd bd ly m 0 < 1 + nd bd ly m (mn1 r ly) then nd bd ly m 0 else 1 + nd bd ly m (mn1 r ly)) else 1 + nd bd ly m (mn1 r ly)
theorem nd_le (bd : Nat → Bool) (ly : Nat) : ∀ m r, nd bd ly m r ≤ m := by
  intro m
  induction m with
  | zero => intro r; exact Nat.le_refl _
  | succ m ih =>
    intro r
    simp only [nd]
    have h1 := ih 0
    have h2 := ih (mn1 r ly)
    split
    · split <;> omega
    · omega
def inD (bd : Nat → Bool) (ly d r : Nat) : Bool := okIn bd ly d r && !(Nat.blt (1 + nd bd ly (59 - d) (mn1 r ly)) (nd bd ly (59 - d) 0))
def runD (bd : Nat → Bool) (ly : Nat) : Nat → Nat
  | 0 => 0
  | d + 1 => if inD bd ly d (runD bd ly d) = true then 0 else mn1 (runD bd ly d) ly
theorem runD_le (bd : Nat → Bool) (ly : Nat) : ∀ d, runD bd ly d ≤ ly := by
  intro d
  cases d with
  | zero => exact Nat.zero_le _
  | succ d =>
    simp only [runD]
    split
    · exact Nat.zero_le _
    · exact mn1_le
def bdF (hi : Nat → Int32) (mx : Int32) (d : Nat) : Bool := decide (hi d = -1) || !decide (hi d ≤ mx)
def FC (bd : Nat → Bool) (ly : Nat) (f : Nat → Int32) (i : Nat) : Nat → Int32 := fun j => if (60 - i) * 10 ≤ j ∧ j < 600 ∧ j % 10 ≤ ly then nI (nd bd ly (60 - j / 10) (j % 10)) else f j
def IC (bd : Nat → Bool) (ly : Nat) (f : Nat → Int32) (i r : Nat) : Nat → Int32 := fun j => if (59 - i) * 10 ≤ j ∧ j < (59 - i) * 10 + r then nI (nd bd ly (60 - (59 - i)) (j - (59 - i) * 10)) else FC bd ly f i j
theorem FC_0 (bd : Nat → Bool) (ly : Nat) (f : Nat → Int32) : FC bd ly f 0 = f := by
  funext j
  unfold FC
  rw [if_neg (by omega)]
theorem IC_0 (bd : Nat → Bool) (ly : Nat) (f : Nat → Int32) (i : Nat) : IC bd ly f i 0 = FC bd ly f i := by
  funext j
  unfold IC
  rw [if_neg (by omega)]
theorem IC_S (bd : Nat → Bool) (ly : Nat) (f : Nat → Int32) (i r : Nat) : upd (IC bd ly f i r) ((59 - i) * 10 + r) (nI (nd bd ly (60 - (59 - i)) r)) = IC bd ly f i (r + 1) := by
  funext j
  unfold upd
  by_cases e : j = (59 - i) * 10 + r
  · subst e
    rw [if_pos rfl]
    unfold IC
    rw [if_pos (by omega), Nat.add_sub_cancel_left]
  · rw [if_neg e]
    unfold IC
    by_cases h : (59 - i) * 10 ≤ j ∧ j < (59 - i) * 10 + r
    · rw [if_pos h, if_pos (by omega)]
    · rw [if_neg h, if_neg (by omega)]
theorem IC_E (bd : Nat → Bool) {ly : Nat} (f : Nat → Int32) {i : Nat} (hi : i < 60) (hl : ly ≤ 9) : IC bd ly f i (ly + 1) = FC bd ly f (i + 1) := by
  funext j
  unfold IC
  by_cases h : (59 - i) * 10 ≤ j ∧ j < (59 - i) * 10 + (ly + 1)
  · rw [if_pos h]
    unfold FC
    rw [if_pos (by omega)]
    have e1 : j / 10 = 59 - i := by omega
    have e2 : j % 10 = j - (59 - i) * 10 := by omega
    rw [e1, e2]
  · rw [if_neg h]
    unfold FC
    by_cases h2 : (60 - i) * 10 ≤ j ∧ j < 600 ∧ j % 10 ≤ ly
    · rw [if_pos h2, if_pos (by omega)]
    · rw [if_neg h2, if_neg (by omega)]
/-- what stands behind day d = 59 - i, while that day is worked on -/
theorem IC_next (bd : Nat → Bool) {ly : Nat} (f : Nat → Int32) {i r q : Nat} (hi : i < 60) (hl : ly ≤ 9) (hr : r ≤ ly + 1) (hq : q ≤ ly) (hf : ∀ j, 600 ≤ j → j < 610 → f j = 0) : IC bd ly f i r ((60 - i) * 10 + q) = nI (nd bd ly i q) := by
  unfold IC
  rw [if_neg (by omega)]
  unfold FC
  by_cases h : i = 0
  · subst h
    rw [if_neg (by omega), hf _ (by omega) (by omega)]
    rfl
  · rw [if_pos (by omega)]
    have e1 : ((60 - i) * 10 + q) / 10 = 60 - i := by omega
    have e2 : ((60 - i) * 10 + q) % 10 = q := by omega
    rw [e1, e2]
    have e3 : 60 - (60 - i) = i := by omega
    rw [e3]
theorem p_isBadC {N n d : Nat} {S : St} (hd : d < 60) : f_X2_isBad N n S (nI d) = some (bI (bdF (S.2 21) (S.1 2003) d), S) := by
  unfold f_X2_isBad bdF
  rw [rd_nI hd (by decide), bs_s, bs_s]
  by_cases h : S.2 21 d = -1
  · rw [if_pos h]; simp [h]; rfl
  · rw [if_neg h]
    by_cases h2 : S.2 21 d ≤ S.1 2003
    · rw [if_pos h2]; simp [h, h2]; rfl
    · rw [if_neg h2]; simp [h, h2]; rfl
theorem p_mayBeIn {N n d r ly : Nat} {S : St} {bd : Nat → Bool} (hb : bd d = bdF (S.2 21) (S.1 2003) d) (hl : S.1 2004 = nI ly) (hly : ly ≤ 9) (hr : r ≤ ly) (hd : d < 60) : f_X2_mayBeIn N n S (nI d) (nI r) = some (bI (okIn bd ly d r), S) := by
  unfold f_X2_mayBeIn okIn
  rw [p_isBadC hd, bd2_s, ← hb]
  cases bd d with
  | true => rw [if_neg (by decide)]; rfl
  | false =>
    rw [if_pos (by decide), hl]
    by_cases h0 : r = 0
    · subst h0; rw [if_pos (show nI 0 = 0 from rfl)]; rfl
    · rw [if_neg (nI_ne0 (by omega) (by omega))]
      by_cases h1 : r = ly
      · subst h1; rw [if_pos rfl]; simp; rfl
      · rw [if_neg (fun e => h1 ((nI_eq_iff (by omega) (by omega)).mp e))]
        have b0 : Nat.beq r 0 = false := by
          cases hb : Nat.beq r 0 with
          | false => rfl
          | true => exact absurd (Nat.eq_of_beq_eq_true hb) h0
        have b1 : Nat.beq r ly = false := by
          cases hb : Nat.beq r ly with
          | false => rfl
          | true => exact absurd (Nat.eq_of_beq_eq_true hb) h1
        rw [b0, b1]; rfl
theorem p_needIfIn {N n d : Nat} {S : St} (hd : d < 60) : f_X2_needIfIn N n S (nI d) = some (S.2 23 ((d + 1) * 10), S) := by
  unfold f_X2_needIfIn
  rw [nI_1, show nI (d + 1) * 10 = nI ((d + 1) * 10) from pk_mul (d + 1) 10, rd_nI (by omega) (by decide), bs_s]
theorem mn1_I {r ly : Nat} (hr : r < 1000) (hl : ly < 1000) : (if nI ly < nI r + 1 then nI ly else nI r + 1) = nI (mn1 r ly) := by
  unfold mn1
  rw [nI_1]
  by_cases h : ly < r + 1
  · rw [if_pos (nI_lt h (by omega)), if_pos h]
  · rw [if_neg (nI_nlt (by omega) (by omega)), if_neg h]
theorem p_needIfOut {N n d r ly : Nat} {S : St} (hl : S.1 2004 = nI ly) (hly : ly ≤ 9) (hr : r ≤ ly) (hd : d < 60) : f_X2_needIfOut N n S (nI d) (nI r) = some (1 + S.2 23 ((d + 1) * 10 + mn1 r ly), S) := by
  unfold f_X2_needIfOut
  have := @mn1_le r ly
  rw [hl, mn1_I (by omega) (by omega), nI_1, show nI (d + 1) * 10 = nI ((d + 1) * 10) from pk_mul (d + 1) 10, nI_add, rd_nI (by omega) (by decide), bs_s]
def OC (bd : Nat → Bool) (ly : Nat) (f : Nat → Int32) (i : Nat) : Nat → Int32 := fun j => if j < i then bI (!inD bd ly j (runD bd ly j)) else f j
theorem day_sub {i : Nat} (hi : i < 60) : nI (60 - i) - 1 = nI (59 - i) := by
  rw [nI_m1 (by omega)]
  congr 1
  omega
/-- the class's plan, where none stands -/
theorem p_planC {N n ly : Nat} {S : St} {bd : Nat → Bool} (hb : ∀ d, d < 60 → bd d = bdF (S.2 21) (S.1 2003) d) (hl : S.1 2004 = nI ly) (hly : 1 ≤ ly ∧ ly ≤ 9) (hf : ∀ j, 600 ≤ j → j < 610 → S.2 23 j = 0) (hp : S.1 2005 = 0) (hN : 100 < N) : f_X2_plan N n S = some (pA (pA (pF S 2005 1) 23 (FC bd ly (S.2 23) 60)) 22 (OC bd ly (S.2 22) 60)) := by
  unfold f_X2_plan
  rw [if_pos hp, lett_s]
  refine loop1_run (I := fun i S2 x => x = nI (60 - i) - 1 ∧ S2 = pA (pF S 2005 1) 23 (FC bd ly (S.2 23) i)) (k := 60) ⟨rfl, ?_⟩ (by omega) ?_ ?_
  · rw [FC_0]; exact (pA_self (pF S 2005 1) 23).symm
  · intro i S2 x hi hI
    obtain ⟨rfl, rfl⟩ := hI
    refine Or.inl ⟨_, _, ⟨rfl, rfl⟩, fun rc => ?_⟩
    rw [day_sub hi, if_neg (nI_pos (by omega))]
    refine loop1_run (I := fun r S2 x => x = nI r ∧ S2 = pA (pF S 2005 1) 23 (IC bd ly (S.2 23) i r)) (k := ly + 1) ⟨rfl, ?_⟩ (by omega) ?_ ?_
    · rw [IC_0]
    · intro r S2 x hr hI
      obtain ⟨rfl, rfl⟩ := hI
      refine Or.inl ⟨_, _, ⟨rfl, rfl⟩, fun rc2 => ?_⟩
      have hl' : (pA (pF S 2005 1) 23 (IC bd ly (S.2 23) i r)).1 2004 = nI ly := hl
      rw [hl', if_neg (nI_nlt (by omega) (by omega)), p_needIfOut hl' hly.2 (by omega) (by omega), bd2_s, p_mayBeIn (S := pA (pF S 2005 1) 23 (IC bd ly (S.2 23) i r)) (r := r) (bd := bd) (hb (59 - i) (by omega)) hl' hly.2 (by omega) (by omega), bd2_s, lett_s, p_needIfIn (by omega), bd2_s, pA_at]
      dsimp only
      have e10 : 59 - i + 1 = 60 - i := by omega
      have hq := @mn1_le r ly
      have e0 := IC_next bd (S.2 23) (i := i) (r := r) (q := 0) hi hly.2 (by omega) (Nat.zero_le _) hf
      rw [Nat.add_zero] at e0
      rw [e10, IC_next bd (S.2 23) hi hly.2 (by omega) hq hf, e0]
      have e1 : (1 : Int32) + nI (nd bd ly i (mn1 r ly)) = nI (1 + nd bd ly i (mn1 r ly)) := nI_add 1 _
      rw [e1]
      have hndr : nd bd ly (60 - (59 - i)) r = if okIn bd ly (59 - i) r = true then (if nd bd ly i 0 < 1 + nd bd ly i (mn1 r ly) then nd bd ly i 0 else 1 + nd bd ly i (mn1 r ly)) else 1 + nd bd ly i (mn1 r ly) := by
        have e : 60 - (59 - i) = i + 1 := by omega
        rw [e]
        rfl
      have b1 := nd_le bd ly i 0
      have b2 := nd_le bd ly i (mn1 r ly)
      have ix : nI (59 - i) * 10 + nI r = nI ((59 - i) * 10 + r) := by
        rw [show nI (59 - i) * 10 = nI ((59 - i) * 10) from pk_mul (59 - i) 10, nI_add]
      cases hok : okIn bd ly (59 - i) r with
      | false =>
        rw [if_pos (show bI false = 0 from rfl), ix, wr_nI (by omega) (by decide), bs_s, pA_at, pA_pA, nI_1]
        rw [hok, if_neg (by decide)] at hndr
        rw [← hndr, IC_S]
      | true =>
        rw [if_neg (show ¬ bI true = 0 by decide), ix, wr_nI (by omega) (by decide), bs_s, pA_at, pA_pA, nI_1]
        rw [hok, if_pos rfl] at hndr
        have e2 : (if nI (nd bd ly i 0) < nI (1 + nd bd ly i (mn1 r ly)) then nI (nd bd ly i 0) else nI (1 + nd bd ly i (mn1 r ly))) = nI (nd bd ly (60 - (59 - i)) r) := by
          rw [hndr]
          by_cases h : nd bd ly i 0 < 1 + nd bd ly i (mn1 r ly)
          · rw [if_pos (nI_lt h (by omega)), if_pos h]
          · rw [if_neg (nI_nlt (by omega) (by omega)), if_neg h]
        rw [e2, IC_S]
    · intro S2 x hI rc2
      obtain ⟨rfl, rfl⟩ := hI
      have hl' : (pA (pF S 2005 1) 23 (IC bd ly (S.2 23) i (ly + 1))).1 2004 = nI ly := hl
      rw [hl', if_pos (nI_lt (by omega) (by omega)), IC_E bd (S.2 23) hi hly.2]
      have e : nI (60 - (i + 1)) - 1 = nI (59 - i) + (-1) := by
        have e : 60 - (i + 1) = 59 - i := by omega
        rw [e]
        exact Int32.sub_eq_add_neg _ _
      rw [e]
  · intro S2 x hI rc
    obtain ⟨rfl, rfl⟩ := hI
    rw [if_pos (show nI (60 - 60) - 1 < 0 by decide)]
    have hS1 : ∀ f g, (pA (pA (pF S 2005 1) 23 f) 22 g).1 2004 = nI ly := fun _ _ => hl
    have hbb : ∀ f g d, d < 60 → bd d = bdF ((pA (pA (pF S 2005 1) 23 f) 22 g).2 21) ((pA (pA (pF S 2005 1) 23 f) 22 g).1 2003) d := fun _ _ d hd => hb d hd
    have h23 : ∀ f g, (pA (pA (pF S 2005 1) 23 f) 22 g).2 23 = f := fun _ _ => rfl
    have main : f_X2_chooseDays N n (pA (pF S 2005 1) 23 (FC bd ly (S.2 23) 60)) = some (pA (pA (pF S 2005 1) 23 (FC bd ly (S.2 23) 60)) 22 (OC bd ly (S.2 22) 60)) := by
      unfold f_X2_chooseDays
      refine loop2_run (I := fun i S2 x y => x = nI (runD bd ly i) ∧ y = nI i ∧ S2 = pA (pA (pF S 2005 1) 23 (FC bd ly (S.2 23) 60)) 22 (OC bd ly (S.2 22) i)) (k := 60) ⟨rfl, rfl, ?_⟩ (by omega) ?_ ?_
      · have e : OC bd ly (S.2 22) 0 = S.2 22 := by
          funext j
          unfold OC
          rw [if_neg (Nat.not_lt_zero j)]
        rw [e]
        exact (pA_self (pA (pF S 2005 1) 23 (FC bd ly (S.2 23) 60)) 22).symm
      · intro i S2 x y hi hI
        obtain ⟨rfl, rfl, rfl⟩ := hI
        refine Or.inl ⟨_, _, _, ⟨rfl, rfl, rfl⟩, fun rc2 => ?_⟩
        have hrl := runD_le bd ly i
        have hm := @mn1_le (runD bd ly i) ly
        have FCv : ∀ q, q ≤ ly → FC bd ly (S.2 23) 60 ((i + 1) * 10 + q) = nI (nd bd ly (59 - i) q) := by
          intro q hq
          unfold FC
          by_cases h : i = 59
          · subst h
            rw [if_neg (by omega), hf _ (by omega) (by omega)]
            rfl
          · rw [if_pos (by omega)]
            have e1 : ((i + 1) * 10 + q) / 10 = i + 1 := by omega
            have e2 : ((i + 1) * 10 + q) % 10 = q := by omega
            rw [e1, e2]
            have e3 : 60 - (i + 1) = 59 - i := by omega
            rw [e3]
        have e0 := FCv 0 (Nat.zero_le _)
        rw [Nat.add_zero] at e0
        rw [if_neg (show ¬ (60 : Int32) ≤ nI i from nI_ge hi (by decide)), p_mayBeIn (bd := bd) (hbb _ _ i hi) (hS1 _ _) hly.2 hrl hi, bd2_s, lett_s, p_needIfIn hi, bd2_s, p_needIfOut (hS1 _ _) hly.2 hrl hi, bd2_s, h23, e0, FCv _ hm]
        dsimp only
        have e1 : (1 : Int32) + nI (nd bd ly (59 - i) (mn1 (runD bd ly i) ly)) = nI (1 + nd bd ly (59 - i) (mn1 (runD bd ly i) ly)) := nI_add 1 _
        have b1 := nd_le bd ly (59 - i) 0
        have b2 := nd_le bd ly (59 - i) (mn1 (runD bd ly i) ly)
        have step : ∀ b : Bool, upd (OC bd ly (S.2 22) i) i (bI (!inD bd ly i (runD bd ly i))) = OC bd ly (S.2 22) (i + 1) := by
          intro _
          funext j
          unfold upd OC
          by_cases e : j = i
          · subst e; rw [if_pos rfl, if_pos (Nat.lt_succ_self _)]
          · rw [if_neg e]
            by_cases h : j < i
            · rw [if_pos h, if_pos (by omega)]
            · rw [if_neg h, if_neg (by omega)]
        have outc : ∀ (hin : inD bd ly i (runD bd ly i) = false), lett (fun (S14 : St) (x15 : Int32) => (wr S14 22 60 (nI i) (vp_nar .boolean x15)).bind fun S17 => if (0 : Int32) = 0 then rc2 S17 (if (S17.1 2004) < (nI (runD bd ly i) + 1) then (S17.1 2004) else (nI (runD bd ly i) + 1)) (nI i + 1) else rc2 S17 0 (nI i + 1)) (fun j13 => if (0 : Int32) = 0 then j13 (pA (pA (pF S 2005 1) 23 (FC bd ly (S.2 23) 60)) 22 (OC bd ly (S.2 22) i)) 1 else j13 (pA (pA (pF S 2005 1) 23 (FC bd ly (S.2 23) 60)) 22 (OC bd ly (S.2 22) i)) 0) = rc2 (pA (pA (pF S 2005 1) 23 (FC bd ly (S.2 23) 60)) 22 (OC bd ly (S.2 22) (i + 1))) (nI (runD bd ly (i + 1))) (nI (i + 1)) := by
          intro hin
          rw [lett_s, if_pos rfl]
          dsimp only
          rw [show vp_nar .boolean 1 = 1 from rfl, wr_nI hi (by decide), bs_s, if_pos rfl, pA_at, pA_pA, hS1, mn1_I (by omega) (by omega), nI_1]
          have s1 := step true
          rw [hin] at s1
          rw [← s1]
          simp only [runD]
          rw [hin, if_neg (by decide)]
          rfl
        cases hok : okIn bd ly i (runD bd ly i) with
        | false =>
          rw [if_pos (show bI false = 0 from rfl)]
          exact outc (by unfold inD; rw [hok]; rfl)
        | true =>
          rw [if_neg (show ¬ bI true = 0 by decide), e1]
          by_cases hlt : 1 + nd bd ly (59 - i) (mn1 (runD bd ly i) ly) < nd bd ly (59 - i) 0
          · rw [if_pos (nI_lt hlt (by omega))]
            refine outc ?_
            unfold inD
            have : Nat.blt (1 + nd bd ly (59 - i) (mn1 (runD bd ly i) ly)) (nd bd ly (59 - i) 0) = true := by
              rw [Nat.blt_eq]; exact hlt
            rw [this, hok]
            rfl
          · have hin : inD bd ly i (runD bd ly i) = true := by
              unfold inD
              have : Nat.blt (1 + nd bd ly (59 - i) (mn1 (runD bd ly i) ly)) (nd bd ly (59 - i) 0) = false := by
                cases hb : Nat.blt (1 + nd bd ly (59 - i) (mn1 (runD bd ly i) ly)) (nd bd ly (59 - i) 0) with
                | false => rfl
                | true => rw [Nat.blt_eq] at hb; exact absurd hb hlt
              rw [this, hok]
              rfl
            rw [if_neg (nI_nlt (by omega) (by omega)), lett_s, if_neg one_ne]
            dsimp only
            rw [show vp_nar .boolean 0 = 0 from rfl, wr_nI hi (by decide), bs_s, if_neg one_ne, pA_at, pA_pA, nI_1]
            have s1 := step true
            rw [hin] at s1
            rw [← s1]
            simp only [runD]
            rw [hin, if_pos rfl]
            rfl
      · intro S2 x y hI rc2
        obtain ⟨rfl, rfl, rfl⟩ := hI
        rw [if_pos (show (60 : Int32) ≤ nI 60 by decide)]
    rw [main, bs_s]
