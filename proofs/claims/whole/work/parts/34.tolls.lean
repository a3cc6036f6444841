-- TOLLS
def bM (N n : Nat) (a : Int32) (E : St → Int32 → Option (Int32 × St)) (k12 : St → Int32 → Option (Int32 × St)) (S13 : St) (x14 : Int32) : Option (Int32 × St) :=
        lett E fun j16 =>
        if (S13.1 20) = 0 then
          j16 S13 x14
        else
          if (S13.1 22) = 0 then
            (f_X7_clause N n S13 a).bind fun S30 =>
            k12 S30 (x14 + 1)
          else
            j16 S13 x14
theorem read_j {N n ln : Nat} {cs : Nat → Nat} {S0 T0 : St} {E : St → Int32 → Option (Int32 × St)} (hN : 1000 < N) : ∀ (m p x cnt : Nat) (S T : St) (ct ck : Int32) (ra rb : Nat → Int32), ln - p ≤ m → RC ln cs S0 p 0 cnt ct ck ra rb S → RM ln cs T0 ra rb T → LdM ln cs p T → x ≤ p → p ≤ ln → rowsOk ra rb → ∀ f1 f2, 4 * m + 5 ≤ f1 → m + 2 ≤ f2 →
    ∃ (r : Int32) (S2 T2 : St) (cnt2 : Nat), loop1 (bC N n) f1 S (nI x) = some (r, S2) ∧ loop1 (bM N n (nI ln) E) f2 T (nI cnt) = E T2 (nI cnt2) ∧ ((r = 0 ∧ ∃ (c : Int32) (pl : Nat), (0 : Int32) < c ∧ FCl S0 c pl S2 ∧ FMd T0 c pl T2) ∨ (r = 1 ∧ ∃ (p2 : Nat) (ct ck : Int32) (ra rb : Nat → Int32), rowsOk ra rb ∧ RC ln cs S0 p2 0 cnt2 ct ck ra rb S2 ∧ RM ln cs T0 ra rb T2)) := by
  intro m
  induction m with
  | zero =>
    intro p x cnt S T ct ck ra rb hm hC hM hL hx hp hr f1 f2 hf1 hf2
    have hl := hC.2.1.1
    obtain ⟨g1, rfl⟩ : ∃ g, f1 = g + 4 := ⟨f1 - 4, by omega⟩
    obtain ⟨g2, rfl⟩ : ∃ g, f2 = g + 2 := ⟨f2 - 2, by omega⟩
    by_cases hk : tkK cs ln p = 0
    · obtain ⟨hC1, i6, i7, i8⟩ := RC_nx hC hp
      refine ⟨1, _, T, cnt, stepEnd hC.2.1 hp hC.2.2.1 (by omega) hN (by rw [i6, hk]; rfl) hC1.2.2.2.1 (g1 + 3), ?_, Or.inr ⟨rfl, _, _, _, _, _, hr, hC1, hM⟩⟩
      show bM N n (nI ln) E (loop1 (bM N n (nI ln) E) (g2 + 1)) T (nI cnt) = _
      unfold bM
      rw [lett_s]
      rw [if_pos (show T.1 20 = 0 by rw [hL.2.1, hk]; rfl)]
    · rcases clause_j (n := n) hC hM hL hp hx hk hr hN with ⟨c, pl, S2, T2, h1, h2, h3, h4, h5⟩ | ⟨p2, ct2, ck2, ra2, rb2, S2, T2, h1, h2, h3, h4, h5, h6, h7, h8⟩
      · refine ⟨0, S2, T2, cnt + 1, h2 g1, ?_, Or.inl ⟨rfl, c, pl, h1, h4, h5⟩⟩
        show bM N n (nI ln) E (loop1 (bM N n (nI ln) E) (g2 + 1)) T (nI cnt) = _
        conv => lhs; unfold bM
        rw [lett_s]
        rw [if_neg (show ¬ T.1 20 = 0 from fun z => hk (by
          rw [hL.2.1] at z
          unfold kM at z
          split at z
          · assumption
          · split at z
            · exact absurd z (by decide)
            · split at z
              · exact absurd z (by decide)
              · split at z
                · exact absurd z (by decide)
                · split at z <;> exact absurd z (by decide))), if_pos hM.2.2.1.1, h3, bs_s, nI_1]
        show bM N n (nI ln) E (loop1 (bM N n (nI ln) E) g2) T2 (nI (cnt + 1)) = _
        unfold bM
        rw [lett_s]
        rw [if_neg (show ¬ T2.1 22 = 0 from fun z => by
          rw [h5.2.1] at z
          rw [z] at h1
          exact absurd h1 (by decide))]
        split <;> rfl
      · omega
  | succ m ih =>
    intro p x cnt S T ct ck ra rb hm hC hM hL hx hp hr f1 f2 hf1 hf2
    have hl := hC.2.1.1
    obtain ⟨g1, rfl⟩ : ∃ g, f1 = g + 4 := ⟨f1 - 4, by omega⟩
    obtain ⟨g2, rfl⟩ : ∃ g, f2 = g + 2 := ⟨f2 - 2, by omega⟩
    by_cases hk : tkK cs ln p = 0
    · obtain ⟨hC1, i6, i7, i8⟩ := RC_nx hC hp
      refine ⟨1, _, T, cnt, stepEnd hC.2.1 hp hC.2.2.1 (by omega) hN (by rw [i6, hk]; rfl) hC1.2.2.2.1 (g1 + 3), ?_, Or.inr ⟨rfl, _, _, _, _, _, hr, hC1, hM⟩⟩
      show bM N n (nI ln) E (loop1 (bM N n (nI ln) E) (g2 + 1)) T (nI cnt) = _
      unfold bM
      rw [lett_s]
      rw [if_pos (show T.1 20 = 0 by rw [hL.2.1, hk]; rfl)]
    · have k20 : ¬ T.1 20 = 0 := fun z => hk (by
        rw [hL.2.1] at z
        unfold kM at z
        split at z
        · assumption
        · split at z
          · exact absurd z (by decide)
          · split at z
            · exact absurd z (by decide)
            · split at z
              · exact absurd z (by decide)
              · split at z <;> exact absurd z (by decide))
      rcases clause_j (n := n) hC hM hL hp hx hk hr hN with ⟨c, pl, S2, T2, h1, h2, h3, h4, h5⟩ | ⟨p2, ct2, ck2, ra2, rb2, S2, T2, h1, h2, h3, h4, h5, h6, h7, h8⟩
      · refine ⟨0, S2, T2, cnt + 1, h2 g1, ?_, Or.inl ⟨rfl, c, pl, h1, h4, h5⟩⟩
        show bM N n (nI ln) E (loop1 (bM N n (nI ln) E) (g2 + 1)) T (nI cnt) = _
        conv => lhs; unfold bM
        rw [lett_s]
        rw [if_neg k20, if_pos hM.2.2.1.1, h3, bs_s, nI_1]
        show bM N n (nI ln) E (loop1 (bM N n (nI ln) E) g2) T2 (nI (cnt + 1)) = _
        unfold bM
        rw [lett_s]
        rw [if_neg (show ¬ T2.1 22 = 0 from fun z => by
          rw [h5.2.1] at z
          rw [z] at h1
          exact absurd h1 (by decide))]
        split <;> rfl
      · obtain ⟨r, S3, T3, cnt3, e1, e2, e3⟩ := ih p2 (x + 4) (cnt + 1) S2 T2 ct2 ck2 ra2 rb2 (by omega) h6 h7 h8 (by omega) h2 h3 g1 (g2 + 1) (by omega) (by omega)
        refine ⟨r, S3, T3, cnt3, (h4 g1).trans e1, ?_, e3⟩
        show bM N n (nI ln) E (loop1 (bM N n (nI ln) E) (g2 + 1)) T (nI cnt) = _
        conv => lhs; unfold bM
        rw [lett_s]
        rw [if_neg k20, if_pos hM.2.2.1.1, h5, bs_s, nI_1]
        exact e2
/-- two rows set -/
def Two (S : St) (a b : Nat) (F G : Nat → Int32) : St := pA (pA S a F) b G
theorem Two_a (S : St) {a b : Nat} (F G F2 : Nat → Int32) (h : a ≠ b) : pA (Two S a b F G) a F2 = Two S a b F2 G := by
  unfold Two
  rw [pA_comm _ G F2 (Ne.symm h), pA_pA]
theorem Two_b (S : St) {a b : Nat} (F G G2 : Nat → Int32) : pA (Two S a b F G) b G2 = Two S a b F G2 := by
  unfold Two
  rw [pA_pA]
theorem upd_lt2 (h F : Nat → Int32) (i : Nat) : upd (fun j => if j < i then h j else F j) i (h i) = fun j => if j < i + 1 then h j else F j := by
  funext j
  by_cases e : j = i
  · rw [e, upd_at, if_pos (by omega)]
  · rw [upd_ne _ _ e]
    by_cases c : j < i
    · rw [if_pos c, if_pos (by omega)]
    · rw [if_neg c, if_neg (by omega)]
theorem Two_0 (S : St) (a b : Nat) (h k : Nat → Int32) (hab : a ≠ b) : S = Two S a b (fun j => if j < 0 then h j else S.2 a j) (fun j => if j < 0 then k j else S.2 b j) := by
  have e1 : (fun j => if j < 0 then h j else S.2 a j) = S.2 a := by
    funext j
    exact if_neg (by omega)
  have e2 : (fun j => if j < 0 then k j else S.2 b j) = S.2 b := by
    funext j
    exact if_neg (by omega)
  rw [e1, e2]
  unfold Two
  rw [pA_self, pA_self]
def mx0 (x : Int32) : Int32 := if (0 : Int32) < x then x else 0
theorem mx0_eq (x : Int32) : mx0 x = if (0 : Int32) ≤ x then x else 0 := by
  unfold mx0
  by_cases h : (0 : Int32) < x
  · rw [if_pos h, if_pos (i_nlt.mp (fun z => by rw [i_lt] at h z; omega))]
  · rw [if_neg h]
    by_cases h2 : (0 : Int32) ≤ x
    · rw [if_pos h2]
      apply i_eq
      rw [i_lt] at h
      rw [i_le] at h2
      have e0 : (0 : Int32).toInt = 0 := rfl
      omega
    · rw [if_neg h2]
theorem p_adopt {N n : Nat} {S : St} (hN : 1000 < N) : f_X4_adopt_26 N n S = some (Two S 30 31 (fun j => if j < 6 then mx0 (S.2 27 j) else S.2 30 j) (fun j => if j < 6 then mx0 (S.2 28 j) else S.2 31 j)) := by
  unfold f_X4_adopt_26
  refine loop1_run (I := fun i S2 x => x = nI i ∧ S2 = Two S 30 31 (fun j => if j < i then mx0 (S.2 27 j) else S.2 30 j) (fun j => if j < i then mx0 (S.2 28 j) else S.2 31 j)) (k := 6) ⟨rfl, Two_0 S 30 31 (fun j => mx0 (S.2 27 j)) (fun j => mx0 (S.2 28 j)) (by decide)⟩ (by omega) ?_ ?_
  · intro i S2 x hi hI
    obtain ⟨rfl, rfl⟩ := hI
    refine Or.inl ⟨_, _, ⟨rfl, rfl⟩, fun rc => ?_⟩
    have e27 : ∀ F G, (Two S 30 31 F G).2 27 = S.2 27 := fun _ _ => rfl
    have e28 : ∀ F G, (Two S 30 31 F G).2 28 = S.2 28 := fun _ _ => rfl
    have e30 : ∀ F G, (Two S 30 31 F G).2 30 = F := fun _ _ => rfl
    have e31 : ∀ F G, (Two S 30 31 F G).2 31 = G := fun _ _ => rfl
    rw [if_neg (show ¬ (6 : Int32) ≤ nI i from nI_ge (b := 6) hi (by decide))]
    unfold f_X5_readToll f_X5_readAgain
    rw [e27, rd_nI hi (by decide), bs_s, bd2_s, wr_nI hi (by decide), bs_s, e30, Two_a _ _ _ _ (by decide), e28, rd_nI hi (by decide), bs_s, bd2_s, wr_nI hi (by decide), bs_s, e31, Two_b, nI_1]
    have u1 := upd_lt2 (fun j => mx0 (S.2 27 j)) (S.2 30) i
    have u2 := upd_lt2 (fun j => mx0 (S.2 28 j)) (S.2 31) i
    unfold mx0 at u1 u2 ⊢
    rw [u1, u2]
  · intro S2 x hI rc
    obtain ⟨rfl, rfl⟩ := hI
    rw [if_pos (show (6 : Int32) ≤ nI 6 by decide)]
theorem p_copy {N : Nat} {T : St} {x18 : Int32} (hN : 1000 < N) : loop1 (fun (k22 : St → Int32 → Option (Int32 × St)) (S23 : St) (x24 : Int32) =>
              if 6 ≤ x24 then
                some (x18, S23)
              else
                (rd (S23.2 12) 6 x24).bind fun x26 =>
                (wr S23 14 6 x24 x26).bind fun S27 =>
                (rd (S27.2 13) 6 x24).bind fun x28 =>
                (wr S27 15 6 x24 x28).bind fun S29 =>
                k22 S29 (x24 + 1)) N T 0 = some (x18, Two T 14 15 (fun j => if j < 6 then T.2 12 j else T.2 14 j) (fun j => if j < 6 then T.2 13 j else T.2 15 j)) := by
  refine loop1_run (I := fun i S2 x => x = nI i ∧ S2 = Two T 14 15 (fun j => if j < i then T.2 12 j else T.2 14 j) (fun j => if j < i then T.2 13 j else T.2 15 j)) (k := 6) ⟨rfl, Two_0 T 14 15 (T.2 12) (T.2 13) (by decide)⟩ (by omega) ?_ ?_
  · intro i S2 x hi hI
    obtain ⟨rfl, rfl⟩ := hI
    refine Or.inl ⟨_, _, ⟨rfl, rfl⟩, fun rc => ?_⟩
    have e12 : ∀ F G, (Two T 14 15 F G).2 12 = T.2 12 := fun _ _ => rfl
    have e13 : ∀ F G, (Two T 14 15 F G).2 13 = T.2 13 := fun _ _ => rfl
    have e14 : ∀ F G, (Two T 14 15 F G).2 14 = F := fun _ _ => rfl
    have e15 : ∀ F G, (Two T 14 15 F G).2 15 = G := fun _ _ => rfl
    rw [if_neg (show ¬ (6 : Int32) ≤ nI i from nI_ge (b := 6) hi (by decide)), e12, rd_nI hi (by decide), bs_s, wr_nI hi (by decide), bs_s, e14, Two_a _ _ _ _ (by decide), e13, rd_nI hi (by decide), bs_s, wr_nI hi (by decide), bs_s, e15, Two_b, nI_1, upd_lt2 (T.2 12), upd_lt2 (T.2 13)]
  · intro S2 x hI rc
    obtain ⟨rfl, rfl⟩ := hI
    rw [if_pos (show (6 : Int32) ≤ nI 6 by decide)]
def beg (S : St) : St := pF (pF (pF (pF (pF (pA (pA S 27 (fun j => if j < 6 then -1 else S.2 27 j)) 28 (fun j => if j < 6 then -1 else S.2 28 j)) 2602 0) 2603 0) 2604 (-1)) 2605 0) 2609 0
theorem p_begin {N n : Nat} {S : St} (hN : 1000 < N) : f_X5_begin N n S = some (beg S) := by
  unfold f_X5_begin
  rw [p_J7_fill_53178_27 (by decide) (by omega), bs_s, p_J7_fill_53178_28 (by decide) (by omega), bs_s, lett_s, lett_s, lett_s, lett_s, lett_s]
  rfl
def pTo (k : Nat) : Bool := Nat.beq k 2401 || (Nat.ble 2602 k && Nat.ble k 2611)
def qTo (k : Nat) : Bool := [27, 28, 30, 31].contains k
def pToM (k : Nat) : Bool := Nat.ble 17 k && Nat.ble k 25
def qToM (k : Nat) : Bool := Nat.ble 12 k && Nat.ble k 15
theorem pRd_To (k : Nat) (h : pRd k = true) : pTo k = true := by
  unfold pRd at h
  unfold pTo
  rw [h, Bool.or_true]
theorem qRd_To (k : Nat) (h : qRd k = true) : qTo k = true := by
  unfold qRd at h
  simp only [Bool.and_eq_true, Nat.ble_eq] at h
  rcases (show k = 27 ∨ k = 28 by omega) with rfl | rfl <;> rfl
theorem pRm_To (k : Nat) (h : pRm k = true) : pToM k = true := by
  unfold pRm at h
  unfold pToM
  simp only [Bool.and_eq_true, Nat.ble_eq] at h ⊢
  omega
theorem qRm_To (k : Nat) (h : qRm k = true) : qToM k = true := by
  unfold qRm at h
  unfold qToM
  simp only [Bool.and_eq_true, Nat.ble_eq] at h ⊢
  omega
theorem d_tolls {N n : Nat} {S T : St} (hN : 4000 < N) (hP : RP S T) (hG : RG S T) : ∃ (r : Int32) (S2 T2 : St), f_X6_tolls N n S = some (r, S2) ∧ f_X7_tolls N n T = some (r, T2) ∧ RP S2 T2 ∧ RG S2 T2 ∧ Kp pTo qTo S S2 ∧ Kp pToM qToM T T2 := by
  obtain ⟨ln, cs, hl, hS, hT, hcs⟩ := hP
  have kb : Kp pRd qRd S (beg S) := (((((((Kp.rf _ _ _).pA _ rfl).pA _ rfl).pF _ rfl).pF _ rfl).pF _ rfl).pF _ rfl).pF _ rfl
  have hC : RC ln cs S 0 0 0 ((beg S).1 2610) ((beg S).1 2611) (fun _ => -1) (fun _ => -1) (beg S) := by
    refine ⟨kb, ⟨hl, hS, fun j hj => ⟨(hcs j hj).1, (hcs j hj).2.1⟩⟩, rfl, rfl, rfl, ⟨rfl, rfl⟩, ⟨rfl, rfl⟩, fun k hk => ⟨?_, ?_⟩⟩
    · show (if k < 6 then (-1 : Int32) else S.2 27 k) = -1
      exact if_pos hk
    · show (if k < 6 then (-1 : Int32) else S.2 28 k) = -1
      exact if_pos hk
  have hro : rowsOk (fun _ => -1) (fun _ => -1) := fun k _ => ⟨Or.inl rfl, Or.inl rfl⟩
  generalize eT4 : pF (pF (pF (pF T 17 0) 18 0) 22 0) 23 (-1) = T4
  generalize eT5 : Two T4 12 13 (fun j => if j < 6 then -1 else T4.2 12 j) (fun j => if j < 6 then -1 else T4.2 13 j) = T5
  have hM : RM ln cs (pF T 17 0) (fun _ => -1) (fun _ => -1) T5 := by
    subst eT5
    subst eT4
    refine ⟨((((((Kp.rf _ _ _).pF _ rfl).pF _ rfl).pF _ rfl).pA _ rfl).pA _ rfl), ⟨hl, fun j hj => ⟨(hcs j hj).1, (hcs j hj).2.2⟩⟩, ⟨rfl, rfl⟩, fun k hk => ⟨?_, ?_⟩⟩
    · show (if k < 6 then (-1 : Int32) else _) = -1
      exact if_pos hk
    · show (if k < 6 then (-1 : Int32) else _) = -1
      exact if_pos hk
  have h18 : T5.1 18 = nI 0 := by
    subst eT5
    subst eT4
    rfl
  obtain ⟨n1, hM1, hL1⟩ := RM_nx (N := N) (n := n) hM h18 (Nat.zero_le _) (by omega)
  obtain ⟨r, S2, T2, cnt2, e1, e2, e3⟩ := read_j (n := n) (N := N) (E := fun (S17 : St) (x18 : Int32) =>
          lett (pF S17 24 (S17.1 22)) fun S20 =>
          lett (pF S20 25 (S20.1 23)) fun S21 =>
          if (S21.1 22) ≤ 0 then
            loop1 (fun (k22 : St → Int32 → Option (Int32 × St)) (S23 : St) (x24 : Int32) =>
              if 6 ≤ x24 then
                some (x18, S23)
              else
                (rd (S23.2 12) 6 x24).bind fun x26 =>
                (wr S23 14 6 x24 x26).bind fun S27 =>
                (rd (S27.2 13) 6 x24).bind fun x28 =>
                (wr S27 15 6 x24 x28).bind fun S29 =>
                k22 S29 (x24 + 1)) N S21 0
          else
            some ((-1), S21)) (by omega) ln 0 0 0 (beg S) _ _ _ _ _ (by omega) hC hM1 hL1 (Nat.le_refl _) (Nat.zero_le _) hro N N (by omega) (by omega)
  have eR : f_X5_read_24 N n S = some (r, S2) := by
    unfold f_X5_read_24
    rw [p_begin (by omega), bs_s]
    exact e1
  have eM : ∀ v, (loop1 (bM N n (nI ln) (fun (S17 : St) (x18 : Int32) =>
          lett (pF S17 24 (S17.1 22)) fun S20 =>
          lett (pF S20 25 (S20.1 23)) fun S21 =>
          if (S21.1 22) ≤ 0 then
            loop1 (fun (k22 : St → Int32 → Option (Int32 × St)) (S23 : St) (x24 : Int32) =>
              if 6 ≤ x24 then
                some (x18, S23)
              else
                (rd (S23.2 12) 6 x24).bind fun x26 =>
                (wr S23 14 6 x24 x26).bind fun S27 =>
                (rd (S27.2 13) 6 x24).bind fun x28 =>
                (wr S27 15 6 x24 x28).bind fun S29 =>
                k22 S29 (x24 + 1)) N S21 0
          else
            some ((-1), S21))) N (nxM cs ln 0 T5) (nI 0)) = v → f_X7_tolls N n T = v := by
    intro v hv
    unfold f_X7_tolls
    rw [lett_s, lett_s, lett_s, lett_s]
    rw [eT4]
    refine loop1_run (I := fun i S2 x => x = nI i ∧ S2 = Two T4 12 13 (fun j => if j < i then -1 else T4.2 12 j) (fun j => if j < i then -1 else T4.2 13 j)) (k := 6) ⟨rfl, Two_0 T4 12 13 (fun _ => -1) (fun _ => -1) (by decide)⟩ (by omega) ?_ ?_
    · intro i S2 x hi hI
      obtain ⟨rfl, rfl⟩ := hI
      refine Or.inl ⟨_, _, ⟨rfl, rfl⟩, fun rc => ?_⟩
      have e12 : ∀ F G, (Two T4 12 13 F G).2 12 = F := fun _ _ => rfl
      have e13 : ∀ F G, (Two T4 12 13 F G).2 13 = G := fun _ _ => rfl
      rw [if_neg (show ¬ (6 : Int32) ≤ nI i from nI_ge (b := 6) hi (by decide)), wr_nI hi (by decide), bs_s, e12, Two_a _ _ _ _ (by decide), wr_nI hi (by decide), bs_s, e13, Two_b, nI_1, upd_lt2 (fun _ => -1) (T4.2 12), upd_lt2 (fun _ => -1) (T4.2 13)]
    · intro S2 x hI rc
      obtain ⟨rfl, rfl⟩ := hI
      rw [if_pos (show (6 : Int32) ≤ nI 6 by decide), eT5, hT, n1, bs_s]
      exact hv
  have eM2 := eM _ e2
  rw [lett_s, lett_s] at eM2
  unfold f_X6_tolls f_X3_cutTo
  rw [eR, bd2_s, lett_s, bs_s, eM2]
  obtain ⟨gf, ⟨g1, g2, g3, g4⟩, gt, ga, go⟩ := id hG
  rcases e3 with ⟨rfl, c, pl, hc, ⟨f1, f2, f3⟩, ⟨d1, d2, d3⟩⟩ | ⟨rfl, p2, ct, ck, ra, rb, hr, hC2, hM2⟩
  · -- a fault
    rw [if_pos rfl, if_neg (show ¬ (pF (pF T2 24 (T2.1 22)) 25 ((pF T2 24 (T2.1 22)).1 23)).1 22 ≤ 0 from fun z => by
      have z2 : T2.1 22 ≤ 0 := z
      rw [d2] at z2
      rw [i_lt] at hc
      rw [i_le] at z2
      omega)]
    have ks : Kp pTo qTo S (pF S2 2401 0) := (f1.mono pRd_To qRd_To).pF _ rfl
    have kt : Kp pToM qToM T (pF (pF T2 24 (T2.1 22)) 25 ((pF T2 24 (T2.1 22)).1 23)) := ((((Kp.rf _ _ _).pF (k := 17) 0 rfl).tr (d1.mono pRm_To qRm_To)).pF _ rfl).pF _ rfl
    refine ⟨-1, _, _, rfl, rfl, ⟨0, cs, by omega, rfl, (d1.1 17 rfl).trans rfl, fun j hj => absurd hj (by omega)⟩, ⟨⟨?_, ?_⟩, ⟨?_, ?_, ?_, ?_⟩, ?_, ?_, ?_⟩, ks, kt⟩
    · show S2.1 2603 = T2.1 22
      rw [f2, d2]
    · show S2.1 2604 = T2.1 23
      rw [f3, d3]
    · rw [ks.1 2903 rfl, kt.1 30 rfl]; exact g1
    · rw [ks.1 2904 rfl, kt.1 31 rfl]; exact g2
    · rw [ks.1 2905 rfl, kt.1 32 rfl]; exact g3
    · rw [kt.1 30 rfl]; exact g4
    · show ∀ k, k < 6 → S2.2 30 k = if (0 : Int32) ≤ T2.2 14 k then T2.2 14 k else 0
      rw [f1.2 30 rfl, d1.2 14 rfl]; exact gt
    · show ∀ k, k < 6 → S2.2 31 k = if (0 : Int32) ≤ T2.2 15 k then T2.2 15 k else 0
      rw [f1.2 31 rfl, d1.2 15 rfl]; exact ga
    · rw [ks.2 32 rfl, kt.2 16 rfl]; exact go
  · -- sound
    have q22 : (pF (pF T2 24 (T2.1 22)) 25 ((pF T2 24 (T2.1 22)).1 23)).1 22 ≤ 0 := by
      show T2.1 22 ≤ 0
      rw [hM2.2.2.1.1]
      decide
    rw [if_neg one_ne, if_pos q22, p_adopt (by omega), bs_s, p_copy (by omega)]
    unfold f_X5_clauseCount
    rw [bd2_s]
    have ks : Kp pTo qTo S (Two (pF S2 2401 0) 30 31 (fun j => if j < 6 then mx0 ((pF S2 2401 0).2 27 j) else (pF S2 2401 0).2 30 j) (fun j => if j < 6 then mx0 ((pF S2 2401 0).2 28 j) else (pF S2 2401 0).2 31 j)) := (((hC2.1.mono pRd_To qRd_To).pF _ rfl).pA _ rfl).pA _ rfl
    have kt : Kp pToM qToM T (Two (pF (pF T2 24 (T2.1 22)) 25 ((pF T2 24 (T2.1 22)).1 23)) 14 15 (fun j => if j < 6 then (pF (pF T2 24 (T2.1 22)) 25 ((pF T2 24 (T2.1 22)).1 23)).2 12 j else (pF (pF T2 24 (T2.1 22)) 25 ((pF T2 24 (T2.1 22)).1 23)).2 14 j) (fun j => if j < 6 then (pF (pF T2 24 (T2.1 22)) 25 ((pF T2 24 (T2.1 22)).1 23)).2 13 j else (pF (pF T2 24 (T2.1 22)) 25 ((pF T2 24 (T2.1 22)).1 23)).2 15 j)) := ((((((Kp.rf _ _ _).pF (k := 17) 0 rfl).tr (hM2.1.mono pRm_To qRm_To)).pF _ rfl).pF _ rfl).pA _ rfl).pA _ rfl
    refine ⟨nI cnt2, _, _, ?_, rfl, ⟨0, cs, by omega, rfl, (hM2.1.1 17 rfl).trans rfl, fun j hj => absurd hj (by omega)⟩, ⟨⟨?_, ?_⟩, ⟨?_, ?_, ?_, ?_⟩, ?_, ?_, ?_⟩, ks, kt⟩
    · rw [← hC2.2.2.2.2.1]
      rfl
    · show S2.1 2603 = T2.1 22
      rw [hC2.2.2.2.2.2.1.1, hM2.2.2.1.1]
    · show S2.1 2604 = T2.1 23
      rw [hC2.2.2.2.2.2.1.2, hM2.2.2.1.2]
    · rw [ks.1 2903 rfl, kt.1 30 rfl]; exact g1
    · rw [ks.1 2904 rfl, kt.1 31 rfl]; exact g2
    · rw [ks.1 2905 rfl, kt.1 32 rfl]; exact g3
    · rw [kt.1 30 rfl]; exact g4
    · intro k hk
      show (if k < 6 then mx0 (S2.2 27 k) else S2.2 30 k) = if (0 : Int32) ≤ (if k < 6 then T2.2 12 k else T2.2 14 k) then (if k < 6 then T2.2 12 k else T2.2 14 k) else 0
      rw [if_pos hk, if_pos hk, mx0_eq, (hC2.2.2.2.2.2.2.2 k hk).1, (hM2.2.2.2 k hk).1]
    · intro k hk
      show (if k < 6 then mx0 (S2.2 28 k) else S2.2 31 k) = if (0 : Int32) ≤ (if k < 6 then T2.2 13 k else T2.2 15 k) then (if k < 6 then T2.2 13 k else T2.2 15 k) else 0
      rw [if_pos hk, if_pos hk, mx0_eq, (hC2.2.2.2.2.2.2.2 k hk).2, (hM2.2.2.2 k hk).2]
    · rw [ks.2 32 rfl, kt.2 16 rfl]; exact go
