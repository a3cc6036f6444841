-- CLAUSES OF THE REFERENCE
def FtM (T : St) (c : Int32) : St := pF (pF T 22 c) 23 (T.1 19)
theorem p_fails {N n : Nat} {T : St} {c : Int32} (h : T.1 22 = 0) : f_X7_fails N n T c = some (FtM T c) := by
  unfold f_X7_fails
  rw [if_pos h, lett_s, lett_s]
  rfl
theorem FtM22 (T : St) (c : Int32) : (FtM T c).1 22 = c := rfl
theorem clA {N n : Nat} {T : St} {a : Int32} (h0 : T.1 22 = 0) (h : ¬ T.1 20 = 1) : f_X7_clause N n T a = some (FtM T 1) := by
  unfold f_X7_clause
  rw [if_neg h, p_fails h0, bs_s]
theorem clB {N n : Nat} {T T1 : St} {a : Int32} (h : T.1 20 = 1) (hn : f_X7_next N n T a = some T1) (h0 : T1.1 22 = 0) (h2 : ¬ T1.1 20 = 2) : f_X7_clause N n T a = some (FtM T1 1) := by
  unfold f_X7_clause
  rw [if_pos h, hn, bs_s, if_neg h2, p_fails h0, bs_s]
theorem clC3 {N n v : Nat} {T T1 : St} {a : Int32} (h : T.1 20 = 1) (hn : f_X7_next N n T a = some T1) (h0 : T1.1 22 = 0) (h2 : T1.1 20 = 2) (hv : T1.1 21 = nI v) (h6 : 6 ≤ v) (h7 : v ≤ 1000000) : f_X7_clause N n T a = some (FtM T1 3) := by
  have ni : ¬ ((0 : Int32) ≤ nI v ∧ nI v ≤ 5) := fun z => absurd z.2 (nI_ge (a := 5) (by omega) (by omega))
  unfold f_X7_clause
  rw [if_pos h, hn, bs_s, if_pos h2, hv, p_in N n T1 (lo' := 0) (hi' := 5) (lo := 0) (hi := 5) rfl rfl, bd2_s, b01_f ni, lett_s, lett_s]
  dsimp only
  rw [if_pos rfl, p_in N n T1 (lo' := 0) (hi' := 5) (lo := 0) (hi := 5) rfl rfl, bd2_s, b01_f ni, if_pos rfl, p_fails h0, bs_s, FtM22, if_neg (by decide)]
theorem clC2 {N n v : Nat} {T T1 : St} {a x : Int32} (h : T.1 20 = 1) (hn : f_X7_next N n T a = some T1) (h0 : T1.1 22 = 0) (h2 : T1.1 20 = 2) (hv : T1.1 21 = nI v) (h6 : v < 6) (hx : (if T.1 21 = 0 then T1.2 12 v else T1.2 13 v) = x) (hx0 : ¬ x < 0) : f_X7_clause N n T a = some (FtM T1 2) := by
  have ni : ((0 : Int32) ≤ nI v ∧ nI v ≤ 5) := in_rng (a := 0) (m := 5) (by omega) (by omega) (by decide)
  unfold f_X7_clause
  rw [if_pos h, hn, bs_s, if_pos h2, hv, p_in N n T1 (lo' := 0) (hi' := 5) (lo := 0) (hi := 5) rfl rfl, bd2_s, b01_t ni, lett_s, lett_s]
  dsimp only
  rw [if_neg one_ne]
  by_cases hw : T.1 21 = 0
  · rw [if_pos hw] at hx ⊢
    rw [rd_nI h6 (by decide), bs_s, hx, if_neg hx0, p_fails h0, bs_s, FtM22, if_neg (by decide)]
  · rw [if_neg hw] at hx ⊢
    rw [rd_nI h6 (by decide), bs_s, hx, if_neg hx0, p_fails h0, bs_s, FtM22, if_neg (by decide)]
/-- past a kind that may be told -/
def clRest (N n : Nat) (T : St) (x : Int32) (T1 : St) (a1 : Int32) : Option St :=
          (f_X7_next N n T1 a1).bind fun S10 =>
          lett (fun (S14 : St) =>
            if (S14.1 22) ≤ 0 then
              lett (fun (S17 : St) =>
                (f_X7_next N n S17 a1).bind fun S19 =>
                if (S19.1 20) = 3 then
                  (f_X7_next N n S19 a1).bind fun S22 =>
                  some S22
                else
                  (f_X7_fails N n S19 1).bind fun S25 =>
                  some S25) fun j16 =>
              if (T.1 21) = 0 then
                (wr S14 12 6 x (S14.1 21)).bind fun S29 =>
                j16 S29 
              else
                (wr S14 13 6 x (S14.1 21)).bind fun S28 =>
                j16 S28 
            else
              some S14) fun j13 =>
          if (S10.1 20) = 2 then
            bd2 (f_X7_in N n S10 (Int32.toInt64 (S10.1 21)) (Int32.toInt64 (T.1 21)) 999) fun r31 S30 =>
            if r31 = 0 then
              (f_X7_fails N n S30 3).bind fun S33 =>
              j13 S33 
            else
              j13 S30 
          else
            (f_X7_fails N n S10 1).bind fun S36 =>
            j13 S36
theorem clD {N n v : Nat} {T T1 : St} {a x : Int32} (h : T.1 20 = 1) (hn : f_X7_next N n T a = some T1) (h0 : T1.1 22 = 0) (h2 : T1.1 20 = 2) (hv : T1.1 21 = nI v) (h6 : v < 6) (hx : (if T.1 21 = 0 then T1.2 12 v else T1.2 13 v) = x) (hx0 : x < 0) : f_X7_clause N n T a = clRest N n T (nI v) T1 a := by
  have ni : ((0 : Int32) ≤ nI v ∧ nI v ≤ 5) := in_rng (a := 0) (m := 5) (by omega) (by omega) (by decide)
  have ok : ∀ (T' : St), ((bd2 (f_X7_in N n T1 (nI v).toInt64 0 5) fun r43 S42 => if r43 = 0 then ((f_X7_fails N n S42 3).bind fun S45 => some S45) else some S42) = some T') → T' = T1 := by
    intro T' hT
    rw [p_in N n T1 (lo' := 0) (hi' := 5) (lo := 0) (hi := 5) rfl rfl, bd2_s, b01_t ni, if_neg one_ne] at hT
    cases hT
    rfl
  unfold f_X7_clause clRest
  rw [if_pos h, hn, bs_s, if_pos h2, hv, p_in N n T1 (lo' := 0) (hi' := 5) (lo := 0) (hi := 5) rfl rfl, bd2_s, b01_t ni, lett_s, lett_s]
  dsimp only
  rw [if_neg one_ne]
  by_cases hw : T.1 21 = 0
  · rw [if_pos hw] at hx
    rw [if_pos hw]
    rw [rd_nI h6 (by decide), bs_s, hx, if_pos hx0, p_in N n T1 (lo' := 0) (hi' := 5) (lo := 0) (hi := 5) rfl rfl, bd2_s, b01_t ni, if_neg one_ne, h0, if_pos (by decide)]
  · rw [if_neg hw] at hx
    rw [if_neg hw]
    rw [rd_nI h6 (by decide), bs_s, hx, if_pos hx0, p_in N n T1 (lo' := 0) (hi' := 5) (lo := 0) (hi := 5) rfl rfl, bd2_s, b01_t ni, if_neg one_ne, h0, if_pos (by decide)]
theorem clD1 {N n : Nat} {T T1 T2 : St} {x a : Int32} (hn : f_X7_next N n T1 a = some T2) (h0 : T2.1 22 = 0) (h2 : ¬ T2.1 20 = 2) : clRest N n T x T1 a = some (FtM T2 1) := by
  unfold clRest
  rw [hn, bs_s, lett_s]
  dsimp only
  rw [if_neg h2, p_fails h0, bs_s, FtM22, if_neg (by decide)]
theorem clD3 {N n v w : Nat} {T T1 T2 : St} {x a : Int32} (hn : f_X7_next N n T1 a = some T2) (h0 : T2.1 22 = 0) (h2 : T2.1 20 = 2) (hv : T2.1 21 = nI v) (hw : T.1 21 = nI w) (hw2 : w < 2) (hv2 : v ≤ 1000000) (hb : ¬ (w ≤ v ∧ v ≤ 999)) : clRest N n T x T1 a = some (FtM T2 3) := by
  have ni : ¬ (nI w ≤ nI v ∧ nI v ≤ 999) := fun z => hb ⟨(nI_leI (by omega) (by omega)).mp z.1, (nI_leI (a := v) (b := 999) (by omega) (by decide)).mp z.2⟩
  unfold clRest
  rw [hn, bs_s, lett_s]
  dsimp only
  rw [if_pos h2, hv, hw, p_in N n T2 (hi' := 999) (lo := nI w) (hi := 999) rfl rfl, bd2_s, b01_f ni, if_pos rfl, p_fails h0, bs_s, FtM22, if_neg (by decide)]
theorem clE {N n v w ck : Nat} {T T1 T2 T3 : St} {a : Int32} (hn : f_X7_next N n T1 a = some T2) (h0 : T2.1 22 = 0) (h2 : T2.1 20 = 2) (hv : T2.1 21 = nI v) (hw : T.1 21 = nI w) (hw2 : w < 2) (hb : w ≤ v ∧ v ≤ 999) (hck : ck < 6) (hn3 : f_X7_next N n (if w = 0 then pA T2 12 (upd (T2.2 12) ck (nI v)) else pA T2 13 (upd (T2.2 13) ck (nI v))) a = some T3) (h30 : T3.1 22 = 0) : clRest N n T (nI ck) T1 a = if T3.1 20 = 3 then f_X7_next N n T3 a else some (FtM T3 1) := by
  have ni : nI w ≤ nI v ∧ nI v ≤ 999 := in_rng (a := w) (m := 999) hb.1 hb.2 (by decide)
  have fin : ((if T3.1 20 = 3 then (f_X7_next N n T3 a).bind fun S22 => some S22 else (f_X7_fails N n T3 1).bind fun S25 => some S25) : Option St) = if T3.1 20 = 3 then f_X7_next N n T3 a else some (FtM T3 1) := by
    rw [p_fails h30, bs_s]
    congr 1
    cases f_X7_next N n T3 a <;> rfl
  unfold clRest
  rw [hn, bs_s, lett_s]
  dsimp only
  rw [if_pos h2, hv, hw, p_in N n T2 (hi' := 999) (lo := nI w) (hi := 999) rfl rfl, bd2_s, b01_t ni, if_neg one_ne, h0, if_pos (by decide), lett_s]
  dsimp only
  by_cases hz : w = 0
  · rw [if_pos hz] at hn3
    rw [if_pos (show nI w = 0 by rw [hz]; rfl), wr_nI hck (by decide), bs_s, hv, hn3, bs_s]
    exact fin
  · rw [if_neg hz] at hn3
    rw [if_neg (show ¬ nI w = 0 from fun z => hz ((nI_eq (a := w) (b := 0) (by omega) (by decide)).mp z)), wr_nI hck (by decide), bs_s, hv, hn3, bs_s]
    exact fin
