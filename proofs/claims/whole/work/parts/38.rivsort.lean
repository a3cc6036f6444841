-- RIVER: the reference's sorting
theorem p_sorts {N n c : Nat} {a : Nat → Nat} {T : St} (h7 : T.1 7 = nI c) (hc : c ≤ 10) (ha : ∀ j, j < c → T.2 6 j = nI (a j)) (hb : ∀ j, j < c → a j ≤ 239) (hN : 1000 < N) : ∃ T2, f_X7_sorts N n T = some T2 ∧ Kp pNo (q1 17) T T2 ∧ ∀ j, j < c → T2.2 17 j = nI (srt a c j) := by
  unfold f_X7_sorts
  refine loop1_q (Q := fun o => ∃ T2, o = some T2 ∧ Kp pNo (q1 17) T T2 ∧ ∀ j, j < c → T2.2 17 j = nI (srt a c j)) (I := fun i S2 x => x = nI i ∧ Kp pNo (q1 17) T S2 ∧ ∀ j, j < i → S2.2 17 j = nI (srt a i j)) c ?_ ?_ c 0 N T _ (by omega) ⟨rfl, Kp.rf _ _ _, fun j hj => by omega⟩ (by omega)
  · intro i S2 x hi hI rc
    obtain ⟨rfl, k2, b1⟩ := hI
    have hsl := srt_le i (fun j hj => hb j (by omega))
    rw [k2.1 7 rfl, h7, if_neg (show ¬ nI c ≤ nI i from nI_ge hi (by omega))]
    refine Or.inl ?_
    -- the place is found
    have tail : ∀ (p : Nat) (S7 : St), p ≤ i → Kp pNo (q1 17) T S7 → (∀ q, q < p → S7.2 17 q = nI (srt a i q)) → (∀ q, p < q → q ≤ i → S7.2 17 q = nI (srt a i (q - 1))) → (∀ q, p ≤ q → q < i → a i < srt a i q) → (p = 0 ∨ srt a i (p - 1) ≤ a i) → ∃ (S3 : St) (y : Int32), (y = nI (i + 1) ∧ Kp pNo (q1 17) T S3 ∧ ∀ j, j < i + 1 → S3.2 17 j = nI (srt a (i + 1) j)) ∧ ((rd (S7.2 6) 10 (nI i)).bind fun x13 =>
          (wr S7 17 10 (nI p) x13).bind fun S14 =>
          rc S14 (nI i + 1)) = rc S3 y := by
      intro p S7 hp k7 a1 a2 a3 a4
      have ep := plc_uniq hp a3 a4
      rw [rd_nI (by omega) (by decide), bs_s, wr_nI (by omega) (by decide), bs_s, k7.2 6 rfl, ha i hi, nI_1]
      refine ⟨_, _, ⟨rfl, k7.pA _ rfl, fun j hj => ?_⟩, rfl⟩
      show upd (S7.2 17) p (nI (a i)) j = nI (ins (srt a i) i (a i) j)
      unfold ins
      rw [ep]
      by_cases e : j = p
      · rw [e, upd_at, if_neg (by omega), if_pos rfl]
      · rw [upd_ne _ _ e]
        by_cases d : j < p
        · rw [if_pos d]; exact a1 j d
        · rw [if_neg d, if_neg e]; exact a2 j (by omega) (by omega)
    refine loop1_q (Q := fun o => ∃ (S3 : St) (y : Int32), (y = nI (i + 1) ∧ Kp pNo (q1 17) T S3 ∧ ∀ j, j < i + 1 → S3.2 17 j = nI (srt a (i + 1) j)) ∧ o = rc S3 y) (I := fun u S3 y => y = nI (i - u) ∧ Kp pNo (q1 17) T S3 ∧ (∀ q, q < i - u → S3.2 17 q = nI (srt a i q)) ∧ (∀ q, i - u < q → q ≤ i → S3.2 17 q = nI (srt a i (q - 1))) ∧ ∀ q, i - u ≤ q → q < i → a i < srt a i q) i ?_ ?_ i 0 N S2 _ (by omega) ⟨rfl, k2, fun q hq => b1 q (by omega), fun q _ _ => by omega, fun q _ _ => by omega⟩ (by omega)
    · intro u S3 y hu hI rc2
      obtain ⟨rfl, k3, c1, c2, c3⟩ := hI
      rw [lett_s]
      dsimp only
      have hs1 := hsl (i - u - 1) (by omega)
      have ha1 := hb i hi
      rw [if_neg (show ¬ nI (i - u) ≤ 0 from nI_nle (by omega) (by omega)), nI_m1 (by omega), rd_nI (show i - u - 1 < 10 by omega) (by decide), bs_s, rd_nI (show i < 10 by omega) (by decide), bs_s, k3.2 6 rfl, ha i hi, c1 (i - u - 1) (by omega)]
      by_cases d : srt a i (i - u - 1) ≤ a i
      · rw [if_pos (show nI (srt a i (i - u - 1)) ≤ nI (a i) from nI_le d (by omega))]
        have := tail (i - u) S3 (by omega) k3 c1 c2 c3 (Or.inr d)
        rw [k3.2 6 rfl, rd_nI (by omega) (by decide), ha i hi] at this
        exact Or.inr this
      · rw [if_neg (show ¬ nI (srt a i (i - u - 1)) ≤ nI (a i) from nI_ge (by omega) (by omega)), bs_s, wr_nI (by omega) (by decide), bs_s]
        refine Or.inl ⟨pA S3 17 (upd (S3.2 17) (i - u) (nI (srt a i (i - u - 1)))), nI (i - (u + 1)), ⟨rfl, k3.pA _ rfl, fun q hq => ?_, fun q hq1 hq2 => ?_, fun q hq1 hq2 => ?_⟩, ?_⟩
        · show upd (S3.2 17) (i - u) _ q = _
          rw [upd_ne _ _ (by omega)]; exact c1 q (by omega)
        · show upd (S3.2 17) (i - u) _ q = _
          by_cases e : q = i - u
          · rw [e, upd_at]
          · rw [upd_ne _ _ e]; exact c2 q (by omega) hq2
        · by_cases e : q = i - u - 1
          · rw [e]; omega
          · exact c3 q (by omega) hq2
        · have e9 : nI (i - u) + (-1) = nI (i - u - 1) := by
            obtain ⟨m, hm⟩ : ∃ m, i - u = m + 1 := ⟨i - u - 1, by omega⟩
            rw [hm, pk_m1]
            rfl
          rw [show i - (u + 1) = i - u - 1 by omega, e9]
    · intro S3 y hI rc2
      obtain ⟨rfl, k3, c1, c2, c3⟩ := hI
      rw [lett_s]
      dsimp only
      rw [Nat.sub_self] at c1 c2 c3 ⊢
      rw [if_pos (show nI 0 ≤ 0 by decide)]
      exact tail 0 S3 (by omega) k3 c1 c2 c3 (Or.inl rfl)
  · intro S2 x hI rc
    obtain ⟨rfl, k2, b1⟩ := hI
    rw [k2.1 7 rfl, h7, if_pos (show nI c ≤ nI c from nI_le (Nat.le_refl _) (by omega))]
    exact ⟨S2, rfl, k2, b1⟩
