-- RIVER: the class's plan
theorem RVc_kp {V : RvT} {S S2 : St} {P Q : Nat → Bool} (h : RVc V S) (k : Kp P Q S S2) (hP : P 910 = false ∧ P 911 = false ∧ P 912 = false ∧ P 913 = false ∧ P 914 = false ∧ P 915 = false) (hQ : Q 10 = false ∧ Q 11 = false ∧ Q 12 = false ∧ Q 13 = false ∧ Q 14 = false) : RVc V S2 := by
  unfold RVc at h ⊢
  rw [k.1 910 hP.1, k.1 911 hP.2.1, k.1 912 hP.2.2.1, k.1 913 hP.2.2.2.1, k.1 914 hP.2.2.2.2.1, k.1 915 hP.2.2.2.2.2, k.2 10 hQ.1, k.2 11 hQ.2.1, k.2 12 hQ.2.2.1, k.2 13 hQ.2.2.2.1, k.2 14 hQ.2.2.2.2]
  exact h
theorem min300 {t : Nat} (ht : t < 2 ^ 31) : (if (300 : Int32) < nI t then (300 : Int32) else nI t) = nI (min t 300) := by
  by_cases h : 300 < t
  · rw [if_pos (show (300 : Int32) < nI t from nI_lt (a := 300) h ht), Nat.min_eq_right (by omega)]; rfl
  · rw [if_neg (show ¬ (300 : Int32) < nI t from nI_nlt (b := t) (a := 300) (by omega) (by decide)), Nat.min_eq_left (by omega)]
theorem ix301 (p e : Nat) : nI p * 301 + nI e = nI (p * 301 + e) := by
  rw [show nI p * 301 = nI (p * 301) from pk_mul p 301, nI_add]
theorem p_wfrom {N n j t d : Nat} {V : RvT} {G : Nat → Nat → Nat} {S : St} (hv : Vok V) (h : RVc V S) (ht : t < 300) (hj : j < cn V t) (hd : d ≤ 9) (hG : ∀ p e, okv d (G p e)) (h300 : ∀ p, G p 300 = BIG) (hR : ∀ p e, j < p → p < V.1.1 → e ≤ 300 → S.2 15 (p * 301 + e) = cl (G p e)) : f_X1_waitsFrom N n S (nI j) (nI t) = some (cl (opG V G j t), S) := by
  have hw := Ww_le hv (j := j) (show t ≤ 299 by omega)
  have hc := cn_le V t
  have hc2 := hv.1
  have heo := (eo_le hv (j := j) (show t ≤ 299 by omega)).2
  unfold f_X1_waitsFrom
  rw [p_wwC hv h ht (by omega), bd2_s, rd_nI ht (by decide), bs_s, h.2.2.2.1 t ht, h.1]
  unfold opG rsG
  rw [if_pos hj]
  by_cases c : cn V t = V.1.1
  · rw [if_neg (show ¬ nI (cn V t) < nI V.1.1 from nI_nlt (by omega) (by omega)), if_pos c, if_pos (show 0 < BIG by decide)]
    unfold cl
    rw [if_pos (show Ww V j t + 0 < BIG by unfold BIG; omega)]
    rfl
  · rw [if_pos (show nI (cn V t) < nI V.1.1 from nI_lt (by omega) (by omega)), p_endC h ht (by omega), bd2_s, min300 (by omega), ix301, rd_nI (show cn V t * 301 + min (eo V j t) 300 < 3010 by omega) (by decide), bs_s, hR (cn V t) (min (eo V j t) 300) hj (by omega) (by omega), if_neg c]
    have e : G (cn V t) (min (eo V j t) 300) = if eo V j t ≤ 299 then G (cn V t) (eo V j t) else BIG := by
      by_cases a : eo V j t ≤ 299
      · rw [if_pos a, Nat.min_eq_left (by omega)]
      · rw [if_neg a, Nat.min_eq_right (by omega)]; exact h300 _
    rw [← e]
    have hg := hG (cn V t) (min (eo V j t) 300)
    generalize G (cn V t) (min (eo V j t) 300) = x at *
    have hx := okv_le hg (by omega)
    by_cases b : x < BIG
    · rw [if_pos ((cl_lt hx).mpr b), if_pos b]
      have b2 : x ≤ 700000 := by
        rcases hg with z | z
        · omega
        · have : d * 70000 ≤ 9 * 70000 := Nat.mul_le_mul_right _ hd
          omega
      unfold cl
      rw [if_pos b, if_pos (show Ww V j t + x < BIG by unfold BIG; omega), nI_add]
    · rw [if_neg (fun z => b ((cl_lt hx).mp z)), if_neg b]
      rfl
theorem cl_st {a b : Nat} (ha : a ≤ BIG) (hb : b ≤ BIG) : (cl a < cl b ∧ b < BIG ↔ a < b ∧ b < BIG) := by
  unfold cl
  constructor
  · rintro ⟨z, c⟩
    rw [if_pos c] at z
    by_cases d : a < BIG
    · rw [if_pos d] at z
      exact ⟨(nI_ltI (by unfold BIG at d; omega) (by unfold BIG at c; omega)).mp z, c⟩
    · rw [if_neg d] at z
      have := (nI_ltI (a := 1000000000) (b := b) (by decide) (by unfold BIG at c; omega)).mp z
      unfold BIG at c
      omega
  · rintro ⟨z, c⟩
    rw [if_pos c, if_pos (show a < BIG by omega)]
    exact ⟨nI_lt z (by unfold BIG at c; omega), c⟩
theorem mnr_p {g : Nat → Nat} {k : Nat} (b : mnr g k < g (299 - k)) : mnr g (k + 1) = mnr g k ∧ chN g (k + 1) = chN g k := ⟨if_pos b, if_pos b⟩
theorem mnr_n {g : Nat → Nat} {k : Nat} (b : ¬ mnr g k < g (299 - k)) : mnr g (k + 1) = g (299 - k) ∧ chN g (k + 1) = 299 - k := ⟨if_neg b, if_neg b⟩
def pPl (k : Nat) : Bool := Nat.ble 916 k && Nat.ble k 918
def qPl (k : Nat) : Bool := Nat.ble 15 k && Nat.ble k 19
def q1516 (k : Nat) : Bool := Nat.ble 15 k && Nat.ble k 16
/-- one row of the plan -/
theorem p_row {N n j d : Nat} {V : RvT} {G : Nat → Nat → Nat} {S : St} {k2 : St → Int32 → Option St} {z : Int32} (hv : Vok V) (h : RVc V S) (hj : j < V.1.1) (hd : d ≤ 9) (hG : ∀ p e, okv d (G p e)) (h300 : ∀ p, G p 300 = BIG) (hR : ∀ p e, j < p → p < V.1.1 → e ≤ 300 → S.2 15 (p * 301 + e) = cl (G p e)) (hN : 1000 < N) : ∃ S2, loop3 (fun (k15 : St → Int32 → Int32 → Int32 → Option St) (S16 : St) (x17 : Int32) (x18 : Int32) (x19 : Int32) =>
          if x19 < 0 then
            k2 S16 z
          else
            lett (fun (S22 : St) (x23 : Int32) =>
              lett (fun (S26 : St) (x27 : Int32) (x28 : Int32) =>
                (wr S26 15 3010 ((nI j * 301) + x19) x27).bind fun S30 =>
                (wr S30 16 3010 ((nI j * 301) + x19) x28).bind fun S31 =>
                k15 S31 x27 x28 (x19 + (-1))) fun j25 =>
              if 1000000000 ≤ x23 then
                j25 S22 x17 x18
              else
                if x17 < x23 then
                  j25 S22 x17 x18
                else
                  j25 S22 x23 x19) fun j21 =>
            if 300 ≤ x19 then
              j21 S16 1000000000
            else
              (rd (S16.2 10) 10 (nI j)).bind fun x32 =>
              if x19 < x32 then
                j21 S16 1000000000
              else
                bd2 (f_X1_waitsFrom N n S16 (nI j) x19) fun r34 S33 =>
                j21 S33 r34) N S 1000000000 (-1) 300 = k2 S2 z ∧ Kp pNo q1516 S S2 ∧ (∀ e, e ≤ 300 → S2.2 15 (j * 301 + e) = cl (mnr (opG V G j) (300 - e)) ∧ S2.2 16 (j * 301 + e) = ch (opG V G j) (300 - e)) ∧ ∀ p e, p ≠ j → e ≤ 300 → S2.2 15 (p * 301 + e) = S.2 15 (p * 301 + e) ∧ S2.2 16 (p * 301 + e) = S.2 16 (p * 301 + e) := by
  have hc2 := hv.1
  have hg : ∀ t, t ≤ 299 → okv 10 (opG V G j t) := fun t ht => okv_mono (opG_ok hv ht hG) (by omega)
  have hsj := hv.2.2.1 j hj
  generalize eg : opG V G j = g at *
  have hm : ∀ k, mnr g k ≤ BIG := fun k => okv_le (mnr_ok hg k) (by omega)
  refine loop3_q (Q := fun o => ∃ S2, o = k2 S2 z ∧ Kp pNo q1516 S S2 ∧ (∀ e, e ≤ 300 → S2.2 15 (j * 301 + e) = cl (mnr g (300 - e)) ∧ S2.2 16 (j * 301 + e) = ch g (300 - e)) ∧ ∀ p e, p ≠ j → e ≤ 300 → S2.2 15 (p * 301 + e) = S.2 15 (p * 301 + e) ∧ S2.2 16 (p * 301 + e) = S.2 16 (p * 301 + e)) (I := fun u S2 x y w => x = cl (mnr g (u - 1)) ∧ y = ch g (u - 1) ∧ w = nI (301 - u) - 1 ∧ Kp pNo q1516 S S2 ∧ (∀ e, 300 - u < e → e ≤ 300 → S2.2 15 (j * 301 + e) = cl (mnr g (300 - e)) ∧ S2.2 16 (j * 301 + e) = ch g (300 - e)) ∧ (∀ p e, p ≠ j → e ≤ 300 → S2.2 15 (p * 301 + e) = S.2 15 (p * 301 + e) ∧ S2.2 16 (p * 301 + e) = S.2 16 (p * 301 + e)) ∧ u ≤ 301 ∧ (u = 301 → S2.2 15 (j * 301 + 0) = cl (mnr g 300) ∧ S2.2 16 (j * 301 + 0) = ch g 300)) 301 ?_ ?_ 301 0 N S _ _ _ (by omega) ⟨rfl, rfl, by decide, Kp.rf _ _ _, fun e h1 h2 => by omega, fun p e _ _ => ⟨rfl, rfl⟩, by omega, fun h => by omega⟩ (by omega)
  · intro u S2 x y w hu hI rc
    obtain ⟨rfl, rfl, rfl, k, b1, b2, -, -⟩ := hI
    rw [show nI (301 - u) - 1 = nI (300 - u) by rw [nI_m1 (by omega)]; congr 1; omega, if_neg (nI_pos (show 300 - u < 2 ^ 31 by omega)), lett_s]
    dsimp only
    have hS2 : RVc V S2 := RVc_kp h k ⟨rfl, rfl, rfl, rfl, rfl, rfl⟩ ⟨rfl, rfl, rfl, rfl, rfl⟩
    have hix : j * 301 + (300 - u) < 3010 := by omega
    -- writing the chosen numbers
    have wrt : ∀ (a c : Int32), a = cl (mnr g u) → c = ch g u → ∃ (S3 : St) (y1 y2 y3 : Int32), (y1 = cl (mnr g (u + 1 - 1)) ∧ y2 = ch g (u + 1 - 1) ∧ y3 = nI (301 - (u + 1)) - 1 ∧ Kp pNo q1516 S S3 ∧ (∀ e, 300 - (u + 1) < e → e ≤ 300 → S3.2 15 (j * 301 + e) = cl (mnr g (300 - e)) ∧ S3.2 16 (j * 301 + e) = ch g (300 - e)) ∧ (∀ p e, p ≠ j → e ≤ 300 → S3.2 15 (p * 301 + e) = S.2 15 (p * 301 + e) ∧ S3.2 16 (p * 301 + e) = S.2 16 (p * 301 + e)) ∧ u + 1 ≤ 301 ∧ (u + 1 = 301 → S3.2 15 (j * 301 + 0) = cl (mnr g 300) ∧ S3.2 16 (j * 301 + 0) = ch g 300)) ∧ ((wr S2 15 3010 ((nI j * 301) + nI (300 - u)) a).bind fun S30 => (wr S30 16 3010 ((nI j * 301) + nI (300 - u)) c).bind fun S31 => rc S31 a c (nI (300 - u) + (-1))) = rc S3 y1 y2 y3 := by
      intro a c ha hc
      subst ha
      subst hc
      rw [ix301, wr_nI hix (by decide), bs_s, wr_nI hix (by decide), bs_s, m1_eq]
      have e16 : ∀ f, (pA S2 15 f).2 16 = S2.2 16 := fun _ => rfl
      rw [e16]
      refine ⟨_, _, _, _, ⟨rfl, rfl, ?_, (k.pA _ rfl).pA _ rfl, fun e h1 h2 => ⟨?_, ?_⟩, fun p e h1 h2 => ⟨?_, ?_⟩, by omega, fun h301 => ⟨?_, ?_⟩⟩, rfl⟩
      · rw [show 301 - (u + 1) = 300 - u by omega]
      · show upd (S2.2 15) (j * 301 + (300 - u)) _ (j * 301 + e) = _
        by_cases q : e = 300 - u
        · rw [q, upd_at, show 300 - (300 - u) = u by omega]
        · rw [upd_ne _ _ (by omega)]; exact (b1 e (by omega) h2).1
      · show upd (S2.2 16) (j * 301 + (300 - u)) _ (j * 301 + e) = _
        by_cases q : e = 300 - u
        · rw [q, upd_at, show 300 - (300 - u) = u by omega]
        · rw [upd_ne _ _ (by omega)]; exact (b1 e (by omega) h2).2
      · show upd (S2.2 15) (j * 301 + (300 - u)) _ (p * 301 + e) = _
        rw [upd_ne _ _ (by omega)]; exact (b2 p e h1 h2).1
      · show upd (S2.2 16) (j * 301 + (300 - u)) _ (p * 301 + e) = _
        rw [upd_ne _ _ (by omega)]; exact (b2 p e h1 h2).2
      · show upd (S2.2 15) (j * 301 + (300 - u)) _ (j * 301 + 0) = _
        rw [show 300 - u = 0 by omega, upd_at, show u = 300 by omega]
      · show upd (S2.2 16) (j * 301 + (300 - u)) _ (j * 301 + 0) = _
        rw [show 300 - u = 0 by omega, upd_at, show u = 300 by omega]
    refine Or.inl ?_
    by_cases c0 : u = 0
    · subst c0
      rw [if_pos (show (300 : Int32) ≤ nI (300 - 0) by decide), lett_s]
      dsimp only
      rw [if_pos (show (1000000000 : Int32) ≤ 1000000000 by decide)]
      exact wrt _ _ rfl rfl
    · obtain ⟨v, rfl⟩ : ∃ v, u = v + 1 := ⟨u - 1, by omega⟩
      have et : 300 - (v + 1) = 299 - v := by omega
      have hgt := okv_le (hg (299 - v) (by omega)) (by omega)
      have hmv := hm v
      rw [if_neg (show ¬ (300 : Int32) ≤ nI (300 - (v + 1)) from nI_ge (b := 300) (by omega) (by decide)), rd_nI (show j < 10 by omega) (by decide), bs_s, hS2.2.1 j hj, Nat.add_sub_cancel]
      -- after the sum is known
      have key : ∀ x, x = cl (g (299 - v)) → ∃ (S3 : St) (y1 y2 y3 : Int32), (y1 = cl (mnr g (v + 1 + 1 - 1)) ∧ y2 = ch g (v + 1 + 1 - 1) ∧ y3 = nI (301 - (v + 1 + 1)) - 1 ∧ Kp pNo q1516 S S3 ∧ (∀ e, 300 - (v + 1 + 1) < e → e ≤ 300 → S3.2 15 (j * 301 + e) = cl (mnr g (300 - e)) ∧ S3.2 16 (j * 301 + e) = ch g (300 - e)) ∧ (∀ p e, p ≠ j → e ≤ 300 → S3.2 15 (p * 301 + e) = S.2 15 (p * 301 + e) ∧ S3.2 16 (p * 301 + e) = S.2 16 (p * 301 + e)) ∧ v + 1 + 1 ≤ 301 ∧ (v + 1 + 1 = 301 → S3.2 15 (j * 301 + 0) = cl (mnr g 300) ∧ S3.2 16 (j * 301 + 0) = ch g 300)) ∧ (lett (fun (S26 : St) (x27 : Int32) (x28 : Int32) =>
                (wr S26 15 3010 ((nI j * 301) + nI (300 - (v + 1))) x27).bind fun S30 =>
                (wr S30 16 3010 ((nI j * 301) + nI (300 - (v + 1))) x28).bind fun S31 =>
                rc S31 x27 x28 (nI (300 - (v + 1)) + (-1))) fun j25 =>
              if 1000000000 ≤ x then
                j25 S2 (cl (mnr g v)) (ch g v)
              else
                if (cl (mnr g v)) < x then
                  j25 S2 (cl (mnr g v)) (ch g v)
                else
                  j25 S2 x (nI (300 - (v + 1)))) = rc S3 y1 y2 y3 := by
        intro x hx
        subst hx
        rw [lett_s]
        dsimp only
        by_cases a : g (299 - v) < BIG
        · rw [if_neg (fun z => (cl_le hgt).mp z a)]
          by_cases b : mnr g v < g (299 - v)
          · rw [if_pos ((cl_st hmv hgt).mpr ⟨b, a⟩).1]
            refine wrt _ _ ?_ ?_
            · rw [(mnr_p b).1]
            · unfold ch
              rw [(mnr_p b).1, (mnr_p b).2]
          · rw [if_neg (fun z => b ((cl_st hmv hgt).mp ⟨z, a⟩).1)]
            refine wrt _ _ ?_ ?_
            · rw [(mnr_n b).1]
            · unfold ch
              rw [(mnr_n b).1, (mnr_n b).2, if_pos a, et]
        · have a2 : g (299 - v) = BIG := by omega
          rw [if_pos ((cl_le hgt).mpr a)]
          refine wrt _ _ ?_ ?_
          · by_cases b : mnr g v < g (299 - v)
            · rw [(mnr_p b).1]
            · rw [(mnr_n b).1, show mnr g v = g (299 - v) by omega]
          · unfold ch
            by_cases b : mnr g v < g (299 - v)
            · rw [(mnr_p b).1, (mnr_p b).2]
            · rw [(mnr_n b).1, (mnr_n b).2, if_neg a, if_neg (by omega)]
      by_cases c1 : V.1.2 j ≤ 299 - v
      · have hjc : j < cn V (299 - v) := (cn_iff hv hj).mp c1
        rw [if_neg (show ¬ nI (300 - (v + 1)) < nI (V.1.2 j) from nI_nlt (by omega) (by omega))]
        have hf := p_wfrom (N := N) (n := n) (t := 299 - v) hv hS2 (by omega) hjc hd hG h300 (fun p e h1 h2 h3 => ((b2 p e (by omega) h3).1).trans (hR p e h1 h2 h3))
        rw [eg] at hf
        rw [et] at key ⊢
        rw [hf, bd2_s]
        exact key _ rfl
      · rw [if_pos (show nI (300 - (v + 1)) < nI (V.1.2 j) from nI_lt (by omega) (by omega))]
        refine key _ ?_
        have : g (299 - v) = BIG := by
          rw [← eg]
          unfold opG
          rw [if_neg (fun z => c1 ((cn_iff hv hj).mpr z))]
        rw [this]
        rfl
  · intro S2 x y w hI rc
    obtain ⟨rfl, rfl, rfl, k, b1, b2, -, b4⟩ := hI
    rw [if_pos (show nI (301 - 301) - 1 < 0 by decide)]
    refine ⟨S2, rfl, k, fun e he => ?_, b2⟩
    by_cases q : e = 0
    · rw [q]; exact b4 rfl
    · exact b1 e (by omega) he
