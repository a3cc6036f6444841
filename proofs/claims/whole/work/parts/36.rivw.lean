-- RIVER: the waits of one opening, both
def RVc (V : RvT) (S : St) : Prop := S.1 910 = nI V.1.1 ∧ (∀ j, j < V.1.1 → S.2 10 j = nI (V.1.2 j)) ∧ (∀ j, j ≤ V.1.1 → S.2 11 j = nI (smn V.1.2 j)) ∧ (∀ t, t < 300 → S.2 12 t = nI (cn V t)) ∧ S.1 911 = nI V.2.1.1 ∧ (∀ t, t < 241 → S.2 13 t = nI (ctn (fun i => Nat.blt (V.2.1.2 i) t) V.2.1.1)) ∧ (∀ t, t < 241 → S.2 14 t = nI (smn (fun i => if V.2.1.2 i < t then V.2.1.2 i else 0) V.2.1.1)) ∧ S.1 912 = nI V.2.2.1 ∧ S.1 913 = nI V.2.2.2.1 ∧ S.1 914 = nI V.2.2.2.2.1 ∧ S.1 915 = nI V.2.2.2.2.2
def RVm (V : RvT) (T : St) : Prop := T.1 7 = nI V.1.1 ∧ T.1 9 = nI V.2.1.1 ∧ (∀ j, j < V.2.1.1 → T.2 7 j = nI (V.2.1.2 j)) ∧ T.2 8 0 = nI V.2.2.1 ∧ T.2 8 1 = nI V.2.2.2.1 ∧ T.2 8 2 = nI V.2.2.2.2.1 ∧ T.2 8 3 = nI V.2.2.2.2.2
def Ord (V : RvT) (T : St) : Prop := ∀ j, j < V.1.1 → T.2 17 j = nI (V.1.2 j)
theorem p_endC {N n j t : Nat} {V : RvT} {S : St} (h : RVc V S) (ht : t < 300) (hj : j ≤ cn V t) : f_X1_endOfOpening N n S (nI j) (nI t) = some (nI (eo V j t), S) := by
  obtain ⟨h1, h2, h3, h4, h5, h6, h7, h8, h9, h10, h11⟩ := h
  unfold f_X1_endOfOpening
  rw [rd_nI ht (by decide), bs_s, h4 t ht, h8, h9, h10, nI_add, pk_sub hj, pk_mul, nI_add, nI_add]
  rfl
theorem p_endM {N n k t : Nat} {V : RvT} {T : St} (h : RVm V T) : f_X7_endOf N n T (nI t) (nI k) = some (nI (t + V.2.2.1 + V.2.2.2.1 * k + V.2.2.2.2.1), T) := by
  obtain ⟨h1, h2, h3, h4, h5, h6, h7⟩ := h
  unfold f_X7_endOf
  rw [show rd (T.2 8) 4 0 = some (nI V.2.2.1) by rw [← h4]; exact rd_nI (j := 0) (by decide) (by decide), bs_s, show rd (T.2 8) 4 1 = some (nI V.2.2.2.1) by rw [← h5]; exact rd_nI (j := 1) (by decide) (by decide), bs_s, show rd (T.2 8) 4 2 = some (nI V.2.2.2.2.1) by rw [← h6]; exact rd_nI (j := 2) (by decide) (by decide), bs_s, nI_add, pk_mul, nI_add, nI_add]
theorem cr_math {b : Nat → Nat} {t en : Nat} (hte : t ≤ en) : ∀ m, (∀ i, i < m → b i ≤ 239) → ctn (fun i => Nat.blt (b i) (min en 240)) m = ctn (fun i => Nat.blt (b i) (min t 240)) m + ctn (fun i => Nat.ble t (b i) && Nat.blt (b i) en) m ∧ smn (fun i => if b i < min en 240 then b i else 0) m = smn (fun i => if b i < min t 240 then b i else 0) m + smn (fun i => if t ≤ b i ∧ b i < en then b i else 0) m ∧ smn (fun i => if t ≤ b i ∧ b i < en then en - b i else 0) m + smn (fun i => if t ≤ b i ∧ b i < en then b i else 0) m = ctn (fun i => Nat.ble t (b i) && Nat.blt (b i) en) m * en := by
  intro m
  induction m with
  | zero => intro _; exact ⟨rfl, rfl, (Nat.zero_mul _).symm⟩
  | succ m ih =>
    intro hb
    obtain ⟨i1, i2, i3⟩ := ih (fun i hi => hb i (by omega))
    have hm := hb m (by omega)
    have f1 : Nat.blt (b m) (min en 240) = true ↔ b m < en := by
      rw [Nat.blt_eq]; omega
    have f2 : Nat.blt (b m) (min t 240) = true ↔ b m < t := by
      rw [Nat.blt_eq]; omega
    have f3 : (Nat.ble t (b m) && Nat.blt (b m) en) = true ↔ (t ≤ b m ∧ b m < en) := by
      rw [Bool.and_eq_true, Nat.ble_eq, Nat.blt_eq]
    simp only [ctn, smn]
    rw [i1, i2]
    by_cases c1 : b m < en
    · by_cases c2 : t ≤ b m
      · rw [if_pos (show b m < min en 240 by omega), if_neg (show ¬ b m < min t 240 by omega), if_pos (show t ≤ b m ∧ b m < en from ⟨c2, c1⟩), if_pos (show t ≤ b m ∧ b m < en from ⟨c2, c1⟩), if_pos (f1.mpr c1), if_neg (fun z => by have := f2.mp z; omega), if_pos (f3.mpr ⟨c2, c1⟩), Nat.succ_mul]
        omega
      · rw [if_pos (show b m < min en 240 by omega), if_pos (show b m < min t 240 by omega), if_neg (show ¬ (t ≤ b m ∧ b m < en) by omega), if_neg (show ¬ (t ≤ b m ∧ b m < en) by omega), if_pos (f1.mpr c1), if_pos (f2.mpr (by omega)), if_neg (fun z => by have := f3.mp z; omega), Nat.add_zero, Nat.add_zero, Nat.add_zero]
        exact ⟨by omega, by omega, i3⟩
    · rw [if_neg (show ¬ b m < min en 240 by omega), if_neg (show ¬ b m < min t 240 by omega), if_neg (show ¬ (t ≤ b m ∧ b m < en) by omega), if_neg (show ¬ (t ≤ b m ∧ b m < en) by omega), if_neg (fun z => by have := f1.mp z; omega), if_neg (fun z => by have := f2.mp z; omega), if_neg (fun z => by have := f3.mp z; omega), Nat.add_zero, Nat.add_zero, Nat.add_zero]
      exact ⟨by omega, by omega, i3⟩
theorem min240 {t : Nat} (ht : t < 2 ^ 31) : (if (240 : Int32) < nI t then (240 : Int32) else nI t) = nI (min t 240) := by
  by_cases h : 240 < t
  · rw [if_pos (show (240 : Int32) < nI t from nI_lt (a := 240) h ht), Nat.min_eq_right (by omega)]; rfl
  · rw [if_neg (show ¬ (240 : Int32) < nI t from nI_nlt (b := t) (a := 240) (by omega) (by decide)), Nat.min_eq_left (by omega)]
theorem p_crw {N n t en : Nat} {V : RvT} {S : St} (hv : Vok V) (h : RVc V S) (hte : t ≤ en) (hen : en ≤ 1000) : f_X1_crosserWaits N n S (nI t) (nI en) = some (nI (crw V t en), S) := by
  obtain ⟨h1, h2, h3, h4, h5, h6, h7, h8, h9, h10, h11⟩ := h
  obtain ⟨m1, m2, m3⟩ := cr_math (b := V.2.1.2) hte V.2.1.1 hv.2.2.2.2.1
  unfold f_X1_crosserWaits
  rw [min240 (by omega), min240 (by omega), rd_nI (show min en 240 < 241 by omega) (by decide), bs_s, rd_nI (show min t 240 < 241 by omega) (by decide), bs_s, rd_nI (show min en 240 < 241 by omega) (by decide), bs_s, rd_nI (show min t 240 < 241 by omega) (by decide), bs_s, h6 _ (show min en 240 < 241 by omega), h6 _ (show min t 240 < 241 by omega), h7 _ (show min en 240 < 241 by omega), h7 _ (show min t 240 < 241 by omega), m1, m2, pk_sub (by omega), pk_sub (by omega), Nat.add_sub_cancel_left, Nat.add_sub_cancel_left, pk_mul, ← m3, pk_sub (by omega), Nat.add_sub_cancel]
  rfl
def tri : Nat → Nat
  | 0 => 0
  | k + 1 => tri k + (k + 1)
theorem tri_eq (k : Nat) : k * (k + 1) / 2 = tri k := by
  have h : ∀ k, k * (k + 1) = 2 * tri k := by
    intro k
    induction k with
    | zero => rfl
    | succ k ih =>
      simp only [tri]
      have e : (k + 1) * (k + 1 + 1) = k * (k + 1) + 2 * (k + 1) := by
        rw [Nat.succ_mul, Nat.mul_add k (k + 1) 1]; omega
      omega
  rw [h]
  omega
theorem smn_split (s : Nat → Nat) (j k : Nat) : smn s (j + k) = smn s j + smn (fun x => s (j + x)) k := by
  induction k with
  | zero => rfl
  | succ k ih =>
    show smn s (j + k) + s (j + k) = smn s j + (smn (fun x => s (j + x)) k + s (j + k))
    omega
theorem shd_eq {V : RvT} (hv : Vok V) {j t : Nat} : ∀ k, j + k ≤ cn V t → shd V j t k + smn (fun x => V.1.2 (j + x)) k = k * (t + V.2.2.1) + V.2.2.2.1 * tri k := by
  intro k
  induction k with
  | zero => intro _; simp [shd, smn, tri]
  | succ k ih =>
    intro hk
    have i1 := ih (by omega)
    have hle : V.1.2 (j + k) ≤ t := (cn_iff hv (by have := cn_le V t; omega)).mpr (by omega)
    show smn _ k + (t + V.2.2.1 + (k + 1) * V.2.2.2.1 - V.1.2 (j + k)) + (smn (fun x => V.1.2 (j + x)) k + V.1.2 (j + k)) = (k + 1) * (t + V.2.2.1) + V.2.2.2.1 * (tri k + (k + 1))
    rw [Nat.succ_mul k (t + V.2.2.1), Nat.mul_add V.2.2.2.1 (tri k) (k + 1), Nat.mul_comm V.2.2.2.1 (k + 1)]
    have e : smn (fun x => t + V.2.2.1 + (x + 1) * V.2.2.2.1 - V.1.2 (j + x)) k = shd V j t k := rfl
    rw [e]
    omega
theorem p_wwC {N n j t : Nat} {V : RvT} {S : St} (hv : Vok V) (h : RVc V S) (ht : t < 300) (hj : j ≤ cn V t) : f_X1_waitsOfOpening N n S (nI j) (nI t) = some (nI (Ww V j t), S) := by
  have hE := p_endC (N := N) (n := n) h ht hj
  have hW := p_crw (N := N) (n := n) hv h (eo_le hv (j := j) (by omega)).1 (Nat.le_trans (eo_le hv (j := j) (show t ≤ 299 by omega)).2 (by decide))
  obtain ⟨h1, h2, h3, h4, h5, h6, h7, h8, h9, h10, h11⟩ := h
  have hc := cn_le V t
  have hc2 := hv.1
  obtain ⟨k, hk⟩ : ∃ k, cn V t = j + k := ⟨cn V t - j, by omega⟩
  have hkk : cn V t - j = k := by omega
  have eS := shd_eq hv (j := j) (t := t) k (by omega)
  unfold f_X1_waitsOfOpening
  rw [rd_nI ht (by decide), bs_s, h4 t ht, rd_nI (show cn V t < 11 by omega) (by decide), bs_s, rd_nI (show j < 11 by omega) (by decide), bs_s, hE, bd2_s, hW, bd2_s, h3 _ hc, h3 j (by omega), h8, h9, h11, pk_sub hj, hkk, hk, smn_split, pk_sub (by omega), Nat.add_sub_cancel_left, nI_1, pk_mul, nI_add, pk_mul, show nI (k * (k + 1)) / 2 = nI (k * (k + 1) / 2) from pk_div (d := 2) (by have : k * (k + 1) ≤ 10 * 11 := Nat.mul_le_mul (by omega) (by omega); omega) (by decide) (by decide), tri_eq, pk_mul, nI_add, ← eS, pk_sub (by omega), Nat.add_sub_cancel, pk_mul, nI_add]
  unfold Ww
  rw [hkk]
theorem p_came {N n t : Nat} {V : RvT} {T : St} (hv : Vok V) (h : RVm V T) (hO : Ord V T) (ht : t ≤ 1000) (hN : 1000 < N) : f_X7_cameBy N n T (nI t) = some (nI (cn V t), T) := by
  have hc := hv.1
  unfold f_X7_cameBy
  refine loop2_run (I := fun i S2 x y => S2 = T ∧ x = nI (ctn (fun i => Nat.ble (V.1.2 i) t) i) ∧ y = nI i) (k := V.1.1) ⟨rfl, rfl, rfl⟩ (by omega) ?_ ?_
  · intro i S2 x y hi hI
    obtain ⟨rfl, rfl, rfl⟩ := hI
    have hs := hv.2.2.1 i hi
    refine Or.inl ⟨_, _, _, ⟨rfl, rfl, rfl⟩, fun rc => ?_⟩
    rw [h.1, if_neg (show ¬ nI V.1.1 ≤ nI i from nI_ge hi (by omega)), rd_nI (by omega) (by decide), bs_s, hO i hi, nI_1]
    simp only [ctn]
    by_cases c : V.1.2 i ≤ t
    · rw [if_neg (show ¬ nI t < nI (V.1.2 i) from nI_nlt c (by omega)), nI_1, if_pos (Nat.ble_eq.mpr c)]
    · rw [if_pos (show nI t < nI (V.1.2 i) from nI_lt (by omega) (by omega)), show ∀ z, nI z + 0 = nI (z + 0) from fun z => nI_add z 0, if_neg (fun z => c (Nat.ble_eq.mp z))]
  · intro S2 x y hI rc
    obtain ⟨rfl, rfl, rfl⟩ := hI
    rw [h.1, if_pos (show nI V.1.1 ≤ nI V.1.1 from nI_le (Nat.le_refl _) (by omega))]
    rfl
theorem p_wwM {N n j t : Nat} {V : RvT} {T : St} (hv : Vok V) (h : RVm V T) (hO : Ord V T) (ht : t < 300) (hj : j ≤ cn V t) (hN : 1000 < N) : f_X7_waitsOf N n T (nI j) (nI t) = some (nI (Ww V j t), T) := by
  have hc := cn_le V t
  have hc2 := hv.1
  have hen := (eo_le hv (j := j) (show t ≤ 299 by omega))
  have hen1 : 1 ≤ eo V j t := by
    unfold eo
    have := hv.2.2.2.2.2.1.1
    omega
  have hm30 := hv.2.2.2.1
  obtain ⟨h1, h2, h3, h4, h5, h6, h7⟩ := id h
  unfold f_X7_waitsOf
  rw [p_came hv h hO (by omega) hN, bd2_s, pk_sub hj]
  refine loop2_run (I := fun i S2 x y => S2 = T ∧ x = nI (V.2.2.2.2.2 * shd V j t i) ∧ y = nI (i + 1)) (k := cn V t - j) ⟨rfl, ?_, rfl⟩ (by omega) ?_ ?_
  · show (0 : Int32) = nI (V.2.2.2.2.2 * 0)
    rw [Nat.mul_zero]; rfl
  · intro i S2 x y hi hI
    obtain ⟨rfl, rfl, rfl⟩ := hI
    have hle : V.1.2 (j + i) ≤ t := (cn_iff hv (by omega)).mpr (by omega)
    refine Or.inl ⟨_, _, _, ⟨rfl, rfl, rfl⟩, fun rc => ?_⟩
    rw [if_neg (show ¬ nI (cn V t - j) < nI (i + 1) from nI_nlt (by omega) (by omega)), show rd (S2.2 8) 4 3 = some (nI V.2.2.2.2.2) by rw [← h7]; exact rd_nI (j := 3) (by decide) (by decide), bs_s, show rd (S2.2 8) 4 0 = some (nI V.2.2.1) by rw [← h4]; exact rd_nI (j := 0) (by decide) (by decide), bs_s, show rd (S2.2 8) 4 1 = some (nI V.2.2.2.1) by rw [← h5]; exact rd_nI (j := 1) (by decide) (by decide), bs_s, nI_add j (i + 1), nI_m1 (by omega), show j + (i + 1) - 1 = j + i by omega, rd_nI (show j + i < 10 by omega) (by decide), bs_s, hO (j + i) (by omega), nI_add, pk_mul, nI_add, pk_sub (by omega), pk_mul, nI_add, nI_1, ← Nat.mul_add]
    rfl
  · intro S2 x y hI rc
    obtain ⟨rfl, rfl, rfl⟩ := hI
    rw [if_pos (show nI (cn V t - j) < nI (cn V t - j + 1) from nI_lt (by omega) (by omega)), p_endM h, bd2_s]
    refine loop2_run (I := fun i S3 x y => S3 = S2 ∧ x = nI (V.2.2.2.2.2 * shd V j t (cn V t - j) + smn (fun i => if t ≤ V.2.1.2 i ∧ V.2.1.2 i < eo V j t then eo V j t - V.2.1.2 i else 0) i) ∧ y = nI i) (k := V.2.1.1) ⟨rfl, rfl, rfl⟩ (by omega) ?_ ?_
    · intro i S3 x y hi hI
      obtain ⟨rfl, rfl, rfl⟩ := hI
      have hb := hv.2.2.2.2.1 i hi
      refine Or.inl ⟨_, _, _, ⟨rfl, rfl, rfl⟩, fun rc => ?_⟩
      have e9 : t + V.2.2.1 + V.2.2.2.1 * (cn V t - j) + V.2.2.2.2.1 = eo V j t := rfl
      rw [h2, if_neg (show ¬ nI V.2.1.1 ≤ nI i from nI_ge hi (by omega)), rd_nI (show i < 30 by omega) (by decide), bs_s, h3 i hi, e9, nI_m1 hen1, p_in N n S3 (lo := nI t) (hi := nI (eo V j t - 1)) rfl rfl, bd2_s, nI_1]
      simp only [smn]
      by_cases c : t ≤ V.2.1.2 i ∧ V.2.1.2 i < eo V j t
      · rw [b01_t (show nI t ≤ nI (V.2.1.2 i) ∧ nI (V.2.1.2 i) ≤ nI (eo V j t - 1) from in_rng c.1 (by omega) (by omega)), if_neg one_ne, rd_nI (show i < 30 by omega) (by decide), bs_s, h3 i hi, pk_sub (by omega), nI_add, if_pos c, Nat.add_assoc]
      · rw [b01_f (fun z => c ⟨(nI_leI (by omega) (by omega)).mp z.1, by have := (nI_leI (by omega) (by omega)).mp z.2; omega⟩), if_pos rfl, show ∀ z, nI z + 0 = nI (z + 0) from fun z => nI_add z 0, if_neg c, Nat.add_assoc]
    · intro S3 x y hI rc
      obtain ⟨rfl, rfl, rfl⟩ := hI
      rw [h2, if_pos (show nI V.2.1.1 ≤ nI V.2.1.1 from nI_le (Nat.le_refl _) (by omega))]
      rfl
