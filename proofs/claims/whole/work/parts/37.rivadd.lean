-- RIVER: ships, crossers, times; the reference's sorting
theorem ins_cg {s s2 : Nat → Nat} {k v : Nat} (h : ∀ j, j < k → s j = s2 j) : ∀ j, j < k + 1 → ins s k v j = ins s2 k v j := by
  have ep : ∀ m, m ≤ k → plc s v m = plc s2 v m := by
    intro m
    induction m with
    | zero => intro _; rfl
    | succ m ihm =>
      intro hm
      simp only [plc]
      rw [h m (by omega), ihm (by omega)]
  intro j hj
  have p1 := (plc_spec s v k).1
  unfold ins
  rw [← ep k (Nat.le_refl _)]
  by_cases c1 : j < plc s v k
  · rw [if_pos c1, if_pos c1]; exact h j (by omega)
  · rw [if_neg c1, if_neg c1]
    by_cases c2 : j = plc s v k
    · rw [if_pos c2, if_pos c2]
    · rw [if_neg c2, if_neg c2]; exact h (j - 1) (by omega)
theorem plc_uniq {s : Nat → Nat} {v k p : Nat} (hp : p ≤ k) (h1 : ∀ q, p ≤ q → q < k → v < s q) (h2 : p = 0 ∨ s (p - 1) ≤ v) : plc s v k = p := by
  obtain ⟨p1, p2, p3⟩ := plc_spec s v k
  apply Classical.byContradiction
  intro hne
  by_cases hlt : p < plc s v k
  · have a := h1 (plc s v k - 1) (by omega) (by omega)
    have b := p3 (by omega)
    omega
  · have a := p2 (p - 1) (by omega) (by omega)
    rcases h2 with z | z <;> omega
def pNo (_ : Nat) : Bool := false
def q1 (a k : Nat) : Bool := Nat.beq k a
def pSh (k : Nat) : Bool := Nat.beq k 910 || Nat.beq k 918
def qSh (k : Nat) : Bool := Nat.ble 10 k && Nat.ble k 12
/-- sums of comings, set anew -/
theorem Kp.row {P Q : Nat → Bool} {S S2 : St} (h : Kp P Q S S2) {k : Nat} (hk : Q k = false) : S2.2 k = S.2 k := h.2 k hk
def RVr (V : RvT) (S : St) : Prop := S.1 911 = nI V.2.1.1 ∧ (∀ t, t < 241 → S.2 13 t = nI (ctn (fun i => Nat.blt (V.2.1.2 i) t) V.2.1.1)) ∧ (∀ t, t < 241 → S.2 14 t = nI (smn (fun i => if V.2.1.2 i < t then V.2.1.2 i else 0) V.2.1.1)) ∧ S.1 912 = nI V.2.2.1 ∧ S.1 913 = nI V.2.2.2.1 ∧ S.1 914 = nI V.2.2.2.2.1 ∧ S.1 915 = nI V.2.2.2.2.2
theorem RVr_kp {V : RvT} {S S2 : St} {P Q : Nat → Bool} (h : RVr V S) (k : Kp P Q S S2) (hP : P 911 = false ∧ P 912 = false ∧ P 913 = false ∧ P 914 = false ∧ P 915 = false) (hQ : Q 13 = false ∧ Q 14 = false) : RVr V S2 := by
  unfold RVr at h ⊢
  rw [k.1 911 hP.1, k.1 912 hP.2.1, k.1 913 hP.2.2.1, k.1 914 hP.2.2.2.1, k.1 915 hP.2.2.2.2, k.2 13 hQ.1, k.2 14 hQ.2]
  exact h
theorem RVc_r {V : RvT} {S : St} (h : RVc V S) : RVr V S := ⟨h.2.2.2.2.1, h.2.2.2.2.2.1, h.2.2.2.2.2.2.1, h.2.2.2.2.2.2.2.1, h.2.2.2.2.2.2.2.2.1, h.2.2.2.2.2.2.2.2.2.1, h.2.2.2.2.2.2.2.2.2.2⟩
theorem RVc_of {V : RvT} {S : St} (h1 : S.1 910 = nI V.1.1) (h2 : ∀ j, j < V.1.1 → S.2 10 j = nI (V.1.2 j)) (h3 : ∀ j, j ≤ V.1.1 → S.2 11 j = nI (smn V.1.2 j)) (h4 : ∀ t, t < 300 → S.2 12 t = nI (cn V t)) (h : RVr V S) : RVc V S := ⟨h1, h2, h3, h4, h.1, h.2.1, h.2.2.1, h.2.2.2.1, h.2.2.2.2.1, h.2.2.2.2.2.1, h.2.2.2.2.2.2⟩
theorem p_addShip {N n v : Nat} {V : RvT} {S : St} (hv : Vok V) (h : RVc V S) (hc : V.1.1 < 10) (hv2 : v ≤ 239) (hN : 1000 < N) : ∃ S2, f_X1_addShip N n S (nI v) = some (nI V.1.1, S2) ∧ RVc ((V.1.1 + 1, ins V.1.2 V.1.1 v), V.2) S2 ∧ S2.1 918 = 0 ∧ Kp pSh qSh S S2 := by
  have hle := hv.2.2.1
  obtain ⟨h1, h2, h3, h4, -⟩ := id h
  have hr := RVc_r h
  obtain ⟨⟨c, s⟩, W⟩ := V
  dsimp only at h1 h2 h3 h4 hle hc hr ⊢
  unfold f_X1_addShip
  rw [h1]
  refine loop2_q (Q := fun o => ∃ S2, o = some (nI c, S2) ∧ RVc ((c + 1, ins s c v), W) S2 ∧ S2.1 918 = 0 ∧ Kp pSh qSh S S2) (I := fun i S2 x y => x = nI (c - i) ∧ y = nI (c - i) ∧ Kp pNo (q1 10) S S2 ∧ (∀ q, q < c - i → S2.2 10 q = nI (s q)) ∧ (∀ q, c - i < q → q ≤ c → S2.2 10 q = nI (s (q - 1))) ∧ ∀ q, c - i ≤ q → q < c → v < s q) c ?_ ?_ c 0 N S _ _ (by omega) ⟨rfl, rfl, Kp.rf _ _ _, fun q hq => h2 q (by omega), fun q _ _ => by omega, fun q _ _ => by omega⟩ (by omega)
  all_goals
    have tail : ∀ (p : Nat) (S7 : St), p ≤ c → Kp pNo (q1 10) S S7 → (∀ q, q < p → S7.2 10 q = nI (s q)) → (∀ q, p < q → q ≤ c → S7.2 10 q = nI (s (q - 1))) → (∀ q, p ≤ q → q < c → v < s q) → (p = 0 ∨ s (p - 1) ≤ v) → ∃ S2, ((wr S7 10 10 (nI p) (nI v)).bind fun S11 =>
      lett (pF S11 910 ((S11.1 910) + 1)) fun S12 =>
      loop1 (fun (k13 : St → Int32 → Option (Int32 × St)) (S14 : St) (x15 : Int32) =>
        if (S14.1 910) ≤ x15 then
          loop1 (fun (k17 : St → Int32 → Option (Int32 × St)) (S18 : St) (x19 : Int32) =>
            if 300 ≤ x19 then
              lett (pF S18 918 0) fun S21 =>
              some ((S21.1 910) - 1, S21)
            else
              (rd (S18.2 12) 300 x19).bind fun x22 =>
              (wr S18 12 300 x19 (x22 + 1)).bind fun S23 =>
              k17 S23 (x19 + 1)) N S14 (nI v)
        else
          (rd (S14.2 11) 11 x15).bind fun x24 =>
          (rd (S14.2 10) 10 x15).bind fun x25 =>
          (wr S14 11 11 (x15 + 1) (x24 + x25)).bind fun S26 =>
          k13 S26 (x15 + 1)) N S12 0) = some (nI c, S2) ∧ RVc ((c + 1, ins s c v), W) S2 ∧ S2.1 918 = 0 ∧ Kp pSh qSh S S2 := by
      intro p S7 hp k7 a1 a2 a3 a4
      have ep := plc_uniq hp a3 a4
      rw [wr_nI (by omega) (by decide), bs_s, lett_s]
      have e0 : (pA S7 10 (upd (S7.2 10) p (nI v))).1 910 = nI c := (k7.1 910 rfl).trans h1
      rw [e0, nI_1]
      generalize eS12 : pF (pA S7 10 (upd (S7.2 10) p (nI v))) 910 (nI (c + 1)) = S12
      have k12 : Kp pSh qSh S S12 := by
        subst eS12
        exact ((k7.mono (fun _ z => by cases z) (fun k z => by rw [Nat.eq_of_beq_eq_true z]; rfl)).pA _ rfl).pF _ rfl
      have r12 : ∀ j, j < c + 1 → S12.2 10 j = nI (ins s c v j) := by
        subst eS12
        intro j hj
        show upd (S7.2 10) p (nI v) j = _
        unfold ins
        rw [ep]
        by_cases e : j = p
        · rw [e, upd_at, if_neg (by omega), if_pos rfl]
        · rw [upd_ne _ _ e]
          by_cases d : j < p
          · rw [if_pos d]; exact a1 j d
          · rw [if_neg d, if_neg e]; exact a2 j (by omega) (by omega)
      have z12 : S12.1 910 = nI (c + 1) := by
        subst eS12
        rfl
      have y12 : S12.2 11 0 = nI 0 ∧ S12.2 12 = S.2 12 := by
        subst eS12
        refine ⟨?_, ?_⟩
        · show S7.2 11 0 = nI 0
          rw [k7.2 11 rfl]; exact h3 0 (by omega)
        · show S7.2 12 = S.2 12
          exact k7.2 12 rfl
      clear eS12
      refine loop1_q (Q := fun o => ∃ S2, o = some (nI c, S2) ∧ RVc ((c + 1, ins s c v), W) S2 ∧ S2.1 918 = 0 ∧ Kp pSh qSh S S2) (I := fun i S2 x => x = nI i ∧ Kp pNo (q1 11) S12 S2 ∧ ∀ j, j ≤ i → S2.2 11 j = nI (smn (ins s c v) j)) (c + 1) ?_ ?_ (c + 1) 0 N S12 _ (by omega) ⟨rfl, Kp.rf _ _ _, fun j hj => by rw [show j = 0 by omega]; exact y12.1⟩ (by omega)
      · intro i S2 x hi hI rc
        obtain ⟨rfl, k2, b1⟩ := hI
        refine Or.inl ⟨pA S2 11 (upd (S2.2 11) (i + 1) (nI (smn (ins s c v) (i + 1)))), nI (i + 1), ⟨rfl, k2.pA _ rfl, fun j hj => ?_⟩, ?_⟩
        · show upd (S2.2 11) (i + 1) _ j = _
          by_cases e : j = i + 1
          · rw [e, upd_at]
          · rw [upd_ne _ _ e]; exact b1 j (by omega)
        · rw [k2.1 910 rfl, z12, if_neg (show ¬ nI (c + 1) ≤ nI i from nI_ge hi (by omega)), rd_nI (by omega) (by decide), bs_s, rd_nI (by omega) (by decide), bs_s, b1 i (Nat.le_refl _), k2.2 10 rfl, r12 i hi, nI_1, wr_nI (by omega) (by decide), bs_s, nI_add]
          rfl
      · intro S2 x hI rc
        obtain ⟨rfl, k2, b1⟩ := hI
        rw [k2.1 910 rfl, z12, if_pos (show nI (c + 1) ≤ nI (c + 1) from nI_le (Nat.le_refl _) (by omega))]
        have s12 : S2.2 12 = S.2 12 := (k2.2 12 rfl).trans y12.2
        refine loop1_q (Q := fun o => ∃ S2, o = some (nI c, S2) ∧ RVc ((c + 1, ins s c v), W) S2 ∧ S2.1 918 = 0 ∧ Kp pSh qSh S S2) (I := fun i S3 x => x = nI (v + i) ∧ Kp pNo (q1 12) S2 S3 ∧ ∀ t, t < 300 → S3.2 12 t = nI (cn ((c, s), W) t + if v ≤ t ∧ t < v + i then 1 else 0)) (300 - v) ?_ ?_ (300 - v) 0 N S2 _ (by omega) ⟨rfl, Kp.rf _ _ _, fun t ht => by rw [s12, if_neg (by omega)]; exact h4 t ht⟩ (by omega)
        · intro i S3 x hi hI rc
          obtain ⟨rfl, k3, b3⟩ := hI
          refine Or.inl ⟨pA S3 12 (upd (S3.2 12) (v + i) (nI (cn ((c, s), W) (v + i) + 1))), nI (v + i + 1), ⟨rfl, k3.pA _ rfl, fun t ht => ?_⟩, ?_⟩
          · show upd (S3.2 12) (v + i) _ t = _
            by_cases e : t = v + i
            · rw [e, upd_at, if_pos (by omega)]
            · rw [upd_ne _ _ e, b3 t ht]
              by_cases d : v ≤ t ∧ t < v + i
              · rw [if_pos d, if_pos (by omega)]
              · rw [if_neg d, if_neg (by omega)]
          · rw [if_neg (show ¬ (300 : Int32) ≤ nI (v + i) from nI_ge (b := 300) (by omega) (by decide)), rd_nI (by omega) (by decide), bs_s, b3 (v + i) (by omega), if_neg (by omega), Nat.add_zero, nI_1, wr_nI (by omega) (by decide), bs_s, nI_1]
        · intro S3 x hI rc
          obtain ⟨rfl, k3, b3⟩ := hI
          rw [if_pos (show (300 : Int32) ≤ nI (v + (300 - v)) from nI_le (a := 300) (by omega) (by omega)), lett_s]
          have k13 : Kp pSh qSh S S3 := (k12.tr (k2.mono (fun _ z => by cases z) (fun k z => by rw [Nat.eq_of_beq_eq_true z]; rfl))).tr (k3.mono (fun _ z => by cases z) (fun k z => by rw [Nat.eq_of_beq_eq_true z]; rfl))
          have e910 : S3.1 910 = nI (c + 1) := (k3.1 910 rfl).trans ((k2.1 910 rfl).trans z12)
          refine ⟨pF S3 918 0, ?_, ?_, pF_at _ _ _, k13.pF _ rfl⟩
          · show some (S3.1 910 - 1, _) = _
            rw [e910, nI_m1 (by omega)]
            rfl
          · refine RVc_of (V := ((c + 1, ins s c v), W)) e910 ?_ ?_ ?_ (RVr_kp hr (k13.pF (k := 918) 0 rfl) ⟨rfl, rfl, rfl, rfl, rfl⟩ ⟨rfl, rfl⟩)
            · intro j hj
              show S3.2 10 j = _
              rw [k3.2 10 rfl, k2.2 10 rfl]
              exact r12 j hj
            · intro j hj
              show S3.2 11 j = _
              rw [k3.2 11 rfl]
              exact b1 j hj
            · intro t ht
              show S3.2 12 t = _
              rw [b3 t ht]
              congr 1
              have := ctn_ins (fun x => Nat.ble x t) s v c
              show _ = ctn (fun i => Nat.ble (ins s c v i) t) (c + 1)
              rw [this]
              show ctn _ c + _ = ctn _ c + _
              by_cases d : v ≤ t
              · rw [if_pos (by omega), if_pos (Nat.ble_eq.mpr d)]
              · rw [if_neg (by omega), if_neg (fun z => d (Nat.ble_eq.mp z))]
  · intro i S2 x y hi hI rc
    obtain ⟨rfl, rfl, k2, b1, b2, b3⟩ := hI
    rw [lett_s]
    dsimp only
    rw [if_neg (show ¬ nI (c - i) ≤ 0 from nI_nle (by omega) (by omega)), nI_m1 (by omega), rd_nI (by omega) (by decide), bs_s, b1 (c - i - 1) (by omega)]
    have hs1 := hle (c - i - 1) (by omega)
    by_cases d : s (c - i - 1) ≤ v
    · rw [if_pos (show nI (s (c - i - 1)) ≤ nI v from nI_le d (by omega))]
      exact Or.inr (tail (c - i) S2 (by omega) k2 b1 b2 b3 (Or.inr d))
    · rw [if_neg (show ¬ nI (s (c - i - 1)) ≤ nI v from nI_ge (by omega) (by omega)), bs_s, wr_nI (by omega) (by decide), bs_s]
      refine Or.inl ⟨pA S2 10 (upd (S2.2 10) (c - i) (nI (s (c - i - 1)))), nI (c - (i + 1)), nI (c - (i + 1)), ⟨rfl, rfl, k2.pA _ rfl, fun q hq => ?_, fun q hq1 hq2 => ?_, fun q hq1 hq2 => ?_⟩, ?_⟩
      · show upd (S2.2 10) (c - i) _ q = _
        rw [upd_ne _ _ (by omega)]; exact b1 q (by omega)
      · show upd (S2.2 10) (c - i) _ q = _
        by_cases e : q = c - i
        · rw [e, upd_at]
        · rw [upd_ne _ _ e]; exact b2 q (by omega) hq2
      · by_cases e : q = c - i - 1
        · rw [e]; omega
        · exact b3 q (by omega) hq2
      · have e9 : nI (c - i) + (-1) = nI (c - i - 1) := by
          obtain ⟨m, hm⟩ : ∃ m, c - i = m + 1 := ⟨c - i - 1, by omega⟩
          rw [hm, pk_m1]
          rfl
        rw [show c - (i + 1) = c - i - 1 by omega, e9]
  · intro S2 x y hI rc
    obtain ⟨rfl, rfl, k2, b1, b2, b3⟩ := hI
    rw [lett_s]
    dsimp only
    rw [Nat.sub_self] at b1 b2 b3 ⊢
    rw [if_pos (show nI 0 ≤ 0 by decide)]
    exact tail 0 S2 (by omega) k2 b1 b2 b3 (Or.inl rfl)
def pCr (k : Nat) : Bool := Nat.beq k 911 || Nat.beq k 918
def qCr (k : Nat) : Bool := Nat.ble 13 k && Nat.ble k 14
def q1314 (k : Nat) : Bool := Nat.ble 13 k && Nat.ble k 14
theorem p_addCrosser {N n v : Nat} {V : RvT} {S : St} (h : RVc V S) (hc : V.2.1.1 < 30) (hv2 : v ≤ 239) (hN : 1000 < N) : ∃ S2, f_X1_addCrosser N n S (nI v) = some (nI (V.2.1.1 + 1), S2) ∧ RVc (V.1, (V.2.1.1 + 1, fun i => if i = V.2.1.1 then v else V.2.1.2 i), V.2.2) S2 ∧ S2.1 918 = 0 ∧ Kp pCr qCr S S2 := by
  obtain ⟨h1, h2, h3, h4, h5, h6, h7, h8, h9, h10, h11⟩ := id h
  unfold f_X1_addCrosser
  rw [nI_1]
  refine loop1_q (Q := fun o => ∃ S2, o = some (nI (V.2.1.1 + 1), S2) ∧ RVc (V.1, (V.2.1.1 + 1, fun i => if i = V.2.1.1 then v else V.2.1.2 i), V.2.2) S2 ∧ S2.1 918 = 0 ∧ Kp pCr qCr S S2) (I := fun i S2 x => x = nI (v + 1 + i) ∧ Kp pNo q1314 S S2 ∧ (∀ t, t < 241 → S2.2 13 t = nI (ctn (fun i => Nat.blt (V.2.1.2 i) t) V.2.1.1 + if v < t ∧ t < v + 1 + i then 1 else 0)) ∧ ∀ t, t < 241 → S2.2 14 t = nI (smn (fun i => if V.2.1.2 i < t then V.2.1.2 i else 0) V.2.1.1 + if v < t ∧ t < v + 1 + i then v else 0)) (240 - v) ?_ ?_ (240 - v) 0 N S _ (by omega) ⟨rfl, Kp.rf _ _ _, fun t ht => by rw [if_neg (by omega)]; exact h6 t ht, fun t ht => by rw [if_neg (by omega)]; exact h7 t ht⟩ (by omega)
  · intro i S2 x hi hI rc
    obtain ⟨rfl, k2, b1, b2⟩ := hI
    have e14 : ∀ f, (pA S2 13 f).2 14 = S2.2 14 := fun _ => rfl
    generalize et : v + 1 + i = u
    rw [et] at b1 b2
    have hu : u < 241 := by omega
    refine Or.inl ⟨pA (pA S2 13 (upd (S2.2 13) u (nI (ctn (fun i => Nat.blt (V.2.1.2 i) u) V.2.1.1 + 1)))) 14 (upd (S2.2 14) u (nI (smn (fun i => if V.2.1.2 i < u then V.2.1.2 i else 0) V.2.1.1 + v))), nI (u + 1), ⟨by rw [← et]; rfl, (k2.pA _ rfl).pA _ rfl, fun t ht => ?_, fun t ht => ?_⟩, ?_⟩
    · show upd (S2.2 13) u _ t = _
      by_cases e : t = u
      · rw [e, upd_at, if_pos (by omega)]
      · rw [upd_ne _ _ e, b1 t ht]
        by_cases d : v < t ∧ t < u
        · rw [if_pos d, if_pos (by omega)]
        · rw [if_neg d, if_neg (by omega)]
    · show upd (S2.2 14) u _ t = _
      by_cases e : t = u
      · rw [e, upd_at, if_pos (by omega)]
      · rw [upd_ne _ _ e, b2 t ht]
        by_cases d : v < t ∧ t < u
        · rw [if_pos d, if_pos (by omega)]
        · rw [if_neg d, if_neg (by omega)]
    · rw [if_neg (show ¬ nI 241 ≤ nI u from nI_ge hu (by decide)), rd_nI hu (by decide), bs_s, b1 u hu, if_neg (by omega), Nat.add_zero, nI_1, wr_nI hu (by decide), bs_s, e14, rd_nI hu (by decide), bs_s, b2 u hu, if_neg (by omega), nI_add, wr_nI hu (by decide), bs_s, e14, nI_1]
      rfl
  · intro S2 x hI rc
    obtain ⟨rfl, k2, b1, b2⟩ := hI
    rw [if_pos (show nI 241 ≤ nI (v + 1 + (240 - v)) from nI_le (by omega) (by omega)), lett_s, lett_s]
    have kk : Kp pCr qCr S (pF (pF S2 911 (S2.1 911 + 1)) 918 0) := ((k2.mono (fun _ z => by cases z) (fun k z => z)).pF _ rfl).pF _ rfl
    have e11 : S2.1 911 + 1 = nI (V.2.1.1 + 1) := by rw [k2.1 911 rfl, h5, nI_1]
    refine ⟨_, ?_, ?_, pF_at _ _ _, kk⟩
    · show some (S2.1 911 + 1, _) = _
      rw [e11]
    · refine ⟨(kk.1 910 rfl).trans h1, ?_, ?_, ?_, ?_, ?_, ?_, (kk.1 912 rfl).trans h8, (kk.1 913 rfl).trans h9, (kk.1 914 rfl).trans h10, (kk.1 915 rfl).trans h11⟩
      · rw [kk.2 10 rfl]; exact h2
      · rw [kk.2 11 rfl]; exact h3
      · rw [kk.2 12 rfl]; exact h4
      · show S2.1 911 + 1 = _
        exact e11
      · intro t ht
        show S2.2 13 t = nI (ctn (fun i => Nat.blt (if i = V.2.1.1 then v else V.2.1.2 i) t) V.2.1.1 + if Nat.blt (if V.2.1.1 = V.2.1.1 then v else V.2.1.2 V.2.1.1) t then 1 else 0)
        rw [b1 t ht, if_pos (rfl : V.2.1.1 = V.2.1.1), ctn_cg (p := fun i => Nat.blt (if i = V.2.1.1 then v else V.2.1.2 i) t) (q := fun i => Nat.blt (V.2.1.2 i) t) (fun i hi => by rw [if_neg (show ¬ i = V.2.1.1 by omega)])]
        by_cases d : v < t
        · rw [if_pos (by omega), if_pos (Nat.blt_eq.mpr d)]
        · rw [if_neg (by omega), if_neg (fun z => d (Nat.blt_eq.mp z))]
      · intro t ht
        show S2.2 14 t = nI (smn (fun i => if (if i = V.2.1.1 then v else V.2.1.2 i) < t then (if i = V.2.1.1 then v else V.2.1.2 i) else 0) V.2.1.1 + if (if V.2.1.1 = V.2.1.1 then v else V.2.1.2 V.2.1.1) < t then (if V.2.1.1 = V.2.1.1 then v else V.2.1.2 V.2.1.1) else 0)
        rw [b2 t ht, if_pos (rfl : V.2.1.1 = V.2.1.1), smn_cg (p := fun i => if (if i = V.2.1.1 then v else V.2.1.2 i) < t then (if i = V.2.1.1 then v else V.2.1.2 i) else 0) (q := fun i => if V.2.1.2 i < t then V.2.1.2 i else 0) (fun i hi => by rw [if_neg (show ¬ i = V.2.1.1 by omega)])]
        by_cases d : v < t
        · rw [if_pos (by omega), if_pos d]
        · rw [if_neg (by omega), if_neg d]
