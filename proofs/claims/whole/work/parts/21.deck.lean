-- DECK: hulls, anchors, pulls, the train
def Kp (P Q : Nat → Bool) (S S2 : St) : Prop := (∀ k, P k = false → S2.1 k = S.1 k) ∧ ∀ k, Q k = false → S2.2 k = S.2 k
theorem Kp.rf (P Q : Nat → Bool) (S : St) : Kp P Q S S := ⟨fun _ _ => rfl, fun _ _ => rfl⟩
theorem Kp.tr {P Q : Nat → Bool} {S S2 S3 : St} (h : Kp P Q S S2) (h2 : Kp P Q S2 S3) : Kp P Q S S3 := ⟨fun k hk => (h2.1 k hk).trans (h.1 k hk), fun k hk => (h2.2 k hk).trans (h.2 k hk)⟩
theorem Kp.pF {P Q : Nat → Bool} {S S2 : St} (h : Kp P Q S S2) {k : Nat} (v : Int32) (hk : P k = true) : Kp P Q S (pF S2 k v) := ⟨fun j hj => by
  have : j ≠ k := fun e => by rw [e, hk] at hj; cases hj
  rw [pF_ne S2 v this]; exact h.1 j hj, fun j hj => h.2 j hj⟩
theorem Kp.pA {P Q : Nat → Bool} {S S2 : St} (h : Kp P Q S S2) {k : Nat} (f : Nat → Int32) (hk : Q k = true) : Kp P Q S (pA S2 k f) := ⟨fun j hj => h.1 j hj, fun j hj => by
  have : j ≠ k := fun e => by rw [e, hk] at hj; cases hj
  rw [pA_ne S2 f this]; exact h.2 j hj⟩
def pD (k : Nat) : Bool := Nat.ble 100 k && Nat.ble k 199
def qD (k : Nat) : Bool := Nat.ble 2 k && Nat.ble k 8
def pDM (k : Nat) : Bool := [0, 4, 34, 35, 36].contains k
def qDM (k : Nat) : Bool := Nat.ble 1 k && Nat.ble k 5
def bhf (gs : Nat → Nat) : Nat → Nat
  | 0 => 0
  | i + 1 => bhf gs i + gs (i + 1)
def RDx (n : Nat) (bs ws gs : Nat → Nat) (c : Nat) (S T : St) : Prop :=
  (c ≤ 6 ∧ S.1 100 = nI n ∧ T.1 0 = nI n ∧ S.1 108 = nI c ∧ T.1 4 = nI c) ∧ (∀ j, j < n → 1 ≤ bs j ∧ bs j ≤ 1000 ∧ S.2 2 j = nI (bs j) ∧ T.2 1 j = nI (bs j)) ∧ (∀ j, j < n → S.2 3 j = T.2 2 j) ∧ (∀ j, j < 10 → S.2 5 j = T.2 3 j) ∧ (∀ j, j < c → 1 ≤ ws j ∧ ws j ≤ 400 ∧ S.2 6 j = nI (ws j) ∧ T.2 4 j = nI (ws j)) ∧ (∀ j, j < c → S.2 7 j = nI (bhf gs j)) ∧ ∀ j, 1 ≤ j → j < c → 1 ≤ gs j ∧ gs j ≤ 12 ∧ T.2 5 j = nI (gs j)
def RD (n : Nat) (S T : St) : Prop := ∃ (bs ws gs : Nat → Nat) (c : Nat), RDx n bs ws gs c S T
theorem RD_kp {n : Nat} {S S2 T T2 : St} {P Q P' Q' : Nat → Bool} (h : RD n S T) (k1 : Kp P Q S S2) (k2 : Kp P' Q' T T2) (hP : P 100 = false ∧ P 108 = false) (hQ : Q 2 = false ∧ Q 3 = false ∧ Q 5 = false ∧ Q 6 = false ∧ Q 7 = false) (hP' : P' 0 = false ∧ P' 4 = false) (hQ' : Q' 1 = false ∧ Q' 2 = false ∧ Q' 3 = false ∧ Q' 4 = false ∧ Q' 5 = false) : RD n S2 T2 := by
  obtain ⟨bs, ws, gs, c, h⟩ := h
  refine ⟨bs, ws, gs, c, ?_⟩
  unfold RDx at h ⊢
  rw [k1.1 100 hP.1, k1.1 108 hP.2, k1.2 2 hQ.1, k1.2 3 hQ.2.1, k1.2 5 hQ.2.2.1, k1.2 6 hQ.2.2.2.1, k1.2 7 hQ.2.2.2.2, k2.1 0 hP'.1, k2.1 4 hP'.2, k2.2 1 hQ'.1, k2.2 2 hQ'.2.1, k2.2 3 hQ'.2.2.1, k2.2 4 hQ'.2.2.2.1, k2.2 5 hQ'.2.2.2.2]
  exact h
theorem p_hasHull {N n : Nat} {S : St} {a : Int32} (h : S.1 100 = nI n) (hn : 1 ≤ n) : f_X0_hasHull N n S a = some (b01 (nI 0 ≤ a ∧ a ≤ nI (n - 1)), S) := by
  unfold f_X0_hasHull
  rw [h, nI_m1 hn, p_within, bd2_s, zr_b]
  rfl
theorem p_isHull {N n m : Nat} {S : St} {a : Int32} (h : S.1 0 = nI n) (hn : 1 ≤ n) : f_X7_isHull N m S a = some (b01 (nI 0 ≤ a ∧ a ≤ nI (n - 1)), S) := by
  unfold f_X7_isHull
  rw [h, nI_m1 hn, p_in N m S (lo' := 0) (lo := nI 0) (hi := nI (n - 1)) rfl rfl, bd2_s, zr_b]
theorem hull_ix {n : Nat} {a : Int32} (h : nI 0 ≤ a ∧ a ≤ nI (n - 1)) (hn : 1 ≤ n) (hn2 : n ≤ 12) : ∃ j, j < n ∧ a = nI j := by
  obtain ⟨j, -, h2, h3⟩ := rng h.1 h.2 (by omega) (by decide)
  exact ⟨j, by omega, h3⟩
theorem d_hull {N n : Nat} {S T : St} (a1 a2 a3 : Int32) (hn : 1 ≤ n ∧ n ≤ 12) (h : RD n S T) : ∃ (r : Int32) (S2 T2 : St), f_X6_hull N n S a1 a2 a3 = some (r, S2) ∧ f_X7_hull N n T a1 a2 a3 = some (r, T2) ∧ RD n S2 T2 ∧ Kp pD qD S S2 ∧ Kp pDM qDM T T2 := by
  obtain ⟨bs, ws, gs, c, hx⟩ := id h
  obtain ⟨⟨hc, hS0, hT0, hSc, hTc⟩, hb, ha, hp, hw, hbh, hg⟩ := hx
  unfold f_X6_hull f_X7_hull
  rw [p_hasHull hS0 hn.1, p_isHull hT0 hn.1, bd2_s, bd2_s]
  by_cases h1 : nI 0 ≤ a1 ∧ a1 ≤ nI (n - 1)
  · rw [b01_t h1, if_neg one_ne, if_neg one_ne, p_within, p_in N n T (lo' := 1) (hi' := 1000) (lo := 1) (hi := 1000) rfl rfl, bd2_s, bd2_s]
    by_cases h2 : (1 : Int32) ≤ a2 ∧ a2 ≤ 1000
    · rw [b01_t h2, if_neg one_ne, if_neg one_ne, p_within, p_in N n T (lo' := 0) (hi' := 1000) (lo := 0) (hi := 1000) rfl rfl, bd2_s, bd2_s]
      by_cases h3 : (0 : Int32) ≤ a3 ∧ a3 ≤ 1000
      · rw [b01_t h3, if_neg one_ne, if_neg one_ne]
        obtain ⟨j, hj, rfl⟩ := hull_ix h1 hn.1 hn.2
        obtain ⟨v, hv1, hv2, rfl⟩ := rng (a := 1) (m := 1000) h2.1 h2.2 (by decide) (by decide)
        unfold f_X0_setHull
        rw [wr_nI hj (by omega), bs_s, wr_nI hj (by omega), bs_s, bs_s, wr_nI (by omega) (by decide), bs_s, wr_nI (by omega) (by decide), bs_s]
        refine ⟨1, _, _, rfl, rfl, ⟨fun i => if i = j then v else bs i, ws, gs, c, ⟨hc, hS0, hT0, hSc, hTc⟩, ?_, ?_, hp, hw, hbh, hg⟩, ((Kp.rf _ _ _).pA _ rfl).pA _ rfl, ((Kp.rf _ _ _).pA _ rfl).pA _ rfl⟩
        · intro i hi
          show 1 ≤ (if i = j then v else bs i) ∧ (if i = j then v else bs i) ≤ 1000 ∧ upd (S.2 2) j (nI v) i = nI (if i = j then v else bs i) ∧ upd (T.2 1) j (nI v) i = nI (if i = j then v else bs i)
          by_cases e : i = j
          · subst e; rw [if_pos rfl, upd_at, upd_at]; exact ⟨hv1, hv2, rfl, rfl⟩
          · rw [if_neg e, upd_ne _ _ e, upd_ne _ _ e]; exact hb i hi
        · intro i hi
          show upd (S.2 3) j a3 i = upd (T.2 2) j a3 i
          by_cases e : i = j
          · subst e; rw [upd_at, upd_at]
          · rw [upd_ne _ _ e, upd_ne _ _ e]; exact ha i hi
      · rw [b01_f h3, if_pos rfl, if_pos rfl]
        exact ⟨0, S, T, rfl, rfl, h, Kp.rf _ _ _, Kp.rf _ _ _⟩
    · rw [b01_f h2, if_pos rfl, if_pos rfl]
      exact ⟨0, S, T, rfl, rfl, h, Kp.rf _ _ _, Kp.rf _ _ _⟩
  · rw [b01_f h1, if_pos rfl, if_pos rfl]
    exact ⟨0, S, T, rfl, rfl, h, Kp.rf _ _ _, Kp.rf _ _ _⟩
theorem d_pull {N n : Nat} {S T : St} (a1 a2 : Int32) (h : RD n S T) : ∃ (r : Int32) (S2 T2 : St), f_X6_pull N n S a1 a2 = some (r, S2) ∧ f_X7_pull N n T a1 a2 = some (r, T2) ∧ RD n S2 T2 ∧ Kp pD qD S S2 ∧ Kp pDM qDM T T2 := by
  obtain ⟨bs, ws, gs, c, hx⟩ := id h
  obtain ⟨⟨hc, hS0, hT0, hSc, hTc⟩, hb, ha, hp, hw, hbh, hg⟩ := hx
  unfold f_X6_pull f_X7_pull
  rw [p_within, p_in N n T (lo' := 0) (hi' := 9) (lo := 0) (hi := 9) rfl rfl, bd2_s, bd2_s]
  by_cases h1 : (0 : Int32) ≤ a1 ∧ a1 ≤ 9
  · rw [b01_t h1, if_neg one_ne, if_neg one_ne, p_within, p_in N n T (lo' := 0) (hi' := 1000) (lo := 0) (hi := 1000) rfl rfl, bd2_s, bd2_s]
    by_cases h2 : (0 : Int32) ≤ a2 ∧ a2 ≤ 1000
    · rw [b01_t h2, if_neg one_ne, if_neg one_ne]
      obtain ⟨j, -, hj, rfl⟩ := rng (a := 0) (m := 9) h1.1 h1.2 (by decide) (by decide)
      unfold f_X0_setPull
      rw [wr_nI (by omega) (by decide), bs_s, bs_s, wr_nI (by omega) (by decide), bs_s]
      refine ⟨1, _, _, rfl, rfl, ⟨bs, ws, gs, c, ⟨hc, hS0, hT0, hSc, hTc⟩, hb, ha, ?_, hw, hbh, hg⟩, (Kp.rf _ _ _).pA _ rfl, (Kp.rf _ _ _).pA _ rfl⟩
      intro i hi
      show upd (S.2 5) j a2 i = upd (T.2 3) j a2 i
      by_cases e : i = j
      · subst e; rw [upd_at, upd_at]
      · rw [upd_ne _ _ e, upd_ne _ _ e]; exact hp i hi
    · rw [b01_f h2, if_pos rfl, if_pos rfl]
      exact ⟨0, S, T, rfl, rfl, h, Kp.rf _ _ _, Kp.rf _ _ _⟩
  · rw [b01_f h1, if_pos rfl, if_pos rfl]
    exact ⟨0, S, T, rfl, rfl, h, Kp.rf _ _ _, Kp.rf _ _ _⟩
def cntL (f : Nat → Int32) (v : Int32) : Nat → Nat
  | 0 => 0
  | k + 1 => if v ≤ f k then cntL f v k else cntL f v k + 1
theorem cntL_congr {f g : Nat → Int32} {v : Int32} : ∀ k, (∀ j, j < k → f j = g j) → cntL f v k = cntL g v k := by
  intro k
  induction k with
  | zero => intro _; rfl
  | succ k ih => intro h; simp only [cntL]; rw [h k (Nat.lt_succ_self k), ih (fun j hj => h j (by omega))]
theorem d_drags {N n : Nat} {S T : St} (a1 : Int32) (hN : 20 < N) (hn : 1 ≤ n ∧ n ≤ 12) (h : RD n S T) : ∃ (r : Int32), f_X6_drags N n S a1 = some (r, S) ∧ f_X7_drags N n T a1 = some (r, T) := by
  obtain ⟨bs, ws, gs, c, hx⟩ := id h
  obtain ⟨⟨hc, hS0, hT0, hSc, hTc⟩, hb, ha, hp, hw, hbh, hg⟩ := hx
  unfold f_X6_drags f_X7_drags
  rw [p_within, p_in N n T (lo' := 0) (hi' := 9) (lo := 0) (hi := 9) rfl rfl, bd2_s, bd2_s]
  by_cases h1 : (0 : Int32) ≤ a1 ∧ a1 ≤ 9
  · rw [b01_t h1, if_neg one_ne, if_neg one_ne]
    obtain ⟨j, -, hj, rfl⟩ := rng (a := 0) (m := 9) h1.1 h1.2 (by decide) (by decide)
    refine ⟨nI (cntL (S.2 3) (S.2 5 j) n), ?_, ?_⟩
    · have e : f_X0_anchorsBelow N n S (nI j) = some (nI (cntL (S.2 3) (S.2 5 j) n), S) := by
        unfold f_X0_anchorsBelow
        refine loop2_run (I := fun i S2 x y => S2 = S ∧ x = nI (cntL (S.2 3) (S.2 5 j) i) ∧ y = nI i) (k := n) ⟨rfl, rfl, rfl⟩ (by omega) ?_ ?_
        · intro i S2 x y hi hI
          obtain ⟨rfl, rfl, rfl⟩ := hI
          refine Or.inl ⟨_, _, _, ⟨rfl, rfl, rfl⟩, fun rc => ?_⟩
          rw [hS0, if_neg (nI_ge hi (by omega)), rd_nI hi (by omega), bs_s, rd_nI (by omega) (by decide), bs_s]
          simp only [cntL]
          by_cases h2 : S2.2 5 j ≤ S2.2 3 i
          · rw [if_pos h2, if_pos h2, nI_1]
          · rw [if_neg h2, if_neg h2, nI_1, nI_1]
        · intro S2 x y hI rc
          obtain ⟨rfl, rfl, rfl⟩ := hI
          rw [hS0, if_pos (nI_le (Nat.le_refl _) (by omega))]
      rw [e, bd2_s]
    · rw [cntL_congr n ha, hp j (by omega)]
      refine loop2_run (I := fun i S2 x y => S2 = T ∧ x = nI (cntL (T.2 2) (T.2 3 j) i) ∧ y = nI i) (k := n) ⟨rfl, rfl, rfl⟩ (by omega) ?_ ?_
      · intro i S2 x y hi hI
        obtain ⟨rfl, rfl, rfl⟩ := hI
        refine Or.inl ⟨_, _, _, ⟨rfl, rfl, rfl⟩, fun rc => ?_⟩
        rw [hT0, if_neg (nI_ge hi (by omega)), rd_nI (by omega) (by decide), bs_s, rd_nI (by omega) (by decide), bs_s]
        simp only [cntL]
        by_cases h2 : S2.2 3 j ≤ S2.2 2 i
        · rw [if_pos h2, if_pos h2, nI_1]
          show rc S2 (nI _ + nI 0) _ = _
          rw [nI_add]
          rfl
        · rw [if_neg h2, if_neg h2, nI_1, nI_1]
      · intro S2 x y hI rc
        obtain ⟨rfl, rfl, rfl⟩ := hI
        rw [hT0, if_pos (nI_le (Nat.le_refl _) (by omega))]
  · rw [b01_f h1, if_pos rfl, if_pos rfl]
    exact ⟨-1, rfl, rfl⟩
theorem d_clear {N n : Nat} {S T : St} (h : RD n S T) : ∃ (r : Int32) (S2 T2 : St), f_X6_clear N n S = some (r, S2) ∧ f_X7_clear N n T = some (r, T2) ∧ RD n S2 T2 ∧ Kp pD qD S S2 ∧ Kp pDM qDM T T2 := by
  obtain ⟨bs, ws, gs, c, hx⟩ := id h
  obtain ⟨⟨hc, hS0, hT0, hSc, hTc⟩, hb, ha, hp, hw, hbh, hg⟩ := hx
  refine ⟨nI c, pF S 108 0, pF T 4 0, ?_, ?_, ⟨bs, ws, gs, 0, ⟨by omega, hS0, hT0, rfl, rfl⟩, hb, ha, hp, fun j hj => absurd hj (by omega), fun j hj => absurd hj (by omega), fun j _ hj => absurd hj (by omega)⟩, (Kp.rf _ _ _).pF _ rfl, (Kp.rf _ _ _).pF _ rfl⟩
  · unfold f_X6_clear f_X0_dropCarts
    rw [lett_s, bd2_s, hSc]
  · unfold f_X7_clear
    rw [lett_s, hTc]

