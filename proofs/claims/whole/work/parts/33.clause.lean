-- ONE CLAUSE, BOTH
theorem Kp.mono {P Q P' Q' : Nat → Bool} {S S2 : St} (h : Kp P Q S S2) (hP : ∀ k, P k = true → P' k = true) (hQ : ∀ k, Q k = true → Q' k = true) : Kp P' Q' S S2 := ⟨fun k hk => h.1 k (by cases hx : P k with
  | false => rfl
  | true => rw [hP k hx] at hk; cases hk), fun k hk => h.2 k (by cases hx : Q k with
  | false => rfl
  | true => rw [hQ k hx] at hk; cases hk)⟩
def pRd (k : Nat) : Bool := Nat.ble 2602 k && Nat.ble k 2611
def qRd (k : Nat) : Bool := Nat.ble 27 k && Nat.ble k 28
def pRm (k : Nat) : Bool := Nat.ble 18 k && Nat.ble k 23
def qRm (k : Nat) : Bool := Nat.ble 12 k && Nat.ble k 13
theorem pTk_pRd (k : Nat) (h : pTk k = true) : pRd k = true := by
  unfold pTk at h
  unfold pRd
  simp only [Bool.and_eq_true, Nat.ble_eq] at h ⊢
  omega
theorem pTm_pRm (k : Nat) (h : pTm k = true) : pRm k = true := by
  unfold pTm at h
  unfold pRm
  simp only [Bool.and_eq_true, Nat.ble_eq] at h ⊢
  omega
def RC (ln : Nat) (cs : Nat → Nat) (S0 : St) (p due cnt : Nat) (ct ck : Int32) (ra rb : Nat → Int32) (S : St) : Prop := Kp pRd qRd S0 S ∧ TpC ln cs S ∧ S.1 2605 = nI p ∧ S.1 2609 = nI due ∧ S.1 2602 = nI cnt ∧ (S.1 2603 = 0 ∧ S.1 2604 = -1) ∧ (S.1 2610 = ct ∧ S.1 2611 = ck) ∧ ∀ k, k < 6 → S.2 27 k = ra k ∧ S.2 28 k = rb k
def RM (ln : Nat) (cs : Nat → Nat) (T0 : St) (ra rb : Nat → Int32) (T : St) : Prop := Kp pRm qRm T0 T ∧ TpM ln cs T ∧ (T.1 22 = 0 ∧ T.1 23 = -1) ∧ ∀ k, k < 6 → T.2 12 k = ra k ∧ T.2 13 k = rb k
def LdM (ln : Nat) (cs : Nat → Nat) (p : Nat) (T : St) : Prop := T.1 18 = nI (tkQ cs ln p) ∧ T.1 20 = kM (tkK cs ln p) ∧ T.1 19 = nI (tkS cs ln p) ∧ (tkK cs ln p = 3 → T.1 21 = nI (tkV cs ln p)) ∧ (tkK cs ln p = 1 → T.1 21 = 0) ∧ (tkK cs ln p = 2 → T.1 21 = 1)
theorem RC_nx {ln p due cnt : Nat} {cs : Nat → Nat} {S0 S : St} {ct ck : Int32} {ra rb : Nat → Int32} (h : RC ln cs S0 p due cnt ct ck ra rb S) (hp : p ≤ ln) : RC ln cs S0 (tkQ cs ln p) due cnt ct ck ra rb (nxC cs ln p S) ∧ (nxC cs ln p S).1 2606 = nI (tkK cs ln p) ∧ (nxC cs ln p S).1 2607 = nI (tkS cs ln p) ∧ (tkK cs ln p = 3 → (nxC cs ln p S).1 2608 = nI (min (tkV cs ln p) 1000)) := by
  obtain ⟨h1, h2, h3, h4, h5, h6, h7, h8⟩ := h
  rcases nxC_spec cs ln p S with ⟨k1, k2, k3, k4, k5⟩ | z
  · refine ⟨⟨h1.tr (k1.mono pTk_pRd (fun _ z => by cases z)), ⟨h2.1, (k1.1 2401 rfl).trans h2.2.1, ?_⟩, k2, (k1.1 2609 rfl).trans h4, (k1.1 2602 rfl).trans h5, ⟨(k1.1 2603 rfl).trans h6.1, (k1.1 2604 rfl).trans h6.2⟩, ⟨(k1.1 2610 rfl).trans h7.1, (k1.1 2611 rfl).trans h7.2⟩, ?_⟩, k3, k4, k5⟩
    · rw [k1.2 25 rfl]; exact h2.2.2
    · rw [k1.2 27 rfl, k1.2 28 rfl]; exact h8
  · exact absurd (tk_spec cs hp).2.1 z
theorem RM_nx {N n ln p : Nat} {cs : Nat → Nat} {T0 T : St} {ra rb : Nat → Int32} (h : RM ln cs T0 ra rb T) (h18 : T.1 18 = nI p) (hp : p ≤ ln) (hN : 1000 < N) : f_X7_next N n T (nI ln) = some (nxM cs ln p T) ∧ RM ln cs T0 ra rb (nxM cs ln p T) ∧ LdM ln cs p (nxM cs ln p T) := by
  obtain ⟨h1, h2, h3, h4⟩ := h
  obtain ⟨k1, k2, k3, k4, k5, k6, k7⟩ := nxM_spec cs T (tk_spec cs hp).2.1
  refine ⟨p_nextM h2 hp h18 hN, ⟨h1.tr (k1.mono pTm_pRm (fun _ z => by cases z)), ⟨h2.1, ?_⟩, ⟨(k1.1 22 rfl).trans h3.1, (k1.1 23 rfl).trans h3.2⟩, ?_⟩, k2, k3, k4, k5, k6, k7⟩
  · rw [k1.2 11 rfl]; exact h2.2
  · rw [k1.2 12 rfl, k1.2 13 rfl]; exact h4
theorem isD_rng {c : Nat} (h : isD c = true) : 48 ≤ c ∧ c ≤ 57 := by
  unfold isD at h
  simp only [Bool.and_eq_true, Nat.ble_eq] at h
  exact h
theorem tkV_le (cs : Nat → Nat) {ln p : Nat} (hp : p ≤ ln) (h3 : tkK cs ln p = 3) : tkV cs ln p ≤ 1000000 := by
  have h := tk_spec cs hp
  have hx : tkS cs ln p < ln := by
    apply Classical.byContradiction
    intro z
    unfold tkK at h3
    rw [if_neg z] at h3
    cases h3
  have hd : isD (cs (tkS cs ln p)) = true := by
    apply Classical.byContradiction
    intro z
    unfold tkK at h3
    rw [if_pos hx, if_neg z] at h3
    split at h3
    · split at h3
      · cases h3
      · split at h3 <;> cases h3
    · split at h3 <;> cases h3
  have eq : tkQ cs ln p = runE cs ln isD (tkS cs ln p) := by
    unfold tkQ
    rw [if_pos hx, if_pos hd]
  obtain ⟨s1, s2, s3, s4⟩ := runE_spec cs isD h.2.1
  rw [← eq] at s1 s2 s3
  exact dgv_le (e := tkQ cs ln p) (fun j a b => isD_rng (s3 j a b)) _ (by omega)
def FCl (S0 : St) (c : Int32) (pl : Nat) (S : St) : Prop := Kp pRd qRd S0 S ∧ S.1 2603 = c ∧ S.1 2604 = nI pl
def FMd (T0 : St) (c : Int32) (pl : Nat) (T : St) : Prop := Kp pRm qRm T0 T ∧ T.1 22 = c ∧ T.1 23 = nI pl
theorem FCl_of {ln p due cnt pl : Nat} {cs : Nat → Nat} {S0 S : St} {ct ck c : Int32} {ra rb : Nat → Int32} (h : RC ln cs S0 p due cnt ct ck ra rb S) (h7 : S.1 2607 = nI pl) : FCl S0 c pl (pF (pF S 2603 c) 2604 (S.1 2607)) := by
  rw [h7]
  exact ⟨(h.1.pF _ rfl).pF _ rfl, rfl, pF_at _ _ _⟩
theorem FMd_of {ln pl : Nat} {cs : Nat → Nat} {T0 T : St} {c : Int32} {ra rb : Nat → Int32} (h : RM ln cs T0 ra rb T) (h7 : T.1 19 = nI pl) : FMd T0 c pl (FtM T c) := by
  unfold FtM
  rw [h7]
  exact ⟨(h.1.pF _ rfl).pF _ rfl, rfl, pF_at _ _ _⟩
theorem kM_1 {k : Nat} (h : kM k = 1) : k = 1 ∨ k = 2 := by
  unfold kM at h
  split at h
  · exact absurd h (by decide)
  · split at h
    · next z => exact Or.inl z
    · split at h
      · next z => exact Or.inr z
      · split at h
        · exact absurd h (by decide)
        · split at h <;> exact absurd h (by decide)
theorem kM_2 {k : Nat} (h : kM k = 2) : k = 3 := by
  unfold kM at h
  split at h
  · exact absurd h (by decide)
  · split at h
    · exact absurd h (by decide)
    · split at h
      · exact absurd h (by decide)
      · split at h
        · next z => exact z
        · split at h <;> exact absurd h (by decide)
theorem kM_3 {k : Nat} (h : kM k = 3) : k = 4 := by
  unfold kM at h
  split at h
  · exact absurd h (by decide)
  · split at h
    · exact absurd h (by decide)
    · split at h
      · exact absurd h (by decide)
      · split at h
        · exact absurd h (by decide)
        · split at h
          · next z => exact z
          · exact absurd h (by decide)
def rowsOk (ra rb : Nat → Int32) : Prop := ∀ k, k < 6 → (ra k = -1 ∨ (0 : Int32) ≤ ra k) ∧ (rb k = -1 ∨ (0 : Int32) ≤ rb k)
theorem stepG {N n ln p x due cnt : Nat} {cs : Nat → Nat} {S0 S S2 : St} {ct ck : Int32} {ra rb : Nat → Int32} (h : RC ln cs S0 p due cnt ct ck ra rb S) (hp : p ≤ ln) (hx : x ≤ ln) (hN : 1000 < N) (hd : due ≤ 3) (hne : ¬ (tkK cs ln p = 0 ∧ due = 0)) (ht : f_X5_takeToken N n (nxC cs ln p S) = some (0, S2)) (f : Nat) : loop1 (bC N n) (f + 1) S (nI x) = loop1 (bC N n) f S2 (nI (x + 1)) := by
  obtain ⟨hC1, i6, i7, i8⟩ := RC_nx h hp
  rw [stepC h.2.1 hp h.2.2.1 hx hN ht (fun z => by
    rw [i6, hC1.2.2.2.1] at z
    exact hne ⟨(nI_eq (b := 0) (by have := tk_le5 cs ln p; omega) (by decide)).mp z.1, (nI_eq (b := 0) (by omega) (by decide)).mp z.2⟩) f, if_pos rfl]
theorem stepF {N n ln p x due cnt : Nat} {cs : Nat → Nat} {S0 S S2 : St} {ct ck c : Int32} {ra rb : Nat → Int32} (h : RC ln cs S0 p due cnt ct ck ra rb S) (hp : p ≤ ln) (hx : x ≤ ln) (hN : 1000 < N) (hd : due ≤ 3) (hne : ¬ (tkK cs ln p = 0 ∧ due = 0)) (hc : ¬ c = 0) (ht : f_X5_takeToken N n (nxC cs ln p S) = some (c, S2)) (f : Nat) : loop1 (bC N n) (f + 1) S (nI x) = some (0, pF (pF S2 2603 c) 2604 (S2.1 2607)) := by
  obtain ⟨hC1, i6, i7, i8⟩ := RC_nx h hp
  rw [stepC h.2.1 hp h.2.2.1 hx hN ht (fun z => by
    rw [i6, hC1.2.2.2.1] at z
    exact hne ⟨(nI_eq (b := 0) (by have := tk_le5 cs ln p; omega) (by decide)).mp z.1, (nI_eq (b := 0) (by omega) (by decide)).mp z.2⟩) f, if_neg hc]
theorem clause_j {N n ln p x cnt : Nat} {cs : Nat → Nat} {S0 T0 S T : St} {ct0 ck0 : Int32} {ra rb : Nat → Int32} (hC : RC ln cs S0 p 0 cnt ct0 ck0 ra rb S) (hM : RM ln cs T0 ra rb T) (hL : LdM ln cs p T) (hp : p ≤ ln) (hx : x ≤ p) (hk : tkK cs ln p ≠ 0) (hr : rowsOk ra rb) (hN : 1000 < N) :
    (∃ (c : Int32) (pl : Nat) (S2 T2 : St), (0 : Int32) < c ∧ (∀ f, loop1 (bC N n) (f + 4) S (nI x) = some (0, S2)) ∧ f_X7_clause N n T (nI ln) = some T2 ∧ FCl S0 c pl S2 ∧ FMd T0 c pl T2) ∨
    (∃ (p2 : Nat) (ct ck : Int32) (ra2 rb2 : Nat → Int32) (S2 T2 : St), p + 4 ≤ p2 ∧ p2 ≤ ln ∧ rowsOk ra2 rb2 ∧ (∀ f, loop1 (bC N n) (f + 4) S (nI x) = loop1 (bC N n) f S2 (nI (x + 4))) ∧ f_X7_clause N n T (nI ln) = some T2 ∧ RC ln cs S0 p2 0 (cnt + 1) ct ck ra2 rb2 S2 ∧ RM ln cs T0 ra2 rb2 T2 ∧ LdM ln cs p2 T2) := by
  have hl := hC.2.1.1
  have q0 := tk_spec cs hp
  obtain ⟨hC1, i6, i7, i8⟩ := RC_nx hC hp
  have ht0 := take0 (N := N) (n := n) (hC1.2.2.2.1) i6 (tk_le5 cs ln p)
  have ne0 : ¬ (tkK cs ln p = 0 ∧ 0 = 0) := fun z => hk z.1
  by_cases c0 : tkK cs ln p = 1 ∨ tkK cs ln p = 2
  · rw [if_pos c0] at ht0
    have st0 := fun f => stepG (x := x) hC hp (by omega) hN (by decide) ne0 ht0 f
    have hC1' : RC ln cs S0 (tkQ cs ln p) 1 cnt (nI (tkK cs ln p)) ck0 ra rb (pF (pF (nxC cs ln p S) 2610 (nI (tkK cs ln p))) 2609 1) := ⟨(hC1.1.pF _ rfl).pF _ rfl, TpC_F (TpC_F hC1.2.1 _ (by decide)) _ (by decide), hC1.2.2.1, pF_at _ _ _, hC1.2.2.2.2.1, hC1.2.2.2.2.2.1, ⟨rfl, hC1.2.2.2.2.2.2.1.2⟩, hC1.2.2.2.2.2.2.2⟩
    have hT1 : T.1 20 = 1 := by
      rw [hL.2.1]
      rcases c0 with z | z <;> rw [z] <;> rfl
    have hw : T.1 21 = nI (tkK cs ln p - 1) ∧ tkK cs ln p - 1 < 2 ∧ (tkK cs ln p - 1 = 0 ↔ ¬ tkK cs ln p = 2) := by
      rcases c0 with z | z
      · rw [hL.2.2.2.2.1 z, z]; exact ⟨rfl, by decide, by decide⟩
      · rw [hL.2.2.2.2.2 z, z]; exact ⟨rfl, by decide, by decide⟩
    have hw0 : T.1 21 = 0 ↔ ¬ tkK cs ln p = 2 := by
      rw [hw.1, ← hw.2.2]
      exact nI_eq (b := 0) (by omega) (by decide)
    -- the kind
    have hp1 : tkQ cs ln p ≤ ln := q0.2.2.1
    have q1 := tk_spec cs hp1
    have hq1 := q0.2.2.2.2 hk
    obtain ⟨hC2, j6, j7, j8⟩ := RC_nx hC1' hp1
    obtain ⟨n1, hM1, hL1⟩ := RM_nx (n := n) hM hL.1 hp1 hN
    have ht1 := take1 (N := N) (n := n) (v := tkV cs ln (tkQ cs ln p)) (x := if tkK cs ln p = 2 then rb (tkV cs ln (tkQ cs ln p)) else ra (tkV cs ln (tkQ cs ln p))) hC2.2.2.2.1 j6 (tk_le5 cs ln _) j8 hC2.2.2.2.2.2.2.1.1 c0 (fun hv => by rw [(hC2.2.2.2.2.2.2.2 _ hv).1, (hC2.2.2.2.2.2.2.2 _ hv).2])
    have ne1 : ¬ (tkK cs ln (tkQ cs ln p) = 0 ∧ 1 = 0) := fun z => absurd z.2 (by decide)
    by_cases c1 : tkK cs ln (tkQ cs ln p) = 3
    · rw [if_neg (fun z => z c1)] at ht1
      have hv1 := tkV_le cs hp1 c1
      have m20 : (nxM cs ln (tkQ cs ln p) T).1 20 = 2 := by rw [hL1.2.1, c1]; rfl
      have m21 := hL1.2.2.2.1 c1
      by_cases c2 : 6 ≤ tkV cs ln (tkQ cs ln p)
      · rw [if_pos c2] at ht1
        exact Or.inl ⟨3, tkS cs ln (tkQ cs ln p), _, _, by decide, fun f => (st0 (f + 3)).trans (stepF hC1' hp1 (by omega) hN (by decide) ne1 (by decide) ht1 (f + 2)), clC3 hT1 n1 hM1.2.2.1.1 m20 m21 c2 hv1, FCl_of hC2 j7, FMd_of hM1 hL1.2.2.1⟩
      · rw [if_neg c2] at ht1
        have hv6 : tkV cs ln (tkQ cs ln p) < 6 := by omega
        have hrow : (if T.1 21 = 0 then (nxM cs ln (tkQ cs ln p) T).2 12 (tkV cs ln (tkQ cs ln p)) else (nxM cs ln (tkQ cs ln p) T).2 13 (tkV cs ln (tkQ cs ln p))) = (if tkK cs ln p = 2 then rb (tkV cs ln (tkQ cs ln p)) else ra (tkV cs ln (tkQ cs ln p))) := by
          rw [(hM1.2.2.2 _ hv6).1, (hM1.2.2.2 _ hv6).2]
          by_cases z : tkK cs ln p = 2
          · rw [if_pos z, if_neg (fun y => hw0.mp y z)]
          · rw [if_neg z, if_pos (hw0.mpr z)]
        by_cases c3 : (if tkK cs ln p = 2 then rb (tkV cs ln (tkQ cs ln p)) else ra (tkV cs ln (tkQ cs ln p))) = -1
        · rw [if_pos c3] at ht1
          have st1 := fun f => stepG (x := x + 1) hC1' hp1 (by omega) hN (by decide) ne1 ht1 f
          have eD := clD hT1 n1 hM1.2.2.1.1 m20 m21 hv6 hrow (by rw [c3]; decide)
          have hC2' : RC ln cs S0 (tkQ cs ln (tkQ cs ln p)) 2 cnt (nI (tkK cs ln p)) (nI (tkV cs ln (tkQ cs ln p))) ra rb (pF (pF (nxC cs ln (tkQ cs ln p) (pF (pF (nxC cs ln p S) 2610 (nI (tkK cs ln p))) 2609 1)) 2611 (nI (tkV cs ln (tkQ cs ln p)))) 2609 2) := ⟨(hC2.1.pF _ rfl).pF _ rfl, TpC_F (TpC_F hC2.2.1 _ (by decide)) _ (by decide), hC2.2.2.1, pF_at _ _ _, hC2.2.2.2.2.1, hC2.2.2.2.2.2.1, ⟨hC2.2.2.2.2.2.2.1.1, rfl⟩, hC2.2.2.2.2.2.2.2⟩
          have hq2 := q1.2.2.2.2 (by rw [c1]; decide)
          clear ht0 ht1 hrow c3 m21 m20
          generalize pF (pF (nxC cs ln (tkQ cs ln p) (pF (pF (nxC cs ln p S) 2610 (nI (tkK cs ln p))) 2609 1)) 2611 (nI (tkV cs ln (tkQ cs ln p)))) 2609 2 = S3 at *
          generalize nxM cs ln (tkQ cs ln p) T = T1 at *
          generalize tkV cs ln (tkQ cs ln p) = kd at *
          generalize tkQ cs ln p = p1 at *
          -- the amount
          have hp2 : tkQ cs ln p1 ≤ ln := q1.2.2.1
          have q2 := tk_spec cs hp2
          obtain ⟨hC3, l6, l7, l8⟩ := RC_nx hC2' hp2
          obtain ⟨n2, hM2, hL2⟩ := RM_nx (n := n) hM1 hL1.1 hp2 hN
          have ht2 := take2 (N := N) (n := n) (v := tkV cs ln (tkQ cs ln p1)) hC3.2.2.2.1 l6 (tk_le5 cs ln _) l8 hC3.2.2.2.2.2.2.1.1 c0 hC3.2.2.2.2.2.2.1.2 hv6
          have ne2 : ¬ (tkK cs ln (tkQ cs ln p1) = 0 ∧ 2 = 0) := fun z => absurd z.2 (by decide)
          have st2 : ∀ f, loop1 (bC N n) (f + 4) S (nI x) = loop1 (bC N n) (f + 2) S3 (nI (x + 2)) := fun f => (st0 (f + 3)).trans (st1 (f + 2))
          by_cases d1 : tkK cs ln (tkQ cs ln p1) = 3
          · rw [if_neg (fun z => z d1)] at ht2
            have hv2 := tkV_le cs hp2 d1
            have m20 : (nxM cs ln (tkQ cs ln p1) T1).1 20 = 2 := by rw [hL2.2.1, d1]; rfl
            have m21 := hL2.2.2.2.1 d1
            by_cases d2 : tkK cs ln p - 1 ≤ tkV cs ln (tkQ cs ln p1) ∧ tkV cs ln (tkQ cs ln p1) ≤ 999
            · rw [if_pos d2] at ht2
              have st3 := fun f => stepG (x := x + 2) hC2' hp2 (by omega) hN (by decide) ne2 ht2 f
              have hq3 := q2.2.2.2.2 (by rw [d1]; decide)
              have hC3' : RC ln cs S0 (tkQ cs ln (tkQ cs ln p1)) 3 cnt (nI (tkK cs ln p)) (nI kd) (if tkK cs ln p = 2 then ra else upd ra kd (nI (tkV cs ln (tkQ cs ln p1)))) (if tkK cs ln p = 2 then upd rb kd (nI (tkV cs ln (tkQ cs ln p1))) else rb) (if tkK cs ln p = 2 then pF (pA (nxC cs ln (tkQ cs ln p1) S3) 28 (upd ((nxC cs ln (tkQ cs ln p1) S3).2 28) kd (nI (tkV cs ln (tkQ cs ln p1))))) 2609 3 else pF (pA (nxC cs ln (tkQ cs ln p1) S3) 27 (upd ((nxC cs ln (tkQ cs ln p1) S3).2 27) kd (nI (tkV cs ln (tkQ cs ln p1))))) 2609 3) := by
                by_cases z : tkK cs ln p = 2
                · rw [if_pos z, if_pos z, if_pos z]
                  rw [z] at hC3
                  rw [z]
                  refine ⟨(hC3.1.pA _ rfl).pF _ rfl, hC3.2.1, hC3.2.2.1, pF_at _ _ _, hC3.2.2.2.2.1, hC3.2.2.2.2.2.1, hC3.2.2.2.2.2.2.1, fun k hk6 => ⟨(hC3.2.2.2.2.2.2.2 k hk6).1, ?_⟩⟩
                  show upd ((nxC cs ln (tkQ cs ln p1) S3).2 28) kd _ k = upd rb kd _ k
                  by_cases y : k = kd
                  · rw [y, upd_at, upd_at]
                  · rw [upd_ne _ _ y, upd_ne _ _ y]; exact (hC3.2.2.2.2.2.2.2 k hk6).2
                · rw [if_neg z, if_neg z, if_neg z]
                  refine ⟨(hC3.1.pA _ rfl).pF _ rfl, hC3.2.1, hC3.2.2.1, pF_at _ _ _, hC3.2.2.2.2.1, hC3.2.2.2.2.2.1, hC3.2.2.2.2.2.2.1, fun k hk6 => ⟨?_, (hC3.2.2.2.2.2.2.2 k hk6).2⟩⟩
                  show upd ((nxC cs ln (tkQ cs ln p1) S3).2 27) kd _ k = upd ra kd _ k
                  by_cases y : k = kd
                  · rw [y, upd_at, upd_at]
                  · rw [upd_ne _ _ y, upd_ne _ _ y]; exact (hC3.2.2.2.2.2.2.2 k hk6).1
              have hM2' : RM ln cs T0 (if tkK cs ln p = 2 then ra else upd ra kd (nI (tkV cs ln (tkQ cs ln p1)))) (if tkK cs ln p = 2 then upd rb kd (nI (tkV cs ln (tkQ cs ln p1))) else rb) (if tkK cs ln p - 1 = 0 then pA (nxM cs ln (tkQ cs ln p1) T1) 12 (upd ((nxM cs ln (tkQ cs ln p1) T1).2 12) kd (nI (tkV cs ln (tkQ cs ln p1)))) else pA (nxM cs ln (tkQ cs ln p1) T1) 13 (upd ((nxM cs ln (tkQ cs ln p1) T1).2 13) kd (nI (tkV cs ln (tkQ cs ln p1))))) := by
                by_cases z : tkK cs ln p = 2
                · rw [if_pos z, if_pos z, if_neg (fun y => hw.2.2.mp y z)]
                  refine ⟨hM2.1.pA _ rfl, hM2.2.1, hM2.2.2.1, fun k hk6 => ⟨(hM2.2.2.2 k hk6).1, ?_⟩⟩
                  show upd ((nxM cs ln (tkQ cs ln p1) T1).2 13) kd _ k = upd rb kd _ k
                  by_cases y : k = kd
                  · rw [y, upd_at, upd_at]
                  · rw [upd_ne _ _ y, upd_ne _ _ y]; exact (hM2.2.2.2 k hk6).2
                · rw [if_neg z, if_neg z, if_pos (hw.2.2.mpr z)]
                  refine ⟨hM2.1.pA _ rfl, hM2.2.1, hM2.2.2.1, fun k hk6 => ⟨?_, (hM2.2.2.2 k hk6).2⟩⟩
                  show upd ((nxM cs ln (tkQ cs ln p1) T1).2 12) kd _ k = upd ra kd _ k
                  by_cases y : k = kd
                  · rw [y, upd_at, upd_at]
                  · rw [upd_ne _ _ y, upd_ne _ _ y]; exact (hM2.2.2.2 k hk6).1
              have h18 : (if tkK cs ln p - 1 = 0 then pA (nxM cs ln (tkQ cs ln p1) T1) 12 (upd ((nxM cs ln (tkQ cs ln p1) T1).2 12) kd (nI (tkV cs ln (tkQ cs ln p1)))) else pA (nxM cs ln (tkQ cs ln p1) T1) 13 (upd ((nxM cs ln (tkQ cs ln p1) T1).2 13) kd (nI (tkV cs ln (tkQ cs ln p1))))).1 18 = nI (tkQ cs ln (tkQ cs ln p1)) := by
                split <;> exact hL2.1
              have hr2 : rowsOk (if tkK cs ln p = 2 then ra else upd ra kd (nI (tkV cs ln (tkQ cs ln p1)))) (if tkK cs ln p = 2 then upd rb kd (nI (tkV cs ln (tkQ cs ln p1))) else rb) := by
                have u : ∀ (g : Nat → Int32) k, (g k = -1 ∨ (0 : Int32) ≤ g k) → (upd g kd (nI (tkV cs ln (tkQ cs ln p1))) k = -1 ∨ (0 : Int32) ≤ upd g kd (nI (tkV cs ln (tkQ cs ln p1))) k) := by
                  intro g k hg
                  by_cases y : k = kd
                  · rw [y, upd_at]; exact Or.inr (nI_pos' (by omega))
                  · rw [upd_ne _ _ y]; exact hg
                intro k hk6
                by_cases z : tkK cs ln p = 2
                · rw [if_pos z, if_pos z]; exact ⟨(hr k hk6).1, u _ _ (hr k hk6).2⟩
                · rw [if_neg z, if_neg z]; exact ⟨u _ _ (hr k hk6).1, (hr k hk6).2⟩
              -- the semicolon
              have hp3 : tkQ cs ln (tkQ cs ln p1) ≤ ln := q2.2.2.1
              have q3 := tk_spec cs hp3
              obtain ⟨hC4, o6, o7, o8⟩ := RC_nx hC3' hp3
              obtain ⟨n3, hM3, hL3⟩ := RM_nx (n := n) hM2' h18 hp3 hN
              have eE := clE (N := N) (n := n) (T := T) n2 hM2.2.2.1.1 m20 m21 hw.1 hw.2.1 d2 hv6 n3 hM3.2.2.1.1
              have ht3 := take3 (N := N) (n := n) hC4.2.2.2.1 o6 (tk_le5 cs ln _)
              have ne3 : ¬ (tkK cs ln (tkQ cs ln (tkQ cs ln p1)) = 0 ∧ 3 = 0) := fun z => absurd z.2 (by decide)
              have st4 : ∀ f, loop1 (bC N n) (f + 4) S (nI x) = loop1 (bC N n) (f + 1) _ (nI (x + 3)) := fun f => (st2 f).trans (st3 (f + 1))
              by_cases g : tkK cs ln (tkQ cs ln (tkQ cs ln p1)) = 4
              · rw [if_pos g] at ht3
                have st5 := fun f => stepG (x := x + 3) hC3' hp3 (by omega) hN (by decide) ne3 ht3 f
                have hq4 := q3.2.2.2.2 (by rw [g]; decide)
                have hp4 : tkQ cs ln (tkQ cs ln (tkQ cs ln p1)) ≤ ln := q3.2.2.1
                obtain ⟨n4, hM4, hL4⟩ := RM_nx (n := n) hM3 hL3.1 hp4 hN
                rw [if_pos (show (nxM cs ln (tkQ cs ln (tkQ cs ln p1)) _).1 20 = 3 by rw [hL3.2.1, g]; rfl), n4] at eE
                refine Or.inr ⟨_, nI (tkK cs ln p), nI kd, _, _, _, _, ?_, hp4, hr2, fun f => (st4 f).trans (st5 f), eD.trans eE, ?_, hM4, hL4⟩
                · omega
                · refine ⟨(hC4.1.pF _ rfl).pF _ rfl, TpC_F (TpC_F hC4.2.1 _ (by decide)) _ (by decide), hC4.2.2.1, pF_at _ _ _, ?_, hC4.2.2.2.2.2.1, hC4.2.2.2.2.2.2.1, hC4.2.2.2.2.2.2.2⟩
                  rw [← nI_1, ← hC4.2.2.2.2.1]
                  rfl
              · rw [if_neg g] at ht3
                rw [if_neg (show ¬ (nxM cs ln (tkQ cs ln (tkQ cs ln p1)) _).1 20 = 3 from fun z => g (kM_3 (hL3.2.1.symm.trans z)))] at eE
                exact Or.inl ⟨1, _, _, _, by decide, fun f => (st4 f).trans (stepF hC3' hp3 (by omega) hN (by decide) ne3 (by decide) ht3 f), eD.trans eE, FCl_of hC4 o7, FMd_of hM3 hL3.2.2.1⟩
            · rw [if_neg d2] at ht2
              exact Or.inl ⟨3, _, _, _, by decide, fun f => (st2 f).trans (stepF hC2' hp2 (by omega) hN (by decide) ne2 (by decide) ht2 (f + 1)), eD.trans (clD3 n2 hM2.2.2.1.1 m20 m21 hw.1 hw.2.1 hv2 d2), FCl_of hC3 l7, FMd_of hM2 hL2.2.2.1⟩
          · rw [if_pos d1] at ht2
            exact Or.inl ⟨1, _, _, _, by decide, fun f => (st2 f).trans (stepF hC2' hp2 (by omega) hN (by decide) ne2 (by decide) ht2 (f + 1)), eD.trans (clD1 n2 hM2.2.2.1.1 (fun z => d1 (kM_2 (hL2.2.1.symm.trans z)))), FCl_of hC3 l7, FMd_of hM2 hL2.2.2.1⟩
        · rw [if_neg c3] at ht1
          have hx0 : ¬ (if tkK cs ln p = 2 then rb (tkV cs ln (tkQ cs ln p)) else ra (tkV cs ln (tkQ cs ln p))) < 0 := by
            have := hr _ hv6
            rw [i_nlt]
            by_cases z : tkK cs ln p = 2
            · rw [if_pos z] at c3 ⊢; exact this.2.resolve_left c3
            · rw [if_neg z] at c3 ⊢; exact this.1.resolve_left c3
          exact Or.inl ⟨2, tkS cs ln (tkQ cs ln p), _, _, by decide, fun f => (st0 (f + 3)).trans (stepF hC1' hp1 (by omega) hN (by decide) ne1 (by decide) ht1 (f + 2)), clC2 hT1 n1 hM1.2.2.1.1 m20 m21 hv6 hrow hx0, FCl_of hC2 j7, FMd_of hM1 hL1.2.2.1⟩
    · rw [if_pos c1] at ht1
      exact Or.inl ⟨1, tkS cs ln (tkQ cs ln p), _, _, by decide, fun f => (st0 (f + 3)).trans (stepF hC1' hp1 (by omega) hN (by decide) ne1 (by decide) ht1 (f + 2)), clB hT1 n1 hM1.2.2.1.1 (fun z => c1 (kM_2 (hL1.2.1.symm.trans z))), FCl_of hC2 j7, FMd_of hM1 hL1.2.2.1⟩
  · rw [if_neg c0] at ht0
    exact Or.inl ⟨1, tkS cs ln p, _, _, by decide, fun f => stepF hC hp (by omega) hN (by decide) ne0 (by decide) ht0 (f + 3), clA hM.2.2.1.1 (fun z => c0 (kM_1 (hL.2.1.symm.trans z))), FCl_of hC1 i7, FMd_of hM hL.2.2.1⟩
