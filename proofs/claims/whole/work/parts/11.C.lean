def f_X0_hullCount (N n : Nat) (S : St)  : Option (Int32 × St) :=
  some (S.1 100, S)
set_option maxRecDepth 20000 in
set_option maxHeartbeats 4000000 in
theorem c_X0_hullCount {l : Launch} {D : va_G} {q : Nat → Nat} {n : Nat} {cI cB cZ : ClassId} {adK adV : Nat → Nat} {N : Nat} {S Sz : St} {rz : Int32}  (hf : f_X0_hullCount N n S  = some (rz, Sz)) : Cn l yX0_hullCount cX0_hullCount 1 (some .int) 0 0 D (tyL cI cB cZ) (Fx adK adV) (wC q n cI cB cZ) [.ref (q 1)] S (some (.int rz)) Sz := by
  refine c_of (by decide) fl_wC (Nat.le_of_ble_eq_true rfl) [(0, .ref (q 1))] rfl ?_
  intro p e s m args below meth c K hr hlk hs
  have K : Ok p s m args c cX0_hullCount 1 RX0 D (tyL cI cB cZ) (Aw (wC q n cI cB cZ) s.heap.size) (wC q n cI cB cZ) := K
  unfold f_X0_hullCount at hf
  refine g_aload_n 1 0 K dX0_hullCount_0 rfl rfl rfl ?_
  refine gf_C_1_0 4 K dX0_hullCount_1 rfl ?_
  exact g_iret K hr hlk hf dX0_hullCount_4
def f_X0_cartCount (N n : Nat) (S : St)  : Option (Int32 × St) :=
  some (S.1 108, S)
set_option maxRecDepth 20000 in
set_option maxHeartbeats 4000000 in
theorem c_X0_cartCount {l : Launch} {D : va_G} {q : Nat → Nat} {n : Nat} {cI cB cZ : ClassId} {adK adV : Nat → Nat} {N : Nat} {S Sz : St} {rz : Int32}  (hf : f_X0_cartCount N n S  = some (rz, Sz)) : Cn l yX0_cartCount cX0_cartCount 1 (some .int) 0 0 D (tyL cI cB cZ) (Fx adK adV) (wC q n cI cB cZ) [.ref (q 1)] S (some (.int rz)) Sz := by
  refine c_of (by decide) fl_wC (Nat.le_of_ble_eq_true rfl) [(0, .ref (q 1))] rfl ?_
  intro p e s m args below meth c K hr hlk hs
  have K : Ok p s m args c cX0_cartCount 1 RX0 D (tyL cI cB cZ) (Aw (wC q n cI cB cZ) s.heap.size) (wC q n cI cB cZ) := K
  unfold f_X0_cartCount at hf
  refine g_aload_n 1 0 K dX0_cartCount_0 rfl rfl rfl ?_
  refine gf_C_1_8 4 K dX0_cartCount_1 rfl ?_
  exact g_iret K hr hlk hf dX0_cartCount_4
def f_X6_within (N n : Nat) (S : St) (a1 : Int32) (a2 : Int32) (a3 : Int32) : Option (Int32 × St) :=
  if a1 < a2 then
    zr 0 S
  else
    if a3 < a1 then
      zr 0 S
    else
      zr 1 S
set_option maxRecDepth 20000 in
set_option maxHeartbeats 4000000 in
theorem c_X6_within {l : Launch} {D : va_G} {q : Nat → Nat} {n : Nat} {cI cB cZ : ClassId} {adK adV : Nat → Nat} {N : Nat} {S Sz : St} {rz : Int32} {a1 : Int32} {a2 : Int32} {a3 : Int32} (hf : f_X6_within N n S a1 a2 a3 = some (rz, Sz)) : Cn l yX6_within cX6_within 3 (some .boolean) 0 0 D (tyL cI cB cZ) (Fx adK adV) (wC q n cI cB cZ) [.int a1, .int a2, .int a3] S (some (.int rz)) Sz := by
  refine c_of (by decide) fl_wC (Nat.le_of_ble_eq_true rfl) [(0, .int a1), (1, .int a2), (2, .int a3)] rfl ?_
  intro p e s m args below meth c K hr hlk hs
  have K : Ok p s m args c cX6_within 3 RX6 D (tyL cI cB cZ) (Aw (wC q n cI cB cZ) s.heap.size) (wC q n cI cB cZ) := K
  unfold f_X6_within at hf
  refine g_iload_n 1 0 K dX6_within_0 rfl rfl rfl ?_
  refine g_iload_n 2 1 K dX6_within_1 rfl rfl rfl ?_
  refine g_icmp_lt 14 5 K hf dX6_within_2 (by decide) rfl (fun hf => ?_) (fun hf => ?_)
  · refine g_iconst 15 0 K dX6_within_14 rfl (by decide) ?_
    exact g_zret K hr hlk hf dX6_within_15
  · refine g_iload_n 6 0 K dX6_within_5 rfl rfl rfl ?_
    refine g_iload_n 7 2 K dX6_within_6 rfl rfl rfl ?_
    refine g_icmp_gt 14 10 K hf dX6_within_7 (by decide) rfl (fun hf => ?_) (fun hf => ?_)
    · refine g_iconst 15 0 K dX6_within_14 rfl (by decide) ?_
      exact g_zret K hr hlk hf dX6_within_15
    · refine g_iconst 11 1 K dX6_within_10 rfl (by decide) ?_
      refine g_goto 15 K dX6_within_11 (by decide) ?_
      exact g_zret K hr hlk hf dX6_within_15
def f_X0_hasHull (N n : Nat) (S : St) (a1 : Int32) : Option (Int32 × St) :=
  bd2 (f_X6_within N n S a1 0 ((S.1 100) - 1)) fun r2 S1 =>
  zr r2 S1
set_option maxRecDepth 20000 in
set_option maxHeartbeats 4000000 in
theorem c_X0_hasHull {l : Launch} {D : va_G} {q : Nat → Nat} {n : Nat} {cI cB cZ : ClassId} {adK adV : Nat → Nat} {N : Nat} {S Sz : St} {rz : Int32} {a1 : Int32} (hf : f_X0_hasHull N n S a1 = some (rz, Sz)) : Cn l yX0_hasHull cX0_hasHull 2 (some .boolean) 1 22 D (tyL cI cB cZ) (Fx adK adV) (wC q n cI cB cZ) [.ref (q 1), .int a1] S (some (.int rz)) Sz := by
  refine c_of (by decide) fl_wC (Nat.le_of_ble_eq_true rfl) [(0, .ref (q 1)), (1, .int a1)] rfl ?_
  intro p e s m args below meth c K hr hlk hs
  have K : Ok p s m args c cX0_hasHull 2 RX0 D (tyL cI cB cZ) (Aw (wC q n cI cB cZ) s.heap.size) (wC q n cI cB cZ) := K
  unfold f_X0_hasHull at hf
  refine g_iload_n 1 1 K dX0_hasHull_0 rfl rfl rfl ?_
  refine g_iconst 2 0 K dX0_hasHull_1 rfl (by decide) ?_
  refine g_aload_n 3 0 K dX0_hasHull_2 rfl rfl rfl ?_
  refine gf_C_1_0 6 K dX0_hasHull_3 rfl ?_
  refine g_iconst 7 1 K dX0_hasHull_6 rfl (by decide) ?_
  refine g_isub 8 K dX0_hasHull_7 rfl ?_
  obtain ⟨r2, S1, hc3, hf⟩ := bd2_some hf
  refine g_callSNi 11 [] K (Fx_ok adK adV) hs (c_X6_within hc3) hs.1.1 kt_X6_within ki_X6 kC_X6_within mw_X6_within ⟨by decide, by decide, by decide, by decide⟩ rfl rfl (Nat.le_of_ble_eq_true rfl) dX0_hasHull_8 rfl ?_
  exact g_zret K hr hlk hf dX0_hasHull_11
def f_X0_setHull (N n : Nat) (S : St) (a1 : Int32) (a2 : Int32) (a3 : Int32) : Option St :=
  (wr S 2 n a1 a2).bind fun S1 =>
  (wr S1 3 n a1 a3).bind fun S2 =>
  some S2
set_option maxRecDepth 20000 in
set_option maxHeartbeats 4000000 in
theorem c_X0_setHull {l : Launch} {D : va_G} {q : Nat → Nat} {n : Nat} {cI cB cZ : ClassId} {adK adV : Nat → Nat} {N : Nat} {S Sz : St} {a1 : Int32} {a2 : Int32} {a3 : Int32} (hf : f_X0_setHull N n S a1 a2 a3 = some Sz) : Cn l yX0_setHull cX0_setHull 4 none 0 0 D (tyL cI cB cZ) (Fx adK adV) (wC q n cI cB cZ) [.ref (q 1), .int a1, .int a2, .int a3] S none Sz := by
  refine c_of (by decide) fl_wC (Nat.le_of_ble_eq_true rfl) [(0, .ref (q 1)), (1, .int a1), (2, .int a2), (3, .int a3)] rfl ?_
  intro p e s m args below meth c K hr hlk hs
  have K : Ok p s m args c cX0_setHull 4 RX0 D (tyL cI cB cZ) (Aw (wC q n cI cB cZ) s.heap.size) (wC q n cI cB cZ) := K
  unfold f_X0_setHull at hf
  refine g_aload_n 1 0 K dX0_setHull_0 rfl rfl rfl ?_
  refine gf_C_1_1 4 K dX0_setHull_1 rfl ?_
  refine g_iload_n 5 1 K dX0_setHull_4 rfl rfl rfl ?_
  refine g_iload_n 6 2 K dX0_setHull_5 rfl rfl rfl ?_
  refine as_C_2 7 K hf dX0_setHull_6 rfl (fun S1 hf => ?_)
  refine g_aload_n 8 0 K dX0_setHull_7 rfl rfl rfl ?_
  refine gf_C_1_2 11 K dX0_setHull_8 rfl ?_
  refine g_iload_n 12 1 K dX0_setHull_11 rfl rfl rfl ?_
  refine g_iload_n 13 3 K dX0_setHull_12 rfl rfl rfl ?_
  refine as_C_3 14 K hf dX0_setHull_13 rfl (fun S2 hf => ?_)
  exact g_vret K hr hlk hf dX0_setHull_14
def f_X0_setPull (N n : Nat) (S : St) (a1 : Int32) (a2 : Int32) : Option St :=
  (wr S 5 10 a1 a2).bind fun S1 =>
  some S1
set_option maxRecDepth 20000 in
set_option maxHeartbeats 4000000 in
theorem c_X0_setPull {l : Launch} {D : va_G} {q : Nat → Nat} {n : Nat} {cI cB cZ : ClassId} {adK adV : Nat → Nat} {N : Nat} {S Sz : St} {a1 : Int32} {a2 : Int32} (hf : f_X0_setPull N n S a1 a2 = some Sz) : Cn l yX0_setPull cX0_setPull 3 none 0 0 D (tyL cI cB cZ) (Fx adK adV) (wC q n cI cB cZ) [.ref (q 1), .int a1, .int a2] S none Sz := by
  refine c_of (by decide) fl_wC (Nat.le_of_ble_eq_true rfl) [(0, .ref (q 1)), (1, .int a1), (2, .int a2)] rfl ?_
  intro p e s m args below meth c K hr hlk hs
  have K : Ok p s m args c cX0_setPull 3 RX0 D (tyL cI cB cZ) (Aw (wC q n cI cB cZ) s.heap.size) (wC q n cI cB cZ) := K
  unfold f_X0_setPull at hf
  refine g_aload_n 1 0 K dX0_setPull_0 rfl rfl rfl ?_
  refine gf_C_1_4 4 K dX0_setPull_1 rfl ?_
  refine g_iload_n 5 1 K dX0_setPull_4 rfl rfl rfl ?_
  refine g_iload_n 6 2 K dX0_setPull_5 rfl rfl rfl ?_
  refine as_C_5 7 K hf dX0_setPull_6 rfl (fun S1 hf => ?_)
  exact g_vret K hr hlk hf dX0_setPull_7
def f_X0_anchorsBelow (N n : Nat) (S : St) (a1 : Int32) : Option (Int32 × St) :=
  loop2 (fun (k1 : St → Int32 → Int32 → Option (Int32 × St)) (S2 : St) (x3 : Int32) (x4 : Int32) =>
    if (S2.1 100) ≤ x4 then
      some (x3, S2)
    else
      (rd (S2.2 3) n x4).bind fun x6 =>
      (rd (S2.2 5) 10 a1).bind fun x7 =>
      if x7 ≤ x6 then
        k1 S2 x3 (x4 + 1)
      else
        k1 S2 (x3 + 1) (x4 + 1)) N S 0 0
set_option maxRecDepth 20000 in
set_option maxHeartbeats 4000000 in
theorem c_X0_anchorsBelow {l : Launch} {D : va_G} {q : Nat → Nat} {n : Nat} {cI cB cZ : ClassId} {adK adV : Nat → Nat} {N : Nat} {S Sz : St} {rz : Int32} {a1 : Int32} (hf : f_X0_anchorsBelow N n S a1 = some (rz, Sz)) : Cn l yX0_anchorsBelow cX0_anchorsBelow 4 (some .int) 0 0 D (tyL cI cB cZ) (Fx adK adV) (wC q n cI cB cZ) [.ref (q 1), .int a1] S (some (.int rz)) Sz := by
  refine c_of (by decide) fl_wC (Nat.le_of_ble_eq_true rfl) [(0, .ref (q 1)), (1, .int a1)] rfl ?_
  intro p e s m args below meth c K hr hlk hs
  have K : Ok p s m args c cX0_anchorsBelow 4 RX0 D (tyL cI cB cZ) (Aw (wC q n cI cB cZ) s.heap.size) (wC q n cI cB cZ) := K
  unfold f_X0_anchorsBelow at hf
  refine g_iconst 1 0 K dX0_anchorsBelow_0 rfl (by decide) ?_
  refine g_istore_n (lv' := [(2, .int 0), (0, .ref (q 1)), (1, .int a1)]) 2 2 K dX0_anchorsBelow_1 rfl rfl (by decide) rfl ?_
  refine g_iconst 3 0 K dX0_anchorsBelow_2 rfl (by decide) ?_
  refine g_istore_n (lv' := [(3, .int 0), (2, .int 0), (0, .ref (q 1)), (1, .int a1)]) 4 3 K dX0_anchorsBelow_3 rfl rfl (by decide) rfl ?_
  refine g_sub [2, 3, 1, 0] rfl ?_
  refine g_loop2 (fun (x3 : Int32) (x4 : Int32) => [(0, .ref (q 1)), (1, .int a1), (2, .int x3), (3, .int x4)]) hf ?_
  intro k1 S2 x3 x4 hk5 hf
  refine g_iload_n 5 3 K dX0_anchorsBelow_4 rfl rfl rfl ?_
  refine g_aload_n 6 0 K dX0_anchorsBelow_5 rfl rfl rfl ?_
  refine gf_C_1_0 9 K dX0_anchorsBelow_6 rfl ?_
  refine g_icmp_ge 36 12 K hf dX0_anchorsBelow_9 (by decide) rfl (fun hf => ?_) (fun hf => ?_)
  · refine g_iload_n 37 2 K dX0_anchorsBelow_36 rfl rfl rfl ?_
    exact g_iret K hr hlk hf dX0_anchorsBelow_37
  · refine g_aload_n 13 0 K dX0_anchorsBelow_12 rfl rfl rfl ?_
    refine gf_C_1_2 16 K dX0_anchorsBelow_13 rfl ?_
    refine g_iload_n 17 3 K dX0_anchorsBelow_16 rfl rfl rfl ?_
    refine al_C_3 18 K hf dX0_anchorsBelow_17 rfl (fun x6 hf => ?_)
    refine g_aload_n 19 0 K dX0_anchorsBelow_18 rfl rfl rfl ?_
    refine gf_C_1_4 22 K dX0_anchorsBelow_19 rfl ?_
    refine g_iload_n 23 1 K dX0_anchorsBelow_22 rfl rfl rfl ?_
    refine al_C_5 24 K hf dX0_anchorsBelow_23 rfl (fun x7 hf => ?_)
    refine g_icmp_ge 30 27 K hf dX0_anchorsBelow_24 (by decide) rfl (fun hf => ?_) (fun hf => ?_)
    · refine g_iinc (lv' := [(3, .int (x4 + 1)), (0, .ref (q 1)), (1, .int a1), (2, .int x3)]) 33 3 1 K dX0_anchorsBelow_30 rfl rfl (by decide) (by decide) rfl ?_
      refine g_goto 4 K dX0_anchorsBelow_33 (by decide) ?_
      exact g_sub [1, 2, 3, 0] rfl (hk5 _ _ _ hf)
    · refine g_iinc (lv' := [(2, .int (x3 + 1)), (0, .ref (q 1)), (1, .int a1), (3, .int x4)]) 30 2 1 K dX0_anchorsBelow_27 rfl rfl (by decide) (by decide) rfl ?_
      refine g_iinc (lv' := [(3, .int (x4 + 1)), (2, .int (x3 + 1)), (0, .ref (q 1)), (1, .int a1)]) 33 3 1 K dX0_anchorsBelow_30 rfl rfl (by decide) (by decide) rfl ?_
      refine g_goto 4 K dX0_anchorsBelow_33 (by decide) ?_
      exact g_sub [2, 3, 1, 0] rfl (hk5 _ _ _ hf)
def f_X0_addCart (N n : Nat) (S : St) (a1 : Int32) (a2 : Int32) : Option (Int32 × St) :=
  (wr S 6 6 (S.1 108) a1).bind fun S1 =>
  lett (fun (S3 : St) (x4 : Int32) =>
    (wr S3 7 6 (S1.1 108) x4).bind fun S6 =>
    lett (pF S6 108 ((S6.1 108) + 1)) fun S7 =>
    some (S7.1 108, S7)) fun j2 =>
  if (S1.1 108) = 0 then
    j2 S1 0
  else
    (rd (S1.2 7) 6 ((S1.1 108) - 1)).bind fun x8 =>
    j2 S1 (x8 + a2)
set_option maxRecDepth 20000 in
set_option maxHeartbeats 4000000 in
theorem c_X0_addCart {l : Launch} {D : va_G} {q : Nat → Nat} {n : Nat} {cI cB cZ : ClassId} {adK adV : Nat → Nat} {N : Nat} {S Sz : St} {rz : Int32} {a1 : Int32} {a2 : Int32} (hf : f_X0_addCart N n S a1 a2 = some (rz, Sz)) : Cn l yX0_addCart cX0_addCart 3 (some .int) 0 0 D (tyL cI cB cZ) (Fx adK adV) (wC q n cI cB cZ) [.ref (q 1), .int a1, .int a2] S (some (.int rz)) Sz := by
  refine c_of (by decide) fl_wC (Nat.le_of_ble_eq_true rfl) [(0, .ref (q 1)), (1, .int a1), (2, .int a2)] rfl ?_
  intro p e s m args below meth c K hr hlk hs
  have K : Ok p s m args c cX0_addCart 3 RX0 D (tyL cI cB cZ) (Aw (wC q n cI cB cZ) s.heap.size) (wC q n cI cB cZ) := K
  unfold f_X0_addCart at hf
  refine g_aload_n 1 0 K dX0_addCart_0 rfl rfl rfl ?_
  refine gf_C_1_5 4 K dX0_addCart_1 rfl ?_
  refine g_aload_n 5 0 K dX0_addCart_4 rfl rfl rfl ?_
  refine gf_C_1_8 8 K dX0_addCart_5 rfl ?_
  refine g_iload_n 9 1 K dX0_addCart_8 rfl rfl rfl ?_
  refine as_C_6 10 K hf dX0_addCart_9 rfl (fun S1 hf => ?_)
  refine g_aload_n 11 0 K dX0_addCart_10 rfl rfl rfl ?_
  refine gf_C_1_6 14 K dX0_addCart_11 rfl ?_
  refine g_aload_n 15 0 K dX0_addCart_14 rfl rfl rfl ?_
  refine gf_C_1_8 18 K dX0_addCart_15 rfl ?_
  refine g_aload_n 19 0 K dX0_addCart_18 rfl rfl rfl ?_
  refine gf_C_1_8 22 K dX0_addCart_19 rfl ?_
  refine g_join1 42 (fun (x4 : Int32) => [(0, .ref (q 1)), (1, .int a1), (2, .int a2)]) (fun (x4 : Int32) => [.int x4, .int (S1.1 108), .ref (q 7)]) hf (fun S3 x4 hf => ?_) (fun j2 hj5 hf => ?_)
  · refine as_C_7 43 K hf dX0_addCart_42 rfl (fun S6 hf => ?_)
    refine g_aload_n 44 0 K dX0_addCart_43 rfl rfl rfl ?_
    refine g_dup 45 K dX0_addCart_44 rfl rfl ?_
    refine gf_C_1_8 48 K dX0_addCart_45 rfl ?_
    refine g_iconst 49 1 K dX0_addCart_48 rfl (by decide) ?_
    refine g_iadd 50 K dX0_addCart_49 rfl ?_
    refine pf_C_1_8 53 K hf dX0_addCart_50 rfl (fun S7 hf => ?_)
    refine g_aload_n 54 0 K dX0_addCart_53 rfl rfl rfl ?_
    refine gf_C_1_8 57 K dX0_addCart_54 rfl ?_
    exact g_iret K hr hlk hf dX0_addCart_57
  · refine g_if_ne 29 25 K hf dX0_addCart_22 (by decide) rfl (fun hf => ?_) (fun hf => ?_)
    · refine g_iconst 26 0 K dX0_addCart_25 rfl (by decide) ?_
      refine g_goto 42 K dX0_addCart_26 (by decide) ?_
      exact g_sub [0, 1, 2] rfl (hj5 _ _ hf)
    · refine g_aload_n 30 0 K dX0_addCart_29 rfl rfl rfl ?_
      refine gf_C_1_6 33 K dX0_addCart_30 rfl ?_
      refine g_aload_n 34 0 K dX0_addCart_33 rfl rfl rfl ?_
      refine gf_C_1_8 37 K dX0_addCart_34 rfl ?_
      refine g_iconst 38 1 K dX0_addCart_37 rfl (by decide) ?_
      refine g_isub 39 K dX0_addCart_38 rfl ?_
      refine al_C_7 40 K hf dX0_addCart_39 rfl (fun x8 hf => ?_)
      refine g_iload_n 41 2 K dX0_addCart_40 rfl rfl rfl ?_
      refine g_iadd 42 K dX0_addCart_41 rfl ?_
      exact g_sub [0, 1, 2] rfl (hj5 _ _ hf)
def f_X0_dropCarts (N n : Nat) (S : St)  : Option (Int32 × St) :=
  lett (pF S 108 0) fun S1 =>
  some (S.1 108, S1)
set_option maxRecDepth 20000 in
set_option maxHeartbeats 4000000 in
theorem c_X0_dropCarts {l : Launch} {D : va_G} {q : Nat → Nat} {n : Nat} {cI cB cZ : ClassId} {adK adV : Nat → Nat} {N : Nat} {S Sz : St} {rz : Int32}  (hf : f_X0_dropCarts N n S  = some (rz, Sz)) : Cn l yX0_dropCarts cX0_dropCarts 2 (some .int) 0 0 D (tyL cI cB cZ) (Fx adK adV) (wC q n cI cB cZ) [.ref (q 1)] S (some (.int rz)) Sz := by
  refine c_of (by decide) fl_wC (Nat.le_of_ble_eq_true rfl) [(0, .ref (q 1))] rfl ?_
  intro p e s m args below meth c K hr hlk hs
  have K : Ok p s m args c cX0_dropCarts 2 RX0 D (tyL cI cB cZ) (Aw (wC q n cI cB cZ) s.heap.size) (wC q n cI cB cZ) := K
  unfold f_X0_dropCarts at hf
  refine g_aload_n 1 0 K dX0_dropCarts_0 rfl rfl rfl ?_
  refine gf_C_1_8 4 K dX0_dropCarts_1 rfl ?_
  refine g_istore_n (lv' := [(1, .int (S.1 108)), (0, .ref (q 1))]) 5 1 K dX0_dropCarts_4 rfl rfl (by decide) rfl ?_
  refine g_aload_n 6 1 K dX0_dropCarts_5 rfl rfl rfl ?_
  refine g_iconst 7 0 K dX0_dropCarts_6 rfl (by decide) ?_
  refine pf_C_1_8 10 K hf dX0_dropCarts_7 rfl (fun S1 hf => ?_)
  refine g_iload_n 11 0 K dX0_dropCarts_10 rfl rfl rfl ?_
  exact g_iret K hr hlk hf dX0_dropCarts_11
def f_J7_fill_53178_4 (N n : Nat) (S : St) (a2 : Int32) : Option St :=
  loop1 (fun (k1 : St → Int32 → Option St) (S2 : St) (x3 : Int32) =>
    if (nI n) ≤ x3 then
      some S2
    else
      (wr S2 4 n x3 a2).bind fun S5 =>
      k1 S5 (x3 + 1)) N S 0
set_option maxRecDepth 20000 in
set_option maxHeartbeats 4000000 in
theorem c_J7_fill_53178_4 {l : Launch} {D : va_G} {q : Nat → Nat} {n : Nat} {cI cB cZ : ClassId} {adK adV : Nat → Nat} {N : Nat} {S Sz : St} {a2 : Int32} (hf : f_J7_fill_53178_4 N n S a2 = some Sz) : Cn l yJ7_fill_53178 cJ7_fill_53178 4 none 0 0 D (tyL cI cB cZ) (Fx adK adV) (wC q n cI cB cZ) [.ref (q 4), .int a2] S none Sz := by
  refine c_of (by decide) fl_wC (Nat.le_of_ble_eq_true rfl) [(0, .ref (q 4)), (1, .int a2)] rfl ?_
  intro p e s m args below meth c K hr hlk hs
  have K : Ok p s m args c cJ7_fill_53178 4 RJ7 D (tyL cI cB cZ) (Aw (wC q n cI cB cZ) s.heap.size) (wC q n cI cB cZ) := K
  unfold f_J7_fill_53178_4 at hf
  refine g_iconst 1 0 K dJ7_fill_53178_0 rfl (by decide) ?_
  refine g_istore_n (lv' := [(2, .int 0), (0, .ref (q 4)), (1, .int a2)]) 2 2 K dJ7_fill_53178_1 rfl rfl (by decide) rfl ?_
  refine g_aload_n 3 1 K dJ7_fill_53178_2 rfl rfl rfl ?_
  refine an_C_4 4 K dJ7_fill_53178_3 rfl ?_
  refine g_istore_n (lv' := [(3, .int (nI n)), (2, .int 0), (0, .ref (q 4)), (1, .int a2)]) 5 3 K dJ7_fill_53178_4 rfl rfl (by decide) rfl ?_
  refine g_sub [2, 3, 1, 0] rfl ?_
  refine g_loop1 (fun (x3 : Int32) => [(0, .ref (q 4)), (1, .int a2), (2, .int x3), (3, .int (nI n))]) hf ?_
  intro k1 S2 x3 hk4 hf
  refine g_iload_n 6 2 K dJ7_fill_53178_5 rfl rfl rfl ?_
  refine g_iload_n 7 3 K dJ7_fill_53178_6 rfl rfl rfl ?_
  refine g_icmp_ge 20 10 K hf dJ7_fill_53178_7 (by decide) rfl (fun hf => ?_) (fun hf => ?_)
  · exact g_vret K hr hlk hf dJ7_fill_53178_20
  · refine g_aload_n 11 0 K dJ7_fill_53178_10 rfl rfl rfl ?_
    refine g_iload_n 12 2 K dJ7_fill_53178_11 rfl rfl rfl ?_
    refine g_iload_n 13 1 K dJ7_fill_53178_12 rfl rfl rfl ?_
    refine as_C_4 14 K hf dJ7_fill_53178_13 rfl (fun S5 hf => ?_)
    refine g_iinc (lv' := [(2, .int (x3 + 1)), (0, .ref (q 4)), (1, .int a2), (3, .int (nI n))]) 17 2 1 K dJ7_fill_53178_14 rfl rfl (by decide) (by decide) rfl ?_
    refine g_goto 5 K dJ7_fill_53178_17 (by decide) ?_
    exact g_sub [1, 2, 0, 3] rfl (hk4 _ _ hf)
def f_X0_press (N n : Nat) (S : St) (a1 : Int32) (a2 : Int32) : Option St :=
  bd2 (f_X0_hasHull N n S a1) fun r2 S1 =>
  if r2 = 0 then
    some S1
  else
    (rd (S1.2 4) n a1).bind fun x4 =>
    (wr S1 4 n a1 (x4 + a2)).bind fun S5 =>
    some S5
set_option maxRecDepth 20000 in
set_option maxHeartbeats 4000000 in
theorem c_X0_press {l : Launch} {D : va_G} {q : Nat → Nat} {n : Nat} {cI cB cZ : ClassId} {adK adV : Nat → Nat} {N : Nat} {S Sz : St} {a1 : Int32} {a2 : Int32} (hf : f_X0_press N n S a1 a2 = some Sz) : Cn l yX0_press cX0_press 3 none 2 43 D (tyL cI cB cZ) (Fx adK adV) (wC q n cI cB cZ) [.ref (q 1), .int a1, .int a2] S none Sz := by
  refine c_of (by decide) fl_wC (Nat.le_of_ble_eq_true rfl) [(0, .ref (q 1)), (1, .int a1), (2, .int a2)] rfl ?_
  intro p e s m args below meth c K hr hlk hs
  have K : Ok p s m args c cX0_press 3 RX0 D (tyL cI cB cZ) (Aw (wC q n cI cB cZ) s.heap.size) (wC q n cI cB cZ) := K
  unfold f_X0_press at hf
  refine g_aload_n 1 0 K dX0_press_0 rfl rfl rfl ?_
  refine g_iload_n 2 1 K dX0_press_1 rfl rfl rfl ?_
  obtain ⟨r2, S1, hc3, hf⟩ := bd2_some hf
  refine g_callVi 5 1 [] K (Fx_ok adK adV) hs (c_X0_hasHull hc3) km_X0_70 kI_X0_hasHull kS_X0_hasHull ki_X0 kC_X0_hasHull mw_X0_hasHull ⟨by decide, by decide, by decide, by decide⟩ rfl rfl rfl rfl (Nat.le_of_ble_eq_true rfl) dX0_press_2 rfl ?_
  refine g_if_eq 18 8 K hf dX0_press_5 (by decide) rfl (fun hf => ?_) (fun hf => ?_)
  · exact g_vret K hr hlk hf dX0_press_18
  · refine g_aload_n 9 0 K dX0_press_8 rfl rfl rfl ?_
    refine gf_C_1_3 12 K dX0_press_9 rfl ?_
    refine g_iload_n 13 1 K dX0_press_12 rfl rfl rfl ?_
    refine g_dup2 14 K dX0_press_13 rfl rfl rfl ?_
    refine al_C_4 15 K hf dX0_press_14 rfl (fun x4 hf => ?_)
    refine g_iload_n 16 2 K dX0_press_15 rfl rfl rfl ?_
    refine g_iadd 17 K dX0_press_16 rfl ?_
    refine as_C_4 18 K hf dX0_press_17 rfl (fun S5 hf => ?_)
    exact g_vret K hr hlk hf dX0_press_18
def f_X0_layLoads_7 (N n : Nat) (S : St) (a1 : Int32) : Option St :=
  (f_J7_fill_53178_4 N n S 0).bind fun S1 =>
  loop1 (fun (k4 : St → Int32 → Option St) (S5 : St) (x6 : Int32) =>
    if (S5.1 108) ≤ x6 then
      some S5
    else
      (rd (S5.2 7) 6 x6).bind fun x8 =>
      bd2 (f_X0_hasHull N n S5 (a1 - x8)) fun r10 S9 =>
      if r10 = 0 then
        k4 S9 (x6 + 1)
      else
        (rd (S9.2 6) 6 x6).bind fun x12 =>
        (f_X0_press N n S9 (a1 - x8) (2 * x12)).bind fun S13 =>
        (rd (S13.2 6) 6 x6).bind fun x16 =>
        (f_X0_press N n S13 ((a1 - x8) - 1) x16).bind fun S17 =>
        (rd (S17.2 6) 6 x6).bind fun x20 =>
        (f_X0_press N n S17 ((a1 - x8) + 1) x20).bind fun S21 =>
        k4 S21 (x6 + 1)) N S1 0
set_option maxRecDepth 20000 in
set_option maxHeartbeats 4000000 in
theorem c_X0_layLoads_7 {l : Launch} {D : va_G} {q : Nat → Nat} {n : Nat} {cI cB cZ : ClassId} {adK adV : Nat → Nat} {N : Nat} {S Sz : St} {a1 : Int32} (hf : f_X0_layLoads_7 N n S a1 = some Sz) : Cn l yX0_layLoads cX0_layLoads 5 none 3 65 D (tyL cI cB cZ) (Fx adK adV) (wC q n cI cB cZ) [.ref (q 1), .int a1, .ref (q 7)] S none Sz := by
  refine c_of (by decide) fl_wC (Nat.le_of_ble_eq_true rfl) [(0, .ref (q 1)), (1, .int a1), (2, .ref (q 7))] rfl ?_
  intro p e s m args below meth c K hr hlk hs
  have K : Ok p s m args c cX0_layLoads 5 RX0 D (tyL cI cB cZ) (Aw (wC q n cI cB cZ) s.heap.size) (wC q n cI cB cZ) := K
  unfold f_X0_layLoads_7 at hf
  refine g_aload_n 1 0 K dX0_layLoads_0 rfl rfl rfl ?_
  refine gf_C_1_3 4 K dX0_layLoads_1 rfl ?_
  refine g_iconst 5 0 K dX0_layLoads_4 rfl (by decide) ?_
  obtain ⟨S1, hc3, hf⟩ := bd_some hf
  refine g_callSv 8 [] K (Fx_ok adK adV) hs (c_J7_fill_53178_4 hc3) km_X0_37 kt_J7_fill_53178 ki_J7 kC_J7_fill_53178 mw_J7_fill_53178 ⟨by decide, by decide, by decide, by decide⟩ rfl rfl (Nat.le_of_ble_eq_true rfl) dX0_layLoads_5 rfl ?_
  refine g_iconst 9 0 K dX0_layLoads_8 rfl (by decide) ?_
  refine g_istore_n (lv' := [(3, .int 0), (0, .ref (q 1)), (1, .int a1), (2, .ref (q 7))]) 10 3 K dX0_layLoads_9 rfl rfl (by decide) rfl ?_
  refine g_sub [1, 2, 3, 0] rfl ?_
  refine g_loop1 (fun (x6 : Int32) => [(0, .ref (q 1)), (1, .int a1), (2, .ref (q 7)), (3, .int x6)]) hf ?_
  intro k4 S5 x6 hk7 hf
  refine g_iload_n 11 3 K dX0_layLoads_10 rfl rfl rfl ?_
  refine g_aload_n 12 0 K dX0_layLoads_11 rfl rfl rfl ?_
  refine gf_C_1_8 15 K dX0_layLoads_12 rfl ?_
  refine g_icmp_ge 82 18 K hf dX0_layLoads_15 (by decide) rfl (fun hf => ?_) (fun hf => ?_)
  · exact g_vret K hr hlk hf dX0_layLoads_82
  · refine g_iload_n 19 1 K dX0_layLoads_18 rfl rfl rfl ?_
    refine g_aload_n 20 2 K dX0_layLoads_19 rfl rfl rfl ?_
    refine g_iload_n 21 3 K dX0_layLoads_20 rfl rfl rfl ?_
    refine al_C_7 22 K hf dX0_layLoads_21 rfl (fun x8 hf => ?_)
    refine g_isub 23 K dX0_layLoads_22 rfl ?_
    refine g_istore (lv' := [(4, .int (a1 - x8)), (0, .ref (q 1)), (1, .int a1), (2, .ref (q 7)), (3, .int x6)]) 25 4 K dX0_layLoads_23 rfl (by decide) rfl ?_
    refine g_aload_n 26 1 K dX0_layLoads_25 rfl rfl rfl ?_
    refine g_iload 28 0 K dX0_layLoads_26 rfl rfl ?_
    obtain ⟨r10, S9, hc11, hf⟩ := bd2_some hf
    refine g_callVi 31 1 [] K (Fx_ok adK adV) hs (c_X0_hasHull hc11) km_X0_70 kI_X0_hasHull kS_X0_hasHull ki_X0 kC_X0_hasHull mw_X0_hasHull ⟨by decide, by decide, by decide, by decide⟩ rfl rfl rfl rfl (Nat.le_of_ble_eq_true rfl) dX0_layLoads_28 rfl ?_
    refine g_if_eq 76 34 K hf dX0_layLoads_31 (by decide) rfl (fun hf => ?_) (fun hf => ?_)
    · refine g_iinc (lv' := [(3, .int (x6 + 1)), (4, .int (a1 - x8)), (0, .ref (q 1)), (1, .int a1), (2, .ref (q 7))]) 79 4 1 K dX0_layLoads_76 rfl rfl (by decide) (by decide) rfl ?_
      refine g_goto 10 K dX0_layLoads_79 (by decide) ?_
      exact g_sub [2, 3, 4, 0] rfl (hk7 _ _ hf)
    · refine g_aload_n 35 1 K dX0_layLoads_34 rfl rfl rfl ?_
      refine g_iload 37 0 K dX0_layLoads_35 rfl rfl ?_
      refine g_iconst 38 2 K dX0_layLoads_37 rfl (by decide) ?_
      refine g_aload_n 39 1 K dX0_layLoads_38 rfl rfl rfl ?_
      refine gf_C_1_5 42 K dX0_layLoads_39 rfl ?_
      refine g_iload_n 43 4 K dX0_layLoads_42 rfl rfl rfl ?_
      refine al_C_6 44 K hf dX0_layLoads_43 rfl (fun x12 hf => ?_)
      refine g_imul 45 K dX0_layLoads_44 rfl ?_
      obtain ⟨S13, hc15, hf⟩ := bd_some hf
      refine g_callVv 48 1 [] K (Fx_ok adK adV) hs (c_X0_press hc15) km_X0_74 kI_X0_press kS_X0_press ki_X0 kC_X0_press mw_X0_press ⟨by decide, by decide, by decide, by decide⟩ rfl rfl rfl rfl (Nat.le_of_ble_eq_true rfl) dX0_layLoads_45 rfl ?_
      refine g_aload_n 49 1 K dX0_layLoads_48 rfl rfl rfl ?_
      refine g_iload 51 0 K dX0_layLoads_49 rfl rfl ?_
      refine g_iconst 52 1 K dX0_layLoads_51 rfl (by decide) ?_
      refine g_isub 53 K dX0_layLoads_52 rfl ?_
      refine g_aload_n 54 1 K dX0_layLoads_53 rfl rfl rfl ?_
      refine gf_C_1_5 57 K dX0_layLoads_54 rfl ?_
      refine g_iload_n 58 4 K dX0_layLoads_57 rfl rfl rfl ?_
      refine al_C_6 59 K hf dX0_layLoads_58 rfl (fun x16 hf => ?_)
      obtain ⟨S17, hc19, hf⟩ := bd_some hf
      refine g_callVv 62 1 [] K (Fx_ok adK adV) hs (c_X0_press hc19) km_X0_74 kI_X0_press kS_X0_press ki_X0 kC_X0_press mw_X0_press ⟨by decide, by decide, by decide, by decide⟩ rfl rfl rfl rfl (Nat.le_of_ble_eq_true rfl) dX0_layLoads_59 rfl ?_
      refine g_aload_n 63 1 K dX0_layLoads_62 rfl rfl rfl ?_
      refine g_iload 65 0 K dX0_layLoads_63 rfl rfl ?_
      refine g_iconst 66 1 K dX0_layLoads_65 rfl (by decide) ?_
      refine g_iadd 67 K dX0_layLoads_66 rfl ?_
      refine g_aload_n 68 1 K dX0_layLoads_67 rfl rfl rfl ?_
      refine gf_C_1_5 71 K dX0_layLoads_68 rfl ?_
      refine g_iload_n 72 4 K dX0_layLoads_71 rfl rfl rfl ?_
      refine al_C_6 73 K hf dX0_layLoads_72 rfl (fun x20 hf => ?_)
      obtain ⟨S21, hc23, hf⟩ := bd_some hf
      refine g_callVv 76 1 [] K (Fx_ok adK adV) hs (c_X0_press hc23) km_X0_74 kI_X0_press kS_X0_press ki_X0 kC_X0_press mw_X0_press ⟨by decide, by decide, by decide, by decide⟩ rfl rfl rfl rfl (Nat.le_of_ble_eq_true rfl) dX0_layLoads_73 rfl ?_
      refine g_iinc (lv' := [(3, .int (x6 + 1)), (4, .int (a1 - x8)), (0, .ref (q 1)), (1, .int a1), (2, .ref (q 7))]) 79 4 1 K dX0_layLoads_76 rfl rfl (by decide) (by decide) rfl ?_
      refine g_goto 10 K dX0_layLoads_79 (by decide) ?_
      exact g_sub [2, 3, 4, 0] rfl (hk7 _ _ hf)
def f_X0_loadOn (N n : Nat) (S : St) (a1 : Int32) (a2 : Int32) : Option (Int32 × St) :=
  (f_X0_layLoads_7 N n S a2).bind fun S1 =>
  (rd (S1.2 4) n a1).bind fun x4 =>
  some (x4, S1)
set_option maxRecDepth 20000 in
set_option maxHeartbeats 4000000 in
theorem c_X0_loadOn {l : Launch} {D : va_G} {q : Nat → Nat} {n : Nat} {cI cB cZ : ClassId} {adK adV : Nat → Nat} {N : Nat} {S Sz : St} {rz : Int32} {a1 : Int32} {a2 : Int32} (hf : f_X0_loadOn N n S a1 a2 = some (rz, Sz)) : Cn l yX0_loadOn cX0_loadOn 3 (some .int) 4 89 D (tyL cI cB cZ) (Fx adK adV) (wC q n cI cB cZ) [.ref (q 1), .int a1, .int a2] S (some (.int rz)) Sz := by
  refine c_of (by decide) fl_wC (Nat.le_of_ble_eq_true rfl) [(0, .ref (q 1)), (1, .int a1), (2, .int a2)] rfl ?_
  intro p e s m args below meth c K hr hlk hs
  have K : Ok p s m args c cX0_loadOn 3 RX0 D (tyL cI cB cZ) (Aw (wC q n cI cB cZ) s.heap.size) (wC q n cI cB cZ) := K
  unfold f_X0_loadOn at hf
  refine g_aload_n 1 0 K dX0_loadOn_0 rfl rfl rfl ?_
  refine g_iload_n 2 2 K dX0_loadOn_1 rfl rfl rfl ?_
  refine g_aload_n 3 0 K dX0_loadOn_2 rfl rfl rfl ?_
  refine gf_C_1_6 6 K dX0_loadOn_3 rfl ?_
  obtain ⟨S1, hc3, hf⟩ := bd_some hf
  refine g_callVv 9 1 [] K (Fx_ok adK adV) hs (c_X0_layLoads_7 hc3) km_X0_50 kI_X0_layLoads kS_X0_layLoads ki_X0 kC_X0_layLoads mw_X0_layLoads ⟨by decide, by decide, by decide, by decide⟩ rfl rfl rfl rfl (Nat.le_of_ble_eq_true rfl) dX0_loadOn_6 rfl ?_
  refine g_aload_n 10 0 K dX0_loadOn_9 rfl rfl rfl ?_
  refine gf_C_1_3 13 K dX0_loadOn_10 rfl ?_
  refine g_iload_n 14 1 K dX0_loadOn_13 rfl rfl rfl ?_
  refine al_C_4 15 K hf dX0_loadOn_14 rfl (fun x4 hf => ?_)
  exact g_iret K hr hlk hf dX0_loadOn_15
def f_X0_findLeastMargin_7 (N n : Nat) (S : St)  : Option St :=
  lett (pF S 109 2147483647) fun S1 =>
  lett (pF S1 110 (-1)) fun S2 =>
  lett (pF S2 111 (-1)) fun S3 =>
  lett (fun (S5 : St) (x6 : Int32) =>
    loop1 (fun (k8 : St → Int32 → Option St) (S9 : St) (x10 : Int32) =>
      if x6 < x10 then
        some S9
      else
        (f_X0_layLoads_7 N n S9 x10).bind fun S12 =>
        loop1 (fun (k15 : St → Int32 → Option St) (S16 : St) (x17 : Int32) =>
          if (S16.1 100) ≤ x17 then
            k8 S16 (x10 + 1)
          else
            (rd (S16.2 2) n x17).bind fun x19 =>
            (rd (S16.2 4) n x17).bind fun x20 =>
            if (S16.1 109) ≤ ((4 * x19) - x20) then
              k15 S16 (x17 + 1)
            else
              lett (pF S16 109 ((4 * x19) - x20)) fun S21 =>
              lett (pF S21 110 x17) fun S22 =>
              lett (pF S22 111 x10) fun S23 =>
              k15 S23 (x17 + 1)) N S12 0) N S5 0) fun j4 =>
  if (S3.1 108) ≤ 0 then
    j4 S3 (-1)
  else
    (rd (S3.2 7) 6 ((S3.1 108) - 1)).bind fun x24 =>
    j4 S3 (((S3.1 100) - 1) + x24)
set_option maxRecDepth 20000 in
set_option maxHeartbeats 4000000 in
theorem c_X0_findLeastMargin_7 {l : Launch} {D : va_G} {q : Nat → Nat} {n : Nat} {cI cB cZ : ClassId} {adK adV : Nat → Nat} {N : Nat} {S Sz : St}  (hf : f_X0_findLeastMargin_7 N n S  = some Sz) : Cn l yX0_findLeastMargin cX0_findLeastMargin 6 none 4 89 D (tyL cI cB cZ) (Fx adK adV) (wC q n cI cB cZ) [.ref (q 1), .ref (q 7)] S none Sz := by
  refine c_of (by decide) fl_wC (Nat.le_of_ble_eq_true rfl) [(0, .ref (q 1)), (1, .ref (q 7))] rfl ?_
  intro p e s m args below meth c K hr hlk hs
  have K : Ok p s m args c cX0_findLeastMargin 6 RX0 D (tyL cI cB cZ) (Aw (wC q n cI cB cZ) s.heap.size) (wC q n cI cB cZ) := K
  unfold f_X0_findLeastMargin_7 at hf
  refine g_aload_n 1 0 K dX0_findLeastMargin_0 rfl rfl rfl ?_
  refine g_ldc 3 2147483647 K dX0_findLeastMargin_1 rfl kc_X0_69 ?_
  refine pf_C_1_9 6 K hf dX0_findLeastMargin_3 rfl (fun S1 hf => ?_)
  refine g_aload_n 7 0 K dX0_findLeastMargin_6 rfl rfl rfl ?_
  refine g_iconst 8 (-1) K dX0_findLeastMargin_7 rfl (by decide) ?_
  refine pf_C_1_10 11 K hf dX0_findLeastMargin_8 rfl (fun S2 hf => ?_)
  refine g_aload_n 12 0 K dX0_findLeastMargin_11 rfl rfl rfl ?_
  refine g_iconst 13 (-1) K dX0_findLeastMargin_12 rfl (by decide) ?_
  refine pf_C_1_11 16 K hf dX0_findLeastMargin_13 rfl (fun S3 hf => ?_)
  refine g_aload_n 17 0 K dX0_findLeastMargin_16 rfl rfl rfl ?_
  refine gf_C_1_8 20 K dX0_findLeastMargin_17 rfl ?_
  refine g_join1 42 (fun (x6 : Int32) => [(0, .ref (q 1)), (1, .ref (q 7))]) (fun (x6 : Int32) => [.int x6]) hf (fun S5 x6 hf => ?_) (fun j4 hj7 hf => ?_)
  · refine g_istore_n (lv' := [(2, .int x6), (0, .ref (q 1)), (1, .ref (q 7))]) 43 2 K dX0_findLeastMargin_42 rfl rfl (by decide) rfl ?_
    refine g_iconst 44 0 K dX0_findLeastMargin_43 rfl (by decide) ?_
    refine g_istore_n (lv' := [(3, .int 0), (2, .int x6), (0, .ref (q 1)), (1, .ref (q 7))]) 45 3 K dX0_findLeastMargin_44 rfl rfl (by decide) rfl ?_
    refine g_sub [2, 3, 1, 0] rfl ?_
    refine g_loop1 (fun (x10 : Int32) => [(0, .ref (q 1)), (1, .ref (q 7)), (2, .int x6), (3, .int x10)]) hf ?_
    intro k8 S9 x10 hk11 hf
    refine g_iload_n 46 3 K dX0_findLeastMargin_45 rfl rfl rfl ?_
    refine g_iload_n 47 2 K dX0_findLeastMargin_46 rfl rfl rfl ?_
    refine g_icmp_gt 125 50 K hf dX0_findLeastMargin_47 (by decide) rfl (fun hf => ?_) (fun hf => ?_)
    · exact g_vret K hr hlk hf dX0_findLeastMargin_125
    · refine g_aload_n 51 0 K dX0_findLeastMargin_50 rfl rfl rfl ?_
      refine g_iload_n 52 3 K dX0_findLeastMargin_51 rfl rfl rfl ?_
      refine g_aload_n 53 1 K dX0_findLeastMargin_52 rfl rfl rfl ?_
      obtain ⟨S12, hc14, hf⟩ := bd_some hf
      refine g_callVv 56 1 [] K (Fx_ok adK adV) hs (c_X0_layLoads_7 hc14) km_X0_50 kI_X0_layLoads kS_X0_layLoads ki_X0 kC_X0_layLoads mw_X0_layLoads ⟨by decide, by decide, by decide, by decide⟩ rfl rfl rfl rfl (Nat.le_of_ble_eq_true rfl) dX0_findLeastMargin_53 rfl ?_
      refine g_iconst 57 0 K dX0_findLeastMargin_56 rfl (by decide) ?_
      refine g_istore (lv' := [(4, .int 0), (0, .ref (q 1)), (1, .ref (q 7)), (2, .int x6), (3, .int x10)]) 59 4 K dX0_findLeastMargin_57 rfl (by decide) rfl ?_
      refine g_sub [1, 2, 3, 4, 0] rfl ?_
      refine g_loop1 (fun (x17 : Int32) => [(0, .ref (q 1)), (1, .ref (q 7)), (2, .int x6), (3, .int x10), (4, .int x17)]) hf ?_
      intro k15 S16 x17 hk18 hf
      refine g_iload 61 4 K dX0_findLeastMargin_59 rfl rfl ?_
      refine g_aload_n 62 0 K dX0_findLeastMargin_61 rfl rfl rfl ?_
      refine gf_C_1_0 65 K dX0_findLeastMargin_62 rfl ?_
      refine g_icmp_ge 119 68 K hf dX0_findLeastMargin_65 (by decide) rfl (fun hf => ?_) (fun hf => ?_)
      · refine g_iinc (lv' := [(3, .int (x10 + 1)), (0, .ref (q 1)), (1, .ref (q 7)), (2, .int x6), (4, .int x17)]) 122 3 1 K dX0_findLeastMargin_119 rfl rfl (by decide) (by decide) rfl ?_
        refine g_goto 45 K dX0_findLeastMargin_122 (by decide) ?_
        exact g_sub [1, 2, 3, 0] rfl (hk11 _ _ hf)
      · refine g_iconst 69 4 K dX0_findLeastMargin_68 rfl (by decide) ?_
        refine g_aload_n 70 0 K dX0_findLeastMargin_69 rfl rfl rfl ?_
        refine gf_C_1_1 73 K dX0_findLeastMargin_70 rfl ?_
        refine g_iload 75 4 K dX0_findLeastMargin_73 rfl rfl ?_
        refine al_C_2 76 K hf dX0_findLeastMargin_75 rfl (fun x19 hf => ?_)
        refine g_imul 77 K dX0_findLeastMargin_76 rfl ?_
        refine g_aload_n 78 0 K dX0_findLeastMargin_77 rfl rfl rfl ?_
        refine gf_C_1_3 81 K dX0_findLeastMargin_78 rfl ?_
        refine g_iload 83 4 K dX0_findLeastMargin_81 rfl rfl ?_
        refine al_C_4 84 K hf dX0_findLeastMargin_83 rfl (fun x20 hf => ?_)
        refine g_isub 85 K dX0_findLeastMargin_84 rfl ?_
        refine g_istore (lv' := [(5, .int ((4 * x19) - x20)), (0, .ref (q 1)), (1, .ref (q 7)), (2, .int x6), (3, .int x10), (4, .int x17)]) 87 5 K dX0_findLeastMargin_85 rfl (by decide) rfl ?_
        refine g_iload 89 0 K dX0_findLeastMargin_87 rfl rfl ?_
        refine g_aload_n 90 1 K dX0_findLeastMargin_89 rfl rfl rfl ?_
        refine gf_C_1_9 93 K dX0_findLeastMargin_90 rfl ?_
        refine g_icmp_ge 113 96 K hf dX0_findLeastMargin_93 (by decide) rfl (fun hf => ?_) (fun hf => ?_)
        · refine g_iinc (lv' := [(4, .int (x17 + 1)), (5, .int ((4 * x19) - x20)), (0, .ref (q 1)), (1, .ref (q 7)), (2, .int x6), (3, .int x10)]) 116 5 1 K dX0_findLeastMargin_113 rfl rfl (by decide) (by decide) rfl ?_
          refine g_goto 59 K dX0_findLeastMargin_116 (by decide) ?_
          exact g_sub [2, 3, 4, 5, 0] rfl (hk18 _ _ hf)
        · refine g_aload_n 97 1 K dX0_findLeastMargin_96 rfl rfl rfl ?_
          refine g_iload 99 0 K dX0_findLeastMargin_97 rfl rfl ?_
          refine pf_C_1_9 102 K hf dX0_findLeastMargin_99 rfl (fun S21 hf => ?_)
          refine g_aload_n 103 1 K dX0_findLeastMargin_102 rfl rfl rfl ?_
          refine g_iload 105 5 K dX0_findLeastMargin_103 rfl rfl ?_
          refine pf_C_1_10 108 K hf dX0_findLeastMargin_105 rfl (fun S22 hf => ?_)
          refine g_aload_n 109 1 K dX0_findLeastMargin_108 rfl rfl rfl ?_
          refine g_iload_n 110 4 K dX0_findLeastMargin_109 rfl rfl rfl ?_
          refine pf_C_1_11 113 K hf dX0_findLeastMargin_110 rfl (fun S23 hf => ?_)
          refine g_iinc (lv' := [(4, .int (x17 + 1)), (5, .int ((4 * x19) - x20)), (0, .ref (q 1)), (1, .ref (q 7)), (2, .int x6), (3, .int x10)]) 116 5 1 K dX0_findLeastMargin_113 rfl rfl (by decide) (by decide) rfl ?_
          refine g_goto 59 K dX0_findLeastMargin_116 (by decide) ?_
          exact g_sub [2, 3, 4, 5, 0] rfl (hk18 _ _ hf)
  · refine g_if_le 41 23 K hf dX0_findLeastMargin_20 (by decide) rfl (fun hf => ?_) (fun hf => ?_)
    · refine g_iconst 42 (-1) K dX0_findLeastMargin_41 rfl (by decide) ?_
      exact g_sub [0, 1] rfl (hj7 _ _ hf)
    · refine g_aload_n 24 0 K dX0_findLeastMargin_23 rfl rfl rfl ?_
      refine gf_C_1_0 27 K dX0_findLeastMargin_24 rfl ?_
      refine g_iconst 28 1 K dX0_findLeastMargin_27 rfl (by decide) ?_
      refine g_isub 29 K dX0_findLeastMargin_28 rfl ?_
      refine g_aload_n 30 1 K dX0_findLeastMargin_29 rfl rfl rfl ?_
      refine g_aload_n 31 0 K dX0_findLeastMargin_30 rfl rfl rfl ?_
      refine gf_C_1_8 34 K dX0_findLeastMargin_31 rfl ?_
      refine g_iconst 35 1 K dX0_findLeastMargin_34 rfl (by decide) ?_
      refine g_isub 36 K dX0_findLeastMargin_35 rfl ?_
      refine al_C_7 37 K hf dX0_findLeastMargin_36 rfl (fun x24 hf => ?_)
      refine g_iadd 38 K dX0_findLeastMargin_37 rfl ?_
      refine g_goto 42 K dX0_findLeastMargin_38 (by decide) ?_
      exact g_sub [0, 1] rfl (hj7 _ _ hf)
def f_X0_leastMargin (N n : Nat) (S : St) (a1 : Int32) : Option (Int32 × St) :=
  (f_X0_findLeastMargin_7 N n S ).bind fun S1 =>
  if a1 = 0 then
    some (S1.1 109, S1)
  else
    if a1 = 1 then
      some (S1.1 110, S1)
    else
      some (S1.1 111, S1)
set_option maxRecDepth 20000 in
set_option maxHeartbeats 4000000 in
theorem c_X0_leastMargin {l : Launch} {D : va_G} {q : Nat → Nat} {n : Nat} {cI cB cZ : ClassId} {adK adV : Nat → Nat} {N : Nat} {S Sz : St} {rz : Int32} {a1 : Int32} (hf : f_X0_leastMargin N n S a1 = some (rz, Sz)) : Cn l yX0_leastMargin cX0_leastMargin 2 (some .int) 5 114 D (tyL cI cB cZ) (Fx adK adV) (wC q n cI cB cZ) [.ref (q 1), .int a1] S (some (.int rz)) Sz := by
  refine c_of (by decide) fl_wC (Nat.le_of_ble_eq_true rfl) [(0, .ref (q 1)), (1, .int a1)] rfl ?_
  intro p e s m args below meth c K hr hlk hs
  have K : Ok p s m args c cX0_leastMargin 2 RX0 D (tyL cI cB cZ) (Aw (wC q n cI cB cZ) s.heap.size) (wC q n cI cB cZ) := K
  unfold f_X0_leastMargin at hf
  refine g_aload_n 1 0 K dX0_leastMargin_0 rfl rfl rfl ?_
  refine g_aload_n 2 0 K dX0_leastMargin_1 rfl rfl rfl ?_
  refine gf_C_1_6 5 K dX0_leastMargin_2 rfl ?_
  obtain ⟨S1, hc3, hf⟩ := bd_some hf
  refine g_callVv 8 1 [] K (Fx_ok adK adV) hs (c_X0_findLeastMargin_7 hc3) km_X0_54 kI_X0_findLeastMargin kS_X0_findLeastMargin ki_X0 kC_X0_findLeastMargin mw_X0_findLeastMargin ⟨by decide, by decide, by decide, by decide⟩ rfl rfl rfl rfl (Nat.le_of_ble_eq_true rfl) dX0_leastMargin_5 rfl ?_
  refine g_iload_n 9 1 K dX0_leastMargin_8 rfl rfl rfl ?_
  refine g_if_ne 17 12 K hf dX0_leastMargin_9 (by decide) rfl (fun hf => ?_) (fun hf => ?_)
  · refine g_aload_n 13 0 K dX0_leastMargin_12 rfl rfl rfl ?_
    refine gf_C_1_9 16 K dX0_leastMargin_13 rfl ?_
    exact g_iret K hr hlk hf dX0_leastMargin_16
  · refine g_iload_n 18 1 K dX0_leastMargin_17 rfl rfl rfl ?_
    refine g_iconst 19 1 K dX0_leastMargin_18 rfl (by decide) ?_
    refine g_icmp_ne 29 22 K hf dX0_leastMargin_19 (by decide) rfl (fun hf => ?_) (fun hf => ?_)
    · refine g_aload_n 23 0 K dX0_leastMargin_22 rfl rfl rfl ?_
      refine gf_C_1_10 26 K dX0_leastMargin_23 rfl ?_
      refine g_goto 33 K dX0_leastMargin_26 (by decide) ?_
      exact g_iret K hr hlk hf dX0_leastMargin_33
    · refine g_aload_n 30 0 K dX0_leastMargin_29 rfl rfl rfl ?_
      refine gf_C_1_11 33 K dX0_leastMargin_30 rfl ?_
      exact g_iret K hr hlk hf dX0_leastMargin_33
def f_X0_layLoads_8 (N n : Nat) (S : St) (a1 : Int32) : Option St :=
  (f_J7_fill_53178_4 N n S 0).bind fun S1 =>
  loop1 (fun (k4 : St → Int32 → Option St) (S5 : St) (x6 : Int32) =>
    if (S5.1 108) ≤ x6 then
      some S5
    else
      (rd (S5.2 8) 6 x6).bind fun x8 =>
      bd2 (f_X0_hasHull N n S5 (a1 - x8)) fun r10 S9 =>
      if r10 = 0 then
        k4 S9 (x6 + 1)
      else
        (rd (S9.2 6) 6 x6).bind fun x12 =>
        (f_X0_press N n S9 (a1 - x8) (2 * x12)).bind fun S13 =>
        (rd (S13.2 6) 6 x6).bind fun x16 =>
        (f_X0_press N n S13 ((a1 - x8) - 1) x16).bind fun S17 =>
        (rd (S17.2 6) 6 x6).bind fun x20 =>
        (f_X0_press N n S17 ((a1 - x8) + 1) x20).bind fun S21 =>
        k4 S21 (x6 + 1)) N S1 0
set_option maxRecDepth 20000 in
set_option maxHeartbeats 4000000 in
theorem c_X0_layLoads_8 {l : Launch} {D : va_G} {q : Nat → Nat} {n : Nat} {cI cB cZ : ClassId} {adK adV : Nat → Nat} {N : Nat} {S Sz : St} {a1 : Int32} (hf : f_X0_layLoads_8 N n S a1 = some Sz) : Cn l yX0_layLoads cX0_layLoads 5 none 3 65 D (tyL cI cB cZ) (Fx adK adV) (wC q n cI cB cZ) [.ref (q 1), .int a1, .ref (q 8)] S none Sz := by
  refine c_of (by decide) fl_wC (Nat.le_of_ble_eq_true rfl) [(0, .ref (q 1)), (1, .int a1), (2, .ref (q 8))] rfl ?_
  intro p e s m args below meth c K hr hlk hs
  have K : Ok p s m args c cX0_layLoads 5 RX0 D (tyL cI cB cZ) (Aw (wC q n cI cB cZ) s.heap.size) (wC q n cI cB cZ) := K
  unfold f_X0_layLoads_8 at hf
  refine g_aload_n 1 0 K dX0_layLoads_0 rfl rfl rfl ?_
  refine gf_C_1_3 4 K dX0_layLoads_1 rfl ?_
  refine g_iconst 5 0 K dX0_layLoads_4 rfl (by decide) ?_
  obtain ⟨S1, hc3, hf⟩ := bd_some hf
  refine g_callSv 8 [] K (Fx_ok adK adV) hs (c_J7_fill_53178_4 hc3) km_X0_37 kt_J7_fill_53178 ki_J7 kC_J7_fill_53178 mw_J7_fill_53178 ⟨by decide, by decide, by decide, by decide⟩ rfl rfl (Nat.le_of_ble_eq_true rfl) dX0_layLoads_5 rfl ?_
  refine g_iconst 9 0 K dX0_layLoads_8 rfl (by decide) ?_
  refine g_istore_n (lv' := [(3, .int 0), (0, .ref (q 1)), (1, .int a1), (2, .ref (q 8))]) 10 3 K dX0_layLoads_9 rfl rfl (by decide) rfl ?_
  refine g_sub [1, 2, 3, 0] rfl ?_
  refine g_loop1 (fun (x6 : Int32) => [(0, .ref (q 1)), (1, .int a1), (2, .ref (q 8)), (3, .int x6)]) hf ?_
  intro k4 S5 x6 hk7 hf
  refine g_iload_n 11 3 K dX0_layLoads_10 rfl rfl rfl ?_
  refine g_aload_n 12 0 K dX0_layLoads_11 rfl rfl rfl ?_
  refine gf_C_1_8 15 K dX0_layLoads_12 rfl ?_
  refine g_icmp_ge 82 18 K hf dX0_layLoads_15 (by decide) rfl (fun hf => ?_) (fun hf => ?_)
  · exact g_vret K hr hlk hf dX0_layLoads_82
  · refine g_iload_n 19 1 K dX0_layLoads_18 rfl rfl rfl ?_
    refine g_aload_n 20 2 K dX0_layLoads_19 rfl rfl rfl ?_
    refine g_iload_n 21 3 K dX0_layLoads_20 rfl rfl rfl ?_
    refine al_C_8 22 K hf dX0_layLoads_21 rfl (fun x8 hf => ?_)
    refine g_isub 23 K dX0_layLoads_22 rfl ?_
    refine g_istore (lv' := [(4, .int (a1 - x8)), (0, .ref (q 1)), (1, .int a1), (2, .ref (q 8)), (3, .int x6)]) 25 4 K dX0_layLoads_23 rfl (by decide) rfl ?_
    refine g_aload_n 26 1 K dX0_layLoads_25 rfl rfl rfl ?_
    refine g_iload 28 0 K dX0_layLoads_26 rfl rfl ?_
    obtain ⟨r10, S9, hc11, hf⟩ := bd2_some hf
    refine g_callVi 31 1 [] K (Fx_ok adK adV) hs (c_X0_hasHull hc11) km_X0_70 kI_X0_hasHull kS_X0_hasHull ki_X0 kC_X0_hasHull mw_X0_hasHull ⟨by decide, by decide, by decide, by decide⟩ rfl rfl rfl rfl (Nat.le_of_ble_eq_true rfl) dX0_layLoads_28 rfl ?_
    refine g_if_eq 76 34 K hf dX0_layLoads_31 (by decide) rfl (fun hf => ?_) (fun hf => ?_)
    · refine g_iinc (lv' := [(3, .int (x6 + 1)), (4, .int (a1 - x8)), (0, .ref (q 1)), (1, .int a1), (2, .ref (q 8))]) 79 4 1 K dX0_layLoads_76 rfl rfl (by decide) (by decide) rfl ?_
      refine g_goto 10 K dX0_layLoads_79 (by decide) ?_
      exact g_sub [2, 3, 4, 0] rfl (hk7 _ _ hf)
    · refine g_aload_n 35 1 K dX0_layLoads_34 rfl rfl rfl ?_
      refine g_iload 37 0 K dX0_layLoads_35 rfl rfl ?_
      refine g_iconst 38 2 K dX0_layLoads_37 rfl (by decide) ?_
      refine g_aload_n 39 1 K dX0_layLoads_38 rfl rfl rfl ?_
      refine gf_C_1_5 42 K dX0_layLoads_39 rfl ?_
      refine g_iload_n 43 4 K dX0_layLoads_42 rfl rfl rfl ?_
      refine al_C_6 44 K hf dX0_layLoads_43 rfl (fun x12 hf => ?_)
      refine g_imul 45 K dX0_layLoads_44 rfl ?_
      obtain ⟨S13, hc15, hf⟩ := bd_some hf
      refine g_callVv 48 1 [] K (Fx_ok adK adV) hs (c_X0_press hc15) km_X0_74 kI_X0_press kS_X0_press ki_X0 kC_X0_press mw_X0_press ⟨by decide, by decide, by decide, by decide⟩ rfl rfl rfl rfl (Nat.le_of_ble_eq_true rfl) dX0_layLoads_45 rfl ?_
      refine g_aload_n 49 1 K dX0_layLoads_48 rfl rfl rfl ?_
      refine g_iload 51 0 K dX0_layLoads_49 rfl rfl ?_
      refine g_iconst 52 1 K dX0_layLoads_51 rfl (by decide) ?_
      refine g_isub 53 K dX0_layLoads_52 rfl ?_
      refine g_aload_n 54 1 K dX0_layLoads_53 rfl rfl rfl ?_
      refine gf_C_1_5 57 K dX0_layLoads_54 rfl ?_
      refine g_iload_n 58 4 K dX0_layLoads_57 rfl rfl rfl ?_
      refine al_C_6 59 K hf dX0_layLoads_58 rfl (fun x16 hf => ?_)
      obtain ⟨S17, hc19, hf⟩ := bd_some hf
      refine g_callVv 62 1 [] K (Fx_ok adK adV) hs (c_X0_press hc19) km_X0_74 kI_X0_press kS_X0_press ki_X0 kC_X0_press mw_X0_press ⟨by decide, by decide, by decide, by decide⟩ rfl rfl rfl rfl (Nat.le_of_ble_eq_true rfl) dX0_layLoads_59 rfl ?_
      refine g_aload_n 63 1 K dX0_layLoads_62 rfl rfl rfl ?_
      refine g_iload 65 0 K dX0_layLoads_63 rfl rfl ?_
      refine g_iconst 66 1 K dX0_layLoads_65 rfl (by decide) ?_
      refine g_iadd 67 K dX0_layLoads_66 rfl ?_
      refine g_aload_n 68 1 K dX0_layLoads_67 rfl rfl rfl ?_
      refine gf_C_1_5 71 K dX0_layLoads_68 rfl ?_
      refine g_iload_n 72 4 K dX0_layLoads_71 rfl rfl rfl ?_
      refine al_C_6 73 K hf dX0_layLoads_72 rfl (fun x20 hf => ?_)
      obtain ⟨S21, hc23, hf⟩ := bd_some hf
      refine g_callVv 76 1 [] K (Fx_ok adK adV) hs (c_X0_press hc23) km_X0_74 kI_X0_press kS_X0_press ki_X0 kC_X0_press mw_X0_press ⟨by decide, by decide, by decide, by decide⟩ rfl rfl rfl rfl (Nat.le_of_ble_eq_true rfl) dX0_layLoads_73 rfl ?_
      refine g_iinc (lv' := [(3, .int (x6 + 1)), (4, .int (a1 - x8)), (0, .ref (q 1)), (1, .int a1), (2, .ref (q 8))]) 79 4 1 K dX0_layLoads_76 rfl rfl (by decide) (by decide) rfl ?_
      refine g_goto 10 K dX0_layLoads_79 (by decide) ?_
      exact g_sub [2, 3, 4, 0] rfl (hk7 _ _ hf)
def f_X0_findLeastMargin_8 (N n : Nat) (S : St)  : Option St :=
  lett (pF S 109 2147483647) fun S1 =>
  lett (pF S1 110 (-1)) fun S2 =>
  lett (pF S2 111 (-1)) fun S3 =>
  lett (fun (S5 : St) (x6 : Int32) =>
    loop1 (fun (k8 : St → Int32 → Option St) (S9 : St) (x10 : Int32) =>
      if x6 < x10 then
        some S9
      else
        (f_X0_layLoads_8 N n S9 x10).bind fun S12 =>
        loop1 (fun (k15 : St → Int32 → Option St) (S16 : St) (x17 : Int32) =>
          if (S16.1 100) ≤ x17 then
            k8 S16 (x10 + 1)
          else
            (rd (S16.2 2) n x17).bind fun x19 =>
            (rd (S16.2 4) n x17).bind fun x20 =>
            if (S16.1 109) ≤ ((4 * x19) - x20) then
              k15 S16 (x17 + 1)
            else
              lett (pF S16 109 ((4 * x19) - x20)) fun S21 =>
              lett (pF S21 110 x17) fun S22 =>
              lett (pF S22 111 x10) fun S23 =>
              k15 S23 (x17 + 1)) N S12 0) N S5 0) fun j4 =>
  if (S3.1 108) ≤ 0 then
    j4 S3 (-1)
  else
    (rd (S3.2 8) 6 ((S3.1 108) - 1)).bind fun x24 =>
    j4 S3 (((S3.1 100) - 1) + x24)
set_option maxRecDepth 20000 in
set_option maxHeartbeats 4000000 in
theorem c_X0_findLeastMargin_8 {l : Launch} {D : va_G} {q : Nat → Nat} {n : Nat} {cI cB cZ : ClassId} {adK adV : Nat → Nat} {N : Nat} {S Sz : St}  (hf : f_X0_findLeastMargin_8 N n S  = some Sz) : Cn l yX0_findLeastMargin cX0_findLeastMargin 6 none 4 89 D (tyL cI cB cZ) (Fx adK adV) (wC q n cI cB cZ) [.ref (q 1), .ref (q 8)] S none Sz := by
  refine c_of (by decide) fl_wC (Nat.le_of_ble_eq_true rfl) [(0, .ref (q 1)), (1, .ref (q 8))] rfl ?_
  intro p e s m args below meth c K hr hlk hs
  have K : Ok p s m args c cX0_findLeastMargin 6 RX0 D (tyL cI cB cZ) (Aw (wC q n cI cB cZ) s.heap.size) (wC q n cI cB cZ) := K
  unfold f_X0_findLeastMargin_8 at hf
  refine g_aload_n 1 0 K dX0_findLeastMargin_0 rfl rfl rfl ?_
  refine g_ldc 3 2147483647 K dX0_findLeastMargin_1 rfl kc_X0_69 ?_
  refine pf_C_1_9 6 K hf dX0_findLeastMargin_3 rfl (fun S1 hf => ?_)
  refine g_aload_n 7 0 K dX0_findLeastMargin_6 rfl rfl rfl ?_
  refine g_iconst 8 (-1) K dX0_findLeastMargin_7 rfl (by decide) ?_
  refine pf_C_1_10 11 K hf dX0_findLeastMargin_8 rfl (fun S2 hf => ?_)
  refine g_aload_n 12 0 K dX0_findLeastMargin_11 rfl rfl rfl ?_
  refine g_iconst 13 (-1) K dX0_findLeastMargin_12 rfl (by decide) ?_
  refine pf_C_1_11 16 K hf dX0_findLeastMargin_13 rfl (fun S3 hf => ?_)
  refine g_aload_n 17 0 K dX0_findLeastMargin_16 rfl rfl rfl ?_
  refine gf_C_1_8 20 K dX0_findLeastMargin_17 rfl ?_
  refine g_join1 42 (fun (x6 : Int32) => [(0, .ref (q 1)), (1, .ref (q 8))]) (fun (x6 : Int32) => [.int x6]) hf (fun S5 x6 hf => ?_) (fun j4 hj7 hf => ?_)
  · refine g_istore_n (lv' := [(2, .int x6), (0, .ref (q 1)), (1, .ref (q 8))]) 43 2 K dX0_findLeastMargin_42 rfl rfl (by decide) rfl ?_
    refine g_iconst 44 0 K dX0_findLeastMargin_43 rfl (by decide) ?_
    refine g_istore_n (lv' := [(3, .int 0), (2, .int x6), (0, .ref (q 1)), (1, .ref (q 8))]) 45 3 K dX0_findLeastMargin_44 rfl rfl (by decide) rfl ?_
    refine g_sub [2, 3, 1, 0] rfl ?_
    refine g_loop1 (fun (x10 : Int32) => [(0, .ref (q 1)), (1, .ref (q 8)), (2, .int x6), (3, .int x10)]) hf ?_
    intro k8 S9 x10 hk11 hf
    refine g_iload_n 46 3 K dX0_findLeastMargin_45 rfl rfl rfl ?_
    refine g_iload_n 47 2 K dX0_findLeastMargin_46 rfl rfl rfl ?_
    refine g_icmp_gt 125 50 K hf dX0_findLeastMargin_47 (by decide) rfl (fun hf => ?_) (fun hf => ?_)
    · exact g_vret K hr hlk hf dX0_findLeastMargin_125
    · refine g_aload_n 51 0 K dX0_findLeastMargin_50 rfl rfl rfl ?_
      refine g_iload_n 52 3 K dX0_findLeastMargin_51 rfl rfl rfl ?_
      refine g_aload_n 53 1 K dX0_findLeastMargin_52 rfl rfl rfl ?_
      obtain ⟨S12, hc14, hf⟩ := bd_some hf
      refine g_callVv 56 1 [] K (Fx_ok adK adV) hs (c_X0_layLoads_8 hc14) km_X0_50 kI_X0_layLoads kS_X0_layLoads ki_X0 kC_X0_layLoads mw_X0_layLoads ⟨by decide, by decide, by decide, by decide⟩ rfl rfl rfl rfl (Nat.le_of_ble_eq_true rfl) dX0_findLeastMargin_53 rfl ?_
      refine g_iconst 57 0 K dX0_findLeastMargin_56 rfl (by decide) ?_
      refine g_istore (lv' := [(4, .int 0), (0, .ref (q 1)), (1, .ref (q 8)), (2, .int x6), (3, .int x10)]) 59 4 K dX0_findLeastMargin_57 rfl (by decide) rfl ?_
      refine g_sub [1, 2, 3, 4, 0] rfl ?_
      refine g_loop1 (fun (x17 : Int32) => [(0, .ref (q 1)), (1, .ref (q 8)), (2, .int x6), (3, .int x10), (4, .int x17)]) hf ?_
      intro k15 S16 x17 hk18 hf
      refine g_iload 61 4 K dX0_findLeastMargin_59 rfl rfl ?_
      refine g_aload_n 62 0 K dX0_findLeastMargin_61 rfl rfl rfl ?_
      refine gf_C_1_0 65 K dX0_findLeastMargin_62 rfl ?_
      refine g_icmp_ge 119 68 K hf dX0_findLeastMargin_65 (by decide) rfl (fun hf => ?_) (fun hf => ?_)
      · refine g_iinc (lv' := [(3, .int (x10 + 1)), (0, .ref (q 1)), (1, .ref (q 8)), (2, .int x6), (4, .int x17)]) 122 3 1 K dX0_findLeastMargin_119 rfl rfl (by decide) (by decide) rfl ?_
        refine g_goto 45 K dX0_findLeastMargin_122 (by decide) ?_
        exact g_sub [1, 2, 3, 0] rfl (hk11 _ _ hf)
      · refine g_iconst 69 4 K dX0_findLeastMargin_68 rfl (by decide) ?_
        refine g_aload_n 70 0 K dX0_findLeastMargin_69 rfl rfl rfl ?_
        refine gf_C_1_1 73 K dX0_findLeastMargin_70 rfl ?_
        refine g_iload 75 4 K dX0_findLeastMargin_73 rfl rfl ?_
        refine al_C_2 76 K hf dX0_findLeastMargin_75 rfl (fun x19 hf => ?_)
        refine g_imul 77 K dX0_findLeastMargin_76 rfl ?_
        refine g_aload_n 78 0 K dX0_findLeastMargin_77 rfl rfl rfl ?_
        refine gf_C_1_3 81 K dX0_findLeastMargin_78 rfl ?_
        refine g_iload 83 4 K dX0_findLeastMargin_81 rfl rfl ?_
        refine al_C_4 84 K hf dX0_findLeastMargin_83 rfl (fun x20 hf => ?_)
        refine g_isub 85 K dX0_findLeastMargin_84 rfl ?_
        refine g_istore (lv' := [(5, .int ((4 * x19) - x20)), (0, .ref (q 1)), (1, .ref (q 8)), (2, .int x6), (3, .int x10), (4, .int x17)]) 87 5 K dX0_findLeastMargin_85 rfl (by decide) rfl ?_
        refine g_iload 89 0 K dX0_findLeastMargin_87 rfl rfl ?_
        refine g_aload_n 90 1 K dX0_findLeastMargin_89 rfl rfl rfl ?_
        refine gf_C_1_9 93 K dX0_findLeastMargin_90 rfl ?_
        refine g_icmp_ge 113 96 K hf dX0_findLeastMargin_93 (by decide) rfl (fun hf => ?_) (fun hf => ?_)
        · refine g_iinc (lv' := [(4, .int (x17 + 1)), (5, .int ((4 * x19) - x20)), (0, .ref (q 1)), (1, .ref (q 8)), (2, .int x6), (3, .int x10)]) 116 5 1 K dX0_findLeastMargin_113 rfl rfl (by decide) (by decide) rfl ?_
          refine g_goto 59 K dX0_findLeastMargin_116 (by decide) ?_
          exact g_sub [2, 3, 4, 5, 0] rfl (hk18 _ _ hf)
        · refine g_aload_n 97 1 K dX0_findLeastMargin_96 rfl rfl rfl ?_
          refine g_iload 99 0 K dX0_findLeastMargin_97 rfl rfl ?_
          refine pf_C_1_9 102 K hf dX0_findLeastMargin_99 rfl (fun S21 hf => ?_)
          refine g_aload_n 103 1 K dX0_findLeastMargin_102 rfl rfl rfl ?_
          refine g_iload 105 5 K dX0_findLeastMargin_103 rfl rfl ?_
          refine pf_C_1_10 108 K hf dX0_findLeastMargin_105 rfl (fun S22 hf => ?_)
          refine g_aload_n 109 1 K dX0_findLeastMargin_108 rfl rfl rfl ?_
          refine g_iload_n 110 4 K dX0_findLeastMargin_109 rfl rfl rfl ?_
          refine pf_C_1_11 113 K hf dX0_findLeastMargin_110 rfl (fun S23 hf => ?_)
          refine g_iinc (lv' := [(4, .int (x17 + 1)), (5, .int ((4 * x19) - x20)), (0, .ref (q 1)), (1, .ref (q 8)), (2, .int x6), (3, .int x10)]) 116 5 1 K dX0_findLeastMargin_113 rfl rfl (by decide) (by decide) rfl ?_
          refine g_goto 59 K dX0_findLeastMargin_116 (by decide) ?_
          exact g_sub [2, 3, 4, 5, 0] rfl (hk18 _ _ hf)
  · refine g_if_le 41 23 K hf dX0_findLeastMargin_20 (by decide) rfl (fun hf => ?_) (fun hf => ?_)
    · refine g_iconst 42 (-1) K dX0_findLeastMargin_41 rfl (by decide) ?_
      exact g_sub [0, 1] rfl (hj7 _ _ hf)
    · refine g_aload_n 24 0 K dX0_findLeastMargin_23 rfl rfl rfl ?_
      refine gf_C_1_0 27 K dX0_findLeastMargin_24 rfl ?_
      refine g_iconst 28 1 K dX0_findLeastMargin_27 rfl (by decide) ?_
      refine g_isub 29 K dX0_findLeastMargin_28 rfl ?_
      refine g_aload_n 30 1 K dX0_findLeastMargin_29 rfl rfl rfl ?_
      refine g_aload_n 31 0 K dX0_findLeastMargin_30 rfl rfl rfl ?_
      refine gf_C_1_8 34 K dX0_findLeastMargin_31 rfl ?_
      refine g_iconst 35 1 K dX0_findLeastMargin_34 rfl (by decide) ?_
      refine g_isub 36 K dX0_findLeastMargin_35 rfl ?_
      refine al_C_8 37 K hf dX0_findLeastMargin_36 rfl (fun x24 hf => ?_)
      refine g_iadd 38 K dX0_findLeastMargin_37 rfl ?_
      refine g_goto 42 K dX0_findLeastMargin_38 (by decide) ?_
      exact g_sub [0, 1] rfl (hj7 _ _ hf)
def f_X0_leastEvenGap (N n : Nat) (S : St)  : Option (Int32 × St) :=
  loop1 (fun (k1 : St → Int32 → Option (Int32 × St)) (S2 : St) (x3 : Int32) =>
    if 12 < x3 then
      some ((-1), S2)
    else
      loop1 (fun (k5 : St → Int32 → Option (Int32 × St)) (S6 : St) (x7 : Int32) =>
        if (S6.1 108) ≤ x7 then
          (f_X0_findLeastMargin_8 N n S6 ).bind fun S9 =>
          if (S9.1 109) < 0 then
            k1 S9 (x3 + 1)
          else
            some (x3, S9)
        else
          (wr S6 8 6 x7 (x7 * x3)).bind fun S12 =>
          k5 S12 (x7 + 1)) N S2 0) N S 1
set_option maxRecDepth 20000 in
set_option maxHeartbeats 4000000 in
theorem c_X0_leastEvenGap {l : Launch} {D : va_G} {q : Nat → Nat} {n : Nat} {cI cB cZ : ClassId} {adK adV : Nat → Nat} {N : Nat} {S Sz : St} {rz : Int32}  (hf : f_X0_leastEvenGap N n S  = some (rz, Sz)) : Cn l yX0_leastEvenGap cX0_leastEvenGap 3 (some .int) 5 114 D (tyL cI cB cZ) (Fx adK adV) (wC q n cI cB cZ) [.ref (q 1)] S (some (.int rz)) Sz := by
  refine c_of (by decide) fl_wC (Nat.le_of_ble_eq_true rfl) [(0, .ref (q 1))] rfl ?_
  intro p e s m args below meth c K hr hlk hs
  have K : Ok p s m args c cX0_leastEvenGap 3 RX0 D (tyL cI cB cZ) (Aw (wC q n cI cB cZ) s.heap.size) (wC q n cI cB cZ) := K
  unfold f_X0_leastEvenGap at hf
  refine g_iconst 1 1 K dX0_leastEvenGap_0 rfl (by decide) ?_
  refine g_istore_n (lv' := [(1, .int 1), (0, .ref (q 1))]) 2 1 K dX0_leastEvenGap_1 rfl rfl (by decide) rfl ?_
  refine g_sub [1, 0] rfl ?_
  refine g_loop1 (fun (x3 : Int32) => [(0, .ref (q 1)), (1, .int x3)]) hf ?_
  intro k1 S2 x3 hk4 hf
  refine g_iload_n 3 1 K dX0_leastEvenGap_2 rfl rfl rfl ?_
  refine g_bipush 5 12 K dX0_leastEvenGap_3 rfl (by decide) ?_
  refine g_icmp_gt 56 8 K hf dX0_leastEvenGap_5 (by decide) rfl (fun hf => ?_) (fun hf => ?_)
  · refine g_iconst 57 (-1) K dX0_leastEvenGap_56 rfl (by decide) ?_
    exact g_iret K hr hlk hf dX0_leastEvenGap_57
  · refine g_iconst 9 0 K dX0_leastEvenGap_8 rfl (by decide) ?_
    refine g_istore_n (lv' := [(2, .int 0), (0, .ref (q 1)), (1, .int x3)]) 10 2 K dX0_leastEvenGap_9 rfl rfl (by decide) rfl ?_
    refine g_sub [1, 2, 0] rfl ?_
    refine g_loop1 (fun (x7 : Int32) => [(0, .ref (q 1)), (1, .int x3), (2, .int x7)]) hf ?_
    intro k5 S6 x7 hk8 hf
    refine g_iload_n 11 2 K dX0_leastEvenGap_10 rfl rfl rfl ?_
    refine g_aload_n 12 0 K dX0_leastEvenGap_11 rfl rfl rfl ?_
    refine gf_C_1_8 15 K dX0_leastEvenGap_12 rfl ?_
    refine g_icmp_ge 33 18 K hf dX0_leastEvenGap_15 (by decide) rfl (fun hf => ?_) (fun hf => ?_)
    · refine g_aload_n 34 0 K dX0_leastEvenGap_33 rfl rfl rfl ?_
      refine g_aload_n 35 0 K dX0_leastEvenGap_34 rfl rfl rfl ?_
      refine gf_C_1_7 38 K dX0_leastEvenGap_35 rfl ?_
      obtain ⟨S9, hc11, hf⟩ := bd_some hf
      refine g_callVv 41 1 [] K (Fx_ok adK adV) hs (c_X0_findLeastMargin_8 hc11) km_X0_54 kI_X0_findLeastMargin kS_X0_findLeastMargin ki_X0 kC_X0_findLeastMargin mw_X0_findLeastMargin ⟨by decide, by decide, by decide, by decide⟩ rfl rfl rfl rfl (Nat.le_of_ble_eq_true rfl) dX0_leastEvenGap_38 rfl ?_
      refine g_aload_n 42 0 K dX0_leastEvenGap_41 rfl rfl rfl ?_
      refine gf_C_1_9 45 K dX0_leastEvenGap_42 rfl ?_
      refine g_if_lt 50 48 K hf dX0_leastEvenGap_45 (by decide) rfl (fun hf => ?_) (fun hf => ?_)
      · refine g_iinc (lv' := [(1, .int (x3 + 1)), (0, .ref (q 1)), (2, .int x7)]) 53 1 1 K dX0_leastEvenGap_50 rfl rfl (by decide) (by decide) rfl ?_
        refine g_goto 2 K dX0_leastEvenGap_53 (by decide) ?_
        exact g_sub [1, 0] rfl (hk4 _ _ hf)
      · refine g_iload_n 49 1 K dX0_leastEvenGap_48 rfl rfl rfl ?_
        exact g_iret K hr hlk hf dX0_leastEvenGap_49
    · refine g_aload_n 19 0 K dX0_leastEvenGap_18 rfl rfl rfl ?_
      refine gf_C_1_7 22 K dX0_leastEvenGap_19 rfl ?_
      refine g_iload_n 23 2 K dX0_leastEvenGap_22 rfl rfl rfl ?_
      refine g_iload_n 24 2 K dX0_leastEvenGap_23 rfl rfl rfl ?_
      refine g_iload_n 25 1 K dX0_leastEvenGap_24 rfl rfl rfl ?_
      refine g_imul 26 K dX0_leastEvenGap_25 rfl ?_
      refine as_C_8 27 K hf dX0_leastEvenGap_26 rfl (fun S12 hf => ?_)
      refine g_iinc (lv' := [(2, .int (x7 + 1)), (0, .ref (q 1)), (1, .int x3)]) 30 2 1 K dX0_leastEvenGap_27 rfl rfl (by decide) (by decide) rfl ?_
      refine g_goto 10 K dX0_leastEvenGap_30 (by decide) ?_
      exact g_sub [1, 2, 0] rfl (hk8 _ _ hf)
def f_X1_shipCount (N n : Nat) (S : St)  : Option (Int32 × St) :=
  some (S.1 910, S)
set_option maxRecDepth 20000 in
set_option maxHeartbeats 4000000 in
theorem c_X1_shipCount {l : Launch} {D : va_G} {q : Nat → Nat} {n : Nat} {cI cB cZ : ClassId} {adK adV : Nat → Nat} {N : Nat} {S Sz : St} {rz : Int32}  (hf : f_X1_shipCount N n S  = some (rz, Sz)) : Cn l yX1_shipCount cX1_shipCount 1 (some .int) 0 0 D (tyL cI cB cZ) (Fx adK adV) (wC q n cI cB cZ) [.ref (q 9)] S (some (.int rz)) Sz := by
  refine c_of (by decide) fl_wC (Nat.le_of_ble_eq_true rfl) [(0, .ref (q 9))] rfl ?_
  intro p e s m args below meth c K hr hlk hs
  have K : Ok p s m args c cX1_shipCount 1 RX1 D (tyL cI cB cZ) (Aw (wC q n cI cB cZ) s.heap.size) (wC q n cI cB cZ) := K
  unfold f_X1_shipCount at hf
  refine g_aload_n 1 0 K dX1_shipCount_0 rfl rfl rfl ?_
  refine gf_C_9_10 4 K dX1_shipCount_1 rfl ?_
  exact g_iret K hr hlk hf dX1_shipCount_4
def f_X1_crosserCount (N n : Nat) (S : St)  : Option (Int32 × St) :=
  some (S.1 911, S)
set_option maxRecDepth 20000 in
set_option maxHeartbeats 4000000 in
theorem c_X1_crosserCount {l : Launch} {D : va_G} {q : Nat → Nat} {n : Nat} {cI cB cZ : ClassId} {adK adV : Nat → Nat} {N : Nat} {S Sz : St} {rz : Int32}  (hf : f_X1_crosserCount N n S  = some (rz, Sz)) : Cn l yX1_crosserCount cX1_crosserCount 1 (some .int) 0 0 D (tyL cI cB cZ) (Fx adK adV) (wC q n cI cB cZ) [.ref (q 9)] S (some (.int rz)) Sz := by
  refine c_of (by decide) fl_wC (Nat.le_of_ble_eq_true rfl) [(0, .ref (q 9))] rfl ?_
  intro p e s m args below meth c K hr hlk hs
  have K : Ok p s m args c cX1_crosserCount 1 RX1 D (tyL cI cB cZ) (Aw (wC q n cI cB cZ) s.heap.size) (wC q n cI cB cZ) := K
  unfold f_X1_crosserCount at hf
  refine g_aload_n 1 0 K dX1_crosserCount_0 rfl rfl rfl ?_
  refine gf_C_9_11 4 K dX1_crosserCount_1 rfl ?_
  exact g_iret K hr hlk hf dX1_crosserCount_4
def f_X1_addShip (N n : Nat) (S : St) (a1 : Int32) : Option (Int32 × St) :=
  loop2 (fun (k1 : St → Int32 → Int32 → Option (Int32 × St)) (S2 : St) (x3 : Int32) (x4 : Int32) =>
    lett (fun (S7 : St) (x8 : Int32) (x9 : Int32) =>
      (wr S7 10 10 x8 a1).bind fun S11 =>
      lett (pF S11 910 ((S11.1 910) + 1)) fun S12 =>
      loop1 (fun (k13 : St → Int32 → Option (Int32 × St)) (S14 : St) (x15 : Int32) =>
        if (S14.1 910) ≤ x15 then
          loop1 (fun (k17 : St → Int32 → Option (Int32 × St)) (S18 : St) (x19 : Int32) =>
            if 300 ≤ x19 then
              lett (pF S18 918 0) fun S21 =>
              some ((S21.1 910) - 1, S21)
            else
              (rd (S18.2 12) 300 x19).bind fun x22 =>
              (wr S18 12 300 x19 (x22 + 1)).bind fun S23 =>
              k17 S23 (x19 + 1)) N S14 a1
        else
          (rd (S14.2 11) 11 x15).bind fun x24 =>
          (rd (S14.2 10) 10 x15).bind fun x25 =>
          (wr S14 11 11 (x15 + 1) (x24 + x25)).bind fun S26 =>
          k13 S26 (x15 + 1)) N S12 0) fun j6 =>
    if x4 ≤ 0 then
      j6 S2 x3 x4
    else
      (rd (S2.2 10) 10 (x4 - 1)).bind fun x27 =>
      if x27 ≤ a1 then
        j6 S2 x3 x4
      else
        (rd (S2.2 10) 10 (x4 - 1)).bind fun x28 =>
        (wr S2 10 10 x4 x28).bind fun S29 =>
        k1 S29 (x4 - 1) (x4 + (-1))) N S (S.1 910) (S.1 910)
set_option maxRecDepth 20000 in
set_option maxHeartbeats 4000000 in
theorem c_X1_addShip {l : Launch} {D : va_G} {q : Nat → Nat} {n : Nat} {cI cB cZ : ClassId} {adK adV : Nat → Nat} {N : Nat} {S Sz : St} {rz : Int32} {a1 : Int32} (hf : f_X1_addShip N n S a1 = some (rz, Sz)) : Cn l yX1_addShip cX1_addShip 4 (some .int) 0 0 D (tyL cI cB cZ) (Fx adK adV) (wC q n cI cB cZ) [.ref (q 9), .int a1] S (some (.int rz)) Sz := by
  refine c_of (by decide) fl_wC (Nat.le_of_ble_eq_true rfl) [(0, .ref (q 9)), (1, .int a1)] rfl ?_
  intro p e s m args below meth c K hr hlk hs
  have K : Ok p s m args c cX1_addShip 4 RX1 D (tyL cI cB cZ) (Aw (wC q n cI cB cZ) s.heap.size) (wC q n cI cB cZ) := K
  unfold f_X1_addShip at hf
  refine g_aload_n 1 0 K dX1_addShip_0 rfl rfl rfl ?_
  refine gf_C_9_10 4 K dX1_addShip_1 rfl ?_
  refine g_istore_n (lv' := [(2, .int (S.1 910)), (0, .ref (q 9)), (1, .int a1)]) 5 2 K dX1_addShip_4 rfl rfl (by decide) rfl ?_
  refine g_aload_n 6 1 K dX1_addShip_5 rfl rfl rfl ?_
  refine gf_C_9_10 9 K dX1_addShip_6 rfl ?_
  refine g_istore_n (lv' := [(3, .int (S.1 910)), (2, .int (S.1 910)), (0, .ref (q 9)), (1, .int a1)]) 10 3 K dX1_addShip_9 rfl rfl (by decide) rfl ?_
  refine g_sub [2, 3, 1, 0] rfl ?_
  refine g_loop2 (fun (x3 : Int32) (x4 : Int32) => [(0, .ref (q 9)), (1, .int a1), (2, .int x3), (3, .int x4)]) hf ?_
  intro k1 S2 x3 x4 hk5 hf
  refine g_iload_n 11 3 K dX1_addShip_10 rfl rfl rfl ?_
  refine g_join2 50 (fun (x8 : Int32) (x9 : Int32) => [(0, .ref (q 9)), (1, .int a1), (2, .int x8), (3, .int x9)]) (fun (x8 : Int32) (x9 : Int32) => []) hf (fun S7 x8 x9 hf => ?_) (fun j6 hj10 hf => ?_)
  · refine g_aload_n 51 0 K dX1_addShip_50 rfl rfl rfl ?_
    refine gf_C_9_0 54 K dX1_addShip_51 rfl ?_
    refine g_iload_n 55 2 K dX1_addShip_54 rfl rfl rfl ?_
    refine g_iload_n 56 1 K dX1_addShip_55 rfl rfl rfl ?_
    refine as_C_10 57 K hf dX1_addShip_56 rfl (fun S11 hf => ?_)
    refine g_aload_n 58 0 K dX1_addShip_57 rfl rfl rfl ?_
    refine g_dup 59 K dX1_addShip_58 rfl rfl ?_
    refine gf_C_9_10 62 K dX1_addShip_59 rfl ?_
    refine g_iconst 63 1 K dX1_addShip_62 rfl (by decide) ?_
    refine g_iadd 64 K dX1_addShip_63 rfl ?_
    refine pf_C_9_10 67 K hf dX1_addShip_64 rfl (fun S12 hf => ?_)
    refine g_iconst 68 0 K dX1_addShip_67 rfl (by decide) ?_
    refine g_istore_n (lv' := [(3, .int 0), (0, .ref (q 9)), (1, .int a1), (2, .int x8)]) 69 3 K dX1_addShip_68 rfl rfl (by decide) rfl ?_
    refine g_sub [1, 2, 3, 0] rfl ?_
    refine g_loop1 (fun (x15 : Int32) => [(0, .ref (q 9)), (1, .int a1), (2, .int x8), (3, .int x15)]) hf ?_
    intro k13 S14 x15 hk16 hf
    refine g_iload_n 70 3 K dX1_addShip_69 rfl rfl rfl ?_
    refine g_aload_n 71 0 K dX1_addShip_70 rfl rfl rfl ?_
    refine gf_C_9_10 74 K dX1_addShip_71 rfl ?_
    refine g_icmp_ge 104 77 K hf dX1_addShip_74 (by decide) rfl (fun hf => ?_) (fun hf => ?_)
    · refine g_iload_n 105 1 K dX1_addShip_104 rfl rfl rfl ?_
      refine g_istore_n (lv' := [(3, .int a1), (0, .ref (q 9)), (1, .int a1), (2, .int x8)]) 106 3 K dX1_addShip_105 rfl rfl (by decide) rfl ?_
      refine g_sub [1, 2, 3, 0] rfl ?_
      refine g_loop1 (fun (x19 : Int32) => [(0, .ref (q 9)), (1, .int a1), (2, .int x8), (3, .int x19)]) hf ?_
      intro k17 S18 x19 hk20 hf
      refine g_iload_n 107 3 K dX1_addShip_106 rfl rfl rfl ?_
      refine g_sipush 110 300 K dX1_addShip_107 rfl (by decide) ?_
      refine g_icmp_ge 129 113 K hf dX1_addShip_110 (by decide) rfl (fun hf => ?_) (fun hf => ?_)
      · refine g_aload_n 130 0 K dX1_addShip_129 rfl rfl rfl ?_
        refine g_iconst 131 0 K dX1_addShip_130 rfl (by decide) ?_
        refine pf_C_9_18 134 K hf (by decide) dX1_addShip_131 rfl (fun S21 hf => ?_)
        refine g_aload_n 135 0 K dX1_addShip_134 rfl rfl rfl ?_
        refine gf_C_9_10 138 K dX1_addShip_135 rfl ?_
        refine g_iconst 139 1 K dX1_addShip_138 rfl (by decide) ?_
        refine g_isub 140 K dX1_addShip_139 rfl ?_
        exact g_iret K hr hlk hf dX1_addShip_140
      · refine g_aload_n 114 0 K dX1_addShip_113 rfl rfl rfl ?_
        refine gf_C_9_2 117 K dX1_addShip_114 rfl ?_
        refine g_iload_n 118 3 K dX1_addShip_117 rfl rfl rfl ?_
        refine g_dup2 119 K dX1_addShip_118 rfl rfl rfl ?_
        refine al_C_12 120 K hf dX1_addShip_119 rfl (fun x22 hf => ?_)
        refine g_iconst 121 1 K dX1_addShip_120 rfl (by decide) ?_
        refine g_iadd 122 K dX1_addShip_121 rfl ?_
        refine as_C_12 123 K hf dX1_addShip_122 rfl (fun S23 hf => ?_)
        refine g_iinc (lv' := [(3, .int (x19 + 1)), (0, .ref (q 9)), (1, .int a1), (2, .int x8)]) 126 3 1 K dX1_addShip_123 rfl rfl (by decide) (by decide) rfl ?_
        refine g_goto 106 K dX1_addShip_126 (by decide) ?_
        exact g_sub [1, 2, 3, 0] rfl (hk20 _ _ hf)
    · refine g_aload_n 78 0 K dX1_addShip_77 rfl rfl rfl ?_
      refine gf_C_9_1 81 K dX1_addShip_78 rfl ?_
      refine g_iload_n 82 3 K dX1_addShip_81 rfl rfl rfl ?_
      refine g_iconst 83 1 K dX1_addShip_82 rfl (by decide) ?_
      refine g_iadd 84 K dX1_addShip_83 rfl ?_
      refine g_aload_n 85 0 K dX1_addShip_84 rfl rfl rfl ?_
      refine gf_C_9_1 88 K dX1_addShip_85 rfl ?_
      refine g_iload_n 89 3 K dX1_addShip_88 rfl rfl rfl ?_
      refine al_C_11 90 K hf dX1_addShip_89 rfl (fun x24 hf => ?_)
      refine g_aload_n 91 0 K dX1_addShip_90 rfl rfl rfl ?_
      refine gf_C_9_0 94 K dX1_addShip_91 rfl ?_
      refine g_iload_n 95 3 K dX1_addShip_94 rfl rfl rfl ?_
      refine al_C_10 96 K hf dX1_addShip_95 rfl (fun x25 hf => ?_)
      refine g_iadd 97 K dX1_addShip_96 rfl ?_
      refine as_C_11 98 K hf dX1_addShip_97 rfl (fun S26 hf => ?_)
      refine g_iinc (lv' := [(3, .int (x15 + 1)), (0, .ref (q 9)), (1, .int a1), (2, .int x8)]) 101 3 1 K dX1_addShip_98 rfl rfl (by decide) (by decide) rfl ?_
      refine g_goto 69 K dX1_addShip_101 (by decide) ?_
      exact g_sub [1, 2, 3, 0] rfl (hk16 _ _ hf)
  · refine g_if_le 50 14 K hf dX1_addShip_11 (by decide) rfl (fun hf => ?_) (fun hf => ?_)
    · exact g_sub [0, 1, 2, 3] rfl (hj10 _ _ _ hf)
    · refine g_aload_n 15 0 K dX1_addShip_14 rfl rfl rfl ?_
      refine gf_C_9_0 18 K dX1_addShip_15 rfl ?_
      refine g_iload_n 19 3 K dX1_addShip_18 rfl rfl rfl ?_
      refine g_iconst 20 1 K dX1_addShip_19 rfl (by decide) ?_
      refine g_isub 21 K dX1_addShip_20 rfl ?_
      refine al_C_10 22 K hf dX1_addShip_21 rfl (fun x27 hf => ?_)
      refine g_iload_n 23 1 K dX1_addShip_22 rfl rfl rfl ?_
      refine g_icmp_le 50 26 K hf dX1_addShip_23 (by decide) rfl (fun hf => ?_) (fun hf => ?_)
      · exact g_sub [0, 1, 2, 3] rfl (hj10 _ _ _ hf)
      · refine g_aload_n 27 0 K dX1_addShip_26 rfl rfl rfl ?_
        refine gf_C_9_0 30 K dX1_addShip_27 rfl ?_
        refine g_iload_n 31 3 K dX1_addShip_30 rfl rfl rfl ?_
        refine g_aload_n 32 0 K dX1_addShip_31 rfl rfl rfl ?_
        refine gf_C_9_0 35 K dX1_addShip_32 rfl ?_
        refine g_iload_n 36 3 K dX1_addShip_35 rfl rfl rfl ?_
        refine g_iconst 37 1 K dX1_addShip_36 rfl (by decide) ?_
        refine g_isub 38 K dX1_addShip_37 rfl ?_
        refine al_C_10 39 K hf dX1_addShip_38 rfl (fun x28 hf => ?_)
        refine as_C_10 40 K hf dX1_addShip_39 rfl (fun S29 hf => ?_)
        refine g_iload_n 41 3 K dX1_addShip_40 rfl rfl rfl ?_
        refine g_iconst 42 1 K dX1_addShip_41 rfl (by decide) ?_
        refine g_isub 43 K dX1_addShip_42 rfl ?_
        refine g_istore_n (lv' := [(2, .int (x4 - 1)), (0, .ref (q 9)), (1, .int a1), (3, .int x4)]) 44 2 K dX1_addShip_43 rfl rfl (by decide) rfl ?_
        refine g_iinc (lv' := [(3, .int (x4 + (-1))), (2, .int (x4 - 1)), (0, .ref (q 9)), (1, .int a1)]) 47 3 (-1) K dX1_addShip_44 rfl rfl (by decide) (by decide) rfl ?_
        refine g_goto 10 K dX1_addShip_47 (by decide) ?_
        exact g_sub [2, 3, 1, 0] rfl (hk5 _ _ _ hf)
def f_X1_addCrosser (N n : Nat) (S : St) (a1 : Int32) : Option (Int32 × St) :=
  loop1 (fun (k1 : St → Int32 → Option (Int32 × St)) (S2 : St) (x3 : Int32) =>
    if (nI 241) ≤ x3 then
      lett (pF S2 911 ((S2.1 911) + 1)) fun S5 =>
      lett (pF S5 918 0) fun S6 =>
      some (S6.1 911, S6)
    else
      (rd (S2.2 13) 241 x3).bind fun x7 =>
      (wr S2 13 241 x3 (x7 + 1)).bind fun S8 =>
      (rd (S8.2 14) 241 x3).bind fun x9 =>
      (wr S8 14 241 x3 (x9 + a1)).bind fun S10 =>
      k1 S10 (x3 + 1)) N S (a1 + 1)
set_option maxRecDepth 20000 in
set_option maxHeartbeats 4000000 in
theorem c_X1_addCrosser {l : Launch} {D : va_G} {q : Nat → Nat} {n : Nat} {cI cB cZ : ClassId} {adK adV : Nat → Nat} {N : Nat} {S Sz : St} {rz : Int32} {a1 : Int32} (hf : f_X1_addCrosser N n S a1 = some (rz, Sz)) : Cn l yX1_addCrosser cX1_addCrosser 3 (some .int) 0 0 D (tyL cI cB cZ) (Fx adK adV) (wC q n cI cB cZ) [.ref (q 9), .int a1] S (some (.int rz)) Sz := by
  refine c_of (by decide) fl_wC (Nat.le_of_ble_eq_true rfl) [(0, .ref (q 9)), (1, .int a1)] rfl ?_
  intro p e s m args below meth c K hr hlk hs
  have K : Ok p s m args c cX1_addCrosser 3 RX1 D (tyL cI cB cZ) (Aw (wC q n cI cB cZ) s.heap.size) (wC q n cI cB cZ) := K
  unfold f_X1_addCrosser at hf
  refine g_iload_n 1 1 K dX1_addCrosser_0 rfl rfl rfl ?_
  refine g_iconst 2 1 K dX1_addCrosser_1 rfl (by decide) ?_
  refine g_iadd 3 K dX1_addCrosser_2 rfl ?_
  refine g_istore_n (lv' := [(2, .int (a1 + 1)), (0, .ref (q 9)), (1, .int a1)]) 4 2 K dX1_addCrosser_3 rfl rfl (by decide) rfl ?_
  refine g_sub [1, 2, 0] rfl ?_
  refine g_loop1 (fun (x3 : Int32) => [(0, .ref (q 9)), (1, .int a1), (2, .int x3)]) hf ?_
  intro k1 S2 x3 hk4 hf
  refine g_iload_n 5 2 K dX1_addCrosser_4 rfl rfl rfl ?_
  refine g_aload_n 6 0 K dX1_addCrosser_5 rfl rfl rfl ?_
  refine gf_C_9_3 9 K dX1_addCrosser_6 rfl ?_
  refine an_C_13 10 K dX1_addCrosser_9 rfl ?_
  refine g_icmp_ge 39 13 K hf dX1_addCrosser_10 (by decide) rfl (fun hf => ?_) (fun hf => ?_)
  · refine g_aload_n 40 0 K dX1_addCrosser_39 rfl rfl rfl ?_
    refine g_dup 41 K dX1_addCrosser_40 rfl rfl ?_
    refine gf_C_9_11 44 K dX1_addCrosser_41 rfl ?_
    refine g_iconst 45 1 K dX1_addCrosser_44 rfl (by decide) ?_
    refine g_iadd 46 K dX1_addCrosser_45 rfl ?_
    refine pf_C_9_11 49 K hf dX1_addCrosser_46 rfl (fun S5 hf => ?_)
    refine g_aload_n 50 0 K dX1_addCrosser_49 rfl rfl rfl ?_
    refine g_iconst 51 0 K dX1_addCrosser_50 rfl (by decide) ?_
    refine pf_C_9_18 54 K hf (by decide) dX1_addCrosser_51 rfl (fun S6 hf => ?_)
    refine g_aload_n 55 0 K dX1_addCrosser_54 rfl rfl rfl ?_
    refine gf_C_9_11 58 K dX1_addCrosser_55 rfl ?_
    exact g_iret K hr hlk hf dX1_addCrosser_58
  · refine g_aload_n 14 0 K dX1_addCrosser_13 rfl rfl rfl ?_
    refine gf_C_9_3 17 K dX1_addCrosser_14 rfl ?_
    refine g_iload_n 18 2 K dX1_addCrosser_17 rfl rfl rfl ?_
    refine g_dup2 19 K dX1_addCrosser_18 rfl rfl rfl ?_
    refine al_C_13 20 K hf dX1_addCrosser_19 rfl (fun x7 hf => ?_)
    refine g_iconst 21 1 K dX1_addCrosser_20 rfl (by decide) ?_
    refine g_iadd 22 K dX1_addCrosser_21 rfl ?_
    refine as_C_13 23 K hf dX1_addCrosser_22 rfl (fun S8 hf => ?_)
    refine g_aload_n 24 0 K dX1_addCrosser_23 rfl rfl rfl ?_
    refine gf_C_9_4 27 K dX1_addCrosser_24 rfl ?_
    refine g_iload_n 28 2 K dX1_addCrosser_27 rfl rfl rfl ?_
    refine g_dup2 29 K dX1_addCrosser_28 rfl rfl rfl ?_
    refine al_C_14 30 K hf dX1_addCrosser_29 rfl (fun x9 hf => ?_)
    refine g_iload_n 31 1 K dX1_addCrosser_30 rfl rfl rfl ?_
    refine g_iadd 32 K dX1_addCrosser_31 rfl ?_
    refine as_C_14 33 K hf dX1_addCrosser_32 rfl (fun S10 hf => ?_)
    refine g_iinc (lv' := [(2, .int (x3 + 1)), (0, .ref (q 9)), (1, .int a1)]) 36 2 1 K dX1_addCrosser_33 rfl rfl (by decide) (by decide) rfl ?_
    refine g_goto 4 K dX1_addCrosser_36 (by decide) ?_
    exact g_sub [1, 2, 0] rfl (hk4 _ _ hf)
def f_X1_setTimes (N n : Nat) (S : St) (a1 : Int32) (a2 : Int32) (a3 : Int32) (a4 : Int32) : Option St :=
  lett (pF S 912 a1) fun S1 =>
  lett (pF S1 913 a2) fun S2 =>
  lett (pF S2 914 a3) fun S3 =>
  lett (pF S3 915 a4) fun S4 =>
  lett (pF S4 918 0) fun S5 =>
  some S5
set_option maxRecDepth 20000 in
set_option maxHeartbeats 4000000 in
theorem c_X1_setTimes {l : Launch} {D : va_G} {q : Nat → Nat} {n : Nat} {cI cB cZ : ClassId} {adK adV : Nat → Nat} {N : Nat} {S Sz : St} {a1 : Int32} {a2 : Int32} {a3 : Int32} {a4 : Int32} (hf : f_X1_setTimes N n S a1 a2 a3 a4 = some Sz) : Cn l yX1_setTimes cX1_setTimes 5 none 0 0 D (tyL cI cB cZ) (Fx adK adV) (wC q n cI cB cZ) [.ref (q 9), .int a1, .int a2, .int a3, .int a4] S none Sz := by
  refine c_of (by decide) fl_wC (Nat.le_of_ble_eq_true rfl) [(0, .ref (q 9)), (1, .int a1), (2, .int a2), (3, .int a3), (4, .int a4)] rfl ?_
  intro p e s m args below meth c K hr hlk hs
  have K : Ok p s m args c cX1_setTimes 5 RX1 D (tyL cI cB cZ) (Aw (wC q n cI cB cZ) s.heap.size) (wC q n cI cB cZ) := K
  unfold f_X1_setTimes at hf
  refine g_aload_n 1 0 K dX1_setTimes_0 rfl rfl rfl ?_
  refine g_iload_n 2 1 K dX1_setTimes_1 rfl rfl rfl ?_
  refine pf_C_9_12 5 K hf dX1_setTimes_2 rfl (fun S1 hf => ?_)
  refine g_aload_n 6 0 K dX1_setTimes_5 rfl rfl rfl ?_
  refine g_iload_n 7 2 K dX1_setTimes_6 rfl rfl rfl ?_
  refine pf_C_9_13 10 K hf dX1_setTimes_7 rfl (fun S2 hf => ?_)
  refine g_aload_n 11 0 K dX1_setTimes_10 rfl rfl rfl ?_
  refine g_iload_n 12 3 K dX1_setTimes_11 rfl rfl rfl ?_
  refine pf_C_9_14 15 K hf dX1_setTimes_12 rfl (fun S3 hf => ?_)
  refine g_aload_n 16 0 K dX1_setTimes_15 rfl rfl rfl ?_
  refine g_iload 18 4 K dX1_setTimes_16 rfl rfl ?_
  refine pf_C_9_15 21 K hf dX1_setTimes_18 rfl (fun S4 hf => ?_)
  refine g_aload_n 22 0 K dX1_setTimes_21 rfl rfl rfl ?_
  refine g_iconst 23 0 K dX1_setTimes_22 rfl (by decide) ?_
  refine pf_C_9_18 26 K hf (by decide) dX1_setTimes_23 rfl (fun S5 hf => ?_)
  exact g_vret K hr hlk hf dX1_setTimes_26
def f_X1_endOfOpening (N n : Nat) (S : St) (a1 : Int32) (a2 : Int32) : Option (Int32 × St) :=
  (rd (S.2 12) 300 a2).bind fun x1 =>
  some (((a2 + (S.1 912)) + ((S.1 913) * (x1 - a1))) + (S.1 914), S)
set_option maxRecDepth 20000 in
set_option maxHeartbeats 4000000 in
theorem c_X1_endOfOpening {l : Launch} {D : va_G} {q : Nat → Nat} {n : Nat} {cI cB cZ : ClassId} {adK adV : Nat → Nat} {N : Nat} {S Sz : St} {rz : Int32} {a1 : Int32} {a2 : Int32} (hf : f_X1_endOfOpening N n S a1 a2 = some (rz, Sz)) : Cn l yX1_endOfOpening cX1_endOfOpening 3 (some .int) 0 0 D (tyL cI cB cZ) (Fx adK adV) (wC q n cI cB cZ) [.ref (q 9), .int a1, .int a2] S (some (.int rz)) Sz := by
  refine c_of (by decide) fl_wC (Nat.le_of_ble_eq_true rfl) [(0, .ref (q 9)), (1, .int a1), (2, .int a2)] rfl ?_
  intro p e s m args below meth c K hr hlk hs
  have K : Ok p s m args c cX1_endOfOpening 3 RX1 D (tyL cI cB cZ) (Aw (wC q n cI cB cZ) s.heap.size) (wC q n cI cB cZ) := K
  unfold f_X1_endOfOpening at hf
  refine g_iload_n 1 2 K dX1_endOfOpening_0 rfl rfl rfl ?_
  refine g_aload_n 2 0 K dX1_endOfOpening_1 rfl rfl rfl ?_
  refine gf_C_9_12 5 K dX1_endOfOpening_2 rfl ?_
  refine g_iadd 6 K dX1_endOfOpening_5 rfl ?_
  refine g_aload_n 7 0 K dX1_endOfOpening_6 rfl rfl rfl ?_
  refine gf_C_9_13 10 K dX1_endOfOpening_7 rfl ?_
  refine g_aload_n 11 0 K dX1_endOfOpening_10 rfl rfl rfl ?_
  refine gf_C_9_2 14 K dX1_endOfOpening_11 rfl ?_
  refine g_iload_n 15 2 K dX1_endOfOpening_14 rfl rfl rfl ?_
  refine al_C_12 16 K hf dX1_endOfOpening_15 rfl (fun x1 hf => ?_)
  refine g_iload_n 17 1 K dX1_endOfOpening_16 rfl rfl rfl ?_
  refine g_isub 18 K dX1_endOfOpening_17 rfl ?_
  refine g_imul 19 K dX1_endOfOpening_18 rfl ?_
  refine g_iadd 20 K dX1_endOfOpening_19 rfl ?_
  refine g_aload_n 21 0 K dX1_endOfOpening_20 rfl rfl rfl ?_
  refine gf_C_9_14 24 K dX1_endOfOpening_21 rfl ?_
  refine g_iadd 25 K dX1_endOfOpening_24 rfl ?_
  exact g_iret K hr hlk hf dX1_endOfOpening_25
def f_X1_walkBest (N n : Nat) (S : St)  : Option St :=
  lett (pF S 916 0) fun S1 =>
  loop3 (fun (k2 : St → Int32 → Int32 → Int32 → Option St) (S3 : St) (x4 : Int32) (x5 : Int32) (x6 : Int32) =>
    if 10 ≤ x6 then
      some S3
    else
      if (S3.1 910) ≤ x4 then
        some S3
      else
        (rd (S3.2 16) 3010 ((x4 * 301) + (if (300 : Int32) < x5 then 300 else x5))).bind fun x8 =>
        if x8 = (-1) then
          some S3
        else
          (wr S3 17 10 x6 x8).bind fun S9 =>
          (rd (S9.2 12) 300 x8).bind fun x10 =>
          (wr S9 18 10 x6 (x10 - x4)).bind fun S11 =>
          bd2 (f_X1_endOfOpening N n S11 x4 x8) fun r13 S12 =>
          (wr S12 19 10 x6 r13).bind fun S15 =>
          lett (pF S15 916 (x6 + 1)) fun S16 =>
          (rd (S16.2 19) 10 x6).bind fun x17 =>
          (rd (S16.2 12) 300 x8).bind fun x18 =>
          k2 S16 x18 x17 (x6 + 1)) N S1 0 0 0
set_option maxRecDepth 20000 in
set_option maxHeartbeats 4000000 in
theorem c_X1_walkBest {l : Launch} {D : va_G} {q : Nat → Nat} {n : Nat} {cI cB cZ : ClassId} {adK adV : Nat → Nat} {N : Nat} {S Sz : St}  (hf : f_X1_walkBest N n S  = some Sz) : Cn l yX1_walkBest cX1_walkBest 5 none 1 22 D (tyL cI cB cZ) (Fx adK adV) (wC q n cI cB cZ) [.ref (q 9)] S none Sz := by
  refine c_of (by decide) fl_wC (Nat.le_of_ble_eq_true rfl) [(0, .ref (q 9))] rfl ?_
  intro p e s m args below meth c K hr hlk hs
  have K : Ok p s m args c cX1_walkBest 5 RX1 D (tyL cI cB cZ) (Aw (wC q n cI cB cZ) s.heap.size) (wC q n cI cB cZ) := K
  unfold f_X1_walkBest at hf
  refine g_aload_n 1 0 K dX1_walkBest_0 rfl rfl rfl ?_
  refine g_iconst 2 0 K dX1_walkBest_1 rfl (by decide) ?_
  refine pf_C_9_16 5 K hf dX1_walkBest_2 rfl (fun S1 hf => ?_)
  refine g_iconst 6 0 K dX1_walkBest_5 rfl (by decide) ?_
  refine g_istore_n (lv' := [(1, .int 0), (0, .ref (q 9))]) 7 1 K dX1_walkBest_6 rfl rfl (by decide) rfl ?_
  refine g_iconst 8 0 K dX1_walkBest_7 rfl (by decide) ?_
  refine g_istore_n (lv' := [(2, .int 0), (1, .int 0), (0, .ref (q 9))]) 9 2 K dX1_walkBest_8 rfl rfl (by decide) rfl ?_
  refine g_iconst 10 0 K dX1_walkBest_9 rfl (by decide) ?_
  refine g_istore_n (lv' := [(3, .int 0), (2, .int 0), (1, .int 0), (0, .ref (q 9))]) 11 3 K dX1_walkBest_10 rfl rfl (by decide) rfl ?_
  refine g_sub [3, 2, 1, 0] rfl ?_
  refine g_loop3 (fun (x4 : Int32) (x5 : Int32) (x6 : Int32) => [(0, .ref (q 9)), (1, .int x4), (2, .int x5), (3, .int x6)]) hf ?_
  intro k2 S3 x4 x5 x6 hk7 hf
  refine g_iload_n 12 3 K dX1_walkBest_11 rfl rfl rfl ?_
  refine g_bipush 14 10 K dX1_walkBest_12 rfl (by decide) ?_
  refine g_icmp_ge 116 17 K hf dX1_walkBest_14 (by decide) rfl (fun hf => ?_) (fun hf => ?_)
  · exact g_vret K hr hlk hf dX1_walkBest_116
  · refine g_iload_n 18 1 K dX1_walkBest_17 rfl rfl rfl ?_
    refine g_aload_n 19 0 K dX1_walkBest_18 rfl rfl rfl ?_
    refine gf_C_9_10 22 K dX1_walkBest_19 rfl ?_
    refine g_icmp_ge 116 25 K hf dX1_walkBest_22 (by decide) rfl (fun hf => ?_) (fun hf => ?_)
    · exact g_vret K hr hlk hf dX1_walkBest_116
    · refine g_aload_n 26 0 K dX1_walkBest_25 rfl rfl rfl ?_
      refine gf_C_9_6 29 K dX1_walkBest_26 rfl ?_
      refine g_iload_n 30 1 K dX1_walkBest_29 rfl rfl rfl ?_
      refine g_sipush 33 301 K dX1_walkBest_30 rfl (by decide) ?_
      refine g_imul 34 K dX1_walkBest_33 rfl ?_
      refine g_iload_n 35 2 K dX1_walkBest_34 rfl rfl rfl ?_
      refine g_sipush 38 300 K dX1_walkBest_35 rfl (by decide) ?_
      refine g_mmin 41 K km_X1_97 kt_J9_min_7cf53 ki_J9 kC_J9_min_7cf53 ⟨by decide, Nat.le_of_ble_eq_true rfl, by decide, by decide⟩ dX1_walkBest_38 rfl ?_
      refine g_iadd 42 K dX1_walkBest_41 rfl ?_
      refine al_C_16 43 K hf dX1_walkBest_42 rfl (fun x8 hf => ?_)
      refine g_istore (lv' := [(4, .int x8), (0, .ref (q 9)), (1, .int x4), (2, .int x5), (3, .int x6)]) 45 4 K dX1_walkBest_43 rfl (by decide) rfl ?_
      refine g_iload 47 0 K dX1_walkBest_45 rfl rfl ?_
      refine g_iconst 48 (-1) K dX1_walkBest_47 rfl (by decide) ?_
      refine g_icmp_ne 52 51 K hf dX1_walkBest_48 (by decide) rfl (fun hf => ?_) (fun hf => ?_)
      · exact g_vret K hr hlk hf dX1_walkBest_51
      · refine g_aload_n 53 1 K dX1_walkBest_52 rfl rfl rfl ?_
        refine gf_C_9_7 56 K dX1_walkBest_53 rfl ?_
        refine g_iload_n 57 4 K dX1_walkBest_56 rfl rfl rfl ?_
        refine g_iload 59 0 K dX1_walkBest_57 rfl rfl ?_
        refine as_C_17 60 K hf dX1_walkBest_59 rfl (fun S9 hf => ?_)
        refine g_aload_n 61 1 K dX1_walkBest_60 rfl rfl rfl ?_
        refine gf_C_9_8 64 K dX1_walkBest_61 rfl ?_
        refine g_iload_n 65 4 K dX1_walkBest_64 rfl rfl rfl ?_
        refine g_aload_n 66 1 K dX1_walkBest_65 rfl rfl rfl ?_
        refine gf_C_9_2 69 K dX1_walkBest_66 rfl ?_
        refine g_iload 71 0 K dX1_walkBest_69 rfl rfl ?_
        refine al_C_12 72 K hf dX1_walkBest_71 rfl (fun x10 hf => ?_)
        refine g_iload_n 73 2 K dX1_walkBest_72 rfl rfl rfl ?_
        refine g_isub 74 K dX1_walkBest_73 rfl ?_
        refine as_C_18 75 K hf dX1_walkBest_74 rfl (fun S11 hf => ?_)
        refine g_aload_n 76 1 K dX1_walkBest_75 rfl rfl rfl ?_
        refine gf_C_9_9 79 K dX1_walkBest_76 rfl ?_
        refine g_iload_n 80 4 K dX1_walkBest_79 rfl rfl rfl ?_
        refine g_aload_n 81 1 K dX1_walkBest_80 rfl rfl rfl ?_
        refine g_iload_n 82 2 K dX1_walkBest_81 rfl rfl rfl ?_
        refine g_iload 84 0 K dX1_walkBest_82 rfl rfl ?_
        obtain ⟨r13, S12, hc14, hf⟩ := bd2_some hf
        refine g_callVi 87 9 [.int x6, .ref (q 19)] K (Fx_ok adK adV) hs (c_X1_endOfOpening hc14) km_X1_88 kI_X1_endOfOpening kS_X1_endOfOpening ki_X1 kC_X1_endOfOpening mw_X1_endOfOpening ⟨by decide, by decide, by decide, by decide⟩ rfl rfl rfl rfl (Nat.le_of_ble_eq_true rfl) dX1_walkBest_84 rfl ?_
        refine as_C_19 88 K hf dX1_walkBest_87 rfl (fun S15 hf => ?_)
        refine g_aload_n 89 1 K dX1_walkBest_88 rfl rfl rfl ?_
        refine g_iload_n 90 4 K dX1_walkBest_89 rfl rfl rfl ?_
        refine g_iconst 91 1 K dX1_walkBest_90 rfl (by decide) ?_
        refine g_iadd 92 K dX1_walkBest_91 rfl ?_
        refine pf_C_9_16 95 K hf dX1_walkBest_92 rfl (fun S16 hf => ?_)
        refine g_aload_n 96 1 K dX1_walkBest_95 rfl rfl rfl ?_
        refine gf_C_9_9 99 K dX1_walkBest_96 rfl ?_
        refine g_iload_n 100 4 K dX1_walkBest_99 rfl rfl rfl ?_
        refine al_C_19 101 K hf dX1_walkBest_100 rfl (fun x17 hf => ?_)
        refine g_istore_n (lv' := [(2, .int x17), (4, .int x8), (0, .ref (q 9)), (1, .int x4), (3, .int x6)]) 102 2 K dX1_walkBest_101 rfl rfl (by decide) rfl ?_
        refine g_aload_n 103 2 K dX1_walkBest_102 rfl rfl rfl ?_
        refine gf_C_9_2 106 K dX1_walkBest_103 rfl ?_
        refine g_iload 108 1 K dX1_walkBest_106 rfl rfl ?_
        refine al_C_12 109 K hf dX1_walkBest_108 rfl (fun x18 hf => ?_)
        refine g_istore_n (lv' := [(1, .int x18), (2, .int x17), (4, .int x8), (0, .ref (q 9)), (3, .int x6)]) 110 1 K dX1_walkBest_109 rfl rfl (by decide) rfl ?_
        refine g_iinc (lv' := [(3, .int (x6 + 1)), (1, .int x18), (2, .int x17), (4, .int x8), (0, .ref (q 9))]) 113 4 1 K dX1_walkBest_110 rfl rfl (by decide) (by decide) rfl ?_
        refine g_goto 11 K dX1_walkBest_113 (by decide) ?_
        exact g_sub [4, 1, 2, 0] rfl (hk7 _ _ _ _ hf)
def f_X1_crosserWaits (N n : Nat) (S : St) (a1 : Int32) (a2 : Int32) : Option (Int32 × St) :=
  (rd (S.2 13) 241 (if (240 : Int32) < a2 then 240 else a2)).bind fun x1 =>
  (rd (S.2 13) 241 (if (240 : Int32) < a1 then 240 else a1)).bind fun x2 =>
  (rd (S.2 14) 241 (if (240 : Int32) < a2 then 240 else a2)).bind fun x3 =>
  (rd (S.2 14) 241 (if (240 : Int32) < a1 then 240 else a1)).bind fun x4 =>
  some (((x1 - x2) * a2) - (x3 - x4), S)
set_option maxRecDepth 20000 in
set_option maxHeartbeats 4000000 in
theorem c_X1_crosserWaits {l : Launch} {D : va_G} {q : Nat → Nat} {n : Nat} {cI cB cZ : ClassId} {adK adV : Nat → Nat} {N : Nat} {S Sz : St} {rz : Int32} {a1 : Int32} {a2 : Int32} (hf : f_X1_crosserWaits N n S a1 a2 = some (rz, Sz)) : Cn l yX1_crosserWaits cX1_crosserWaits 6 (some .int) 1 13 D (tyL cI cB cZ) (Fx adK adV) (wC q n cI cB cZ) [.ref (q 9), .int a1, .int a2] S (some (.int rz)) Sz := by
  refine c_of (by decide) fl_wC (Nat.le_of_ble_eq_true rfl) [(0, .ref (q 9)), (1, .int a1), (2, .int a2)] rfl ?_
  intro p e s m args below meth c K hr hlk hs
  have K : Ok p s m args c cX1_crosserWaits 6 RX1 D (tyL cI cB cZ) (Aw (wC q n cI cB cZ) s.heap.size) (wC q n cI cB cZ) := K
  unfold f_X1_crosserWaits at hf
  refine g_iload_n 1 1 K dX1_crosserWaits_0 rfl rfl rfl ?_
  refine g_sipush 4 240 K dX1_crosserWaits_1 rfl (by decide) ?_
  refine g_mmin 7 K km_X1_97 kt_J9_min_7cf53 ki_J9 kC_J9_min_7cf53 ⟨by decide, Nat.le_of_ble_eq_true rfl, by decide, by decide⟩ dX1_crosserWaits_4 rfl ?_
  refine g_istore_n (lv' := [(3, .int (if (240 : Int32) < a1 then 240 else a1)), (0, .ref (q 9)), (1, .int a1), (2, .int a2)]) 8 3 K dX1_crosserWaits_7 rfl rfl (by decide) rfl ?_
  refine g_iload_n 9 3 K dX1_crosserWaits_8 rfl rfl rfl ?_
  refine g_sipush 12 240 K dX1_crosserWaits_9 rfl (by decide) ?_
  refine g_mmin 15 K km_X1_97 kt_J9_min_7cf53 ki_J9 kC_J9_min_7cf53 ⟨by decide, Nat.le_of_ble_eq_true rfl, by decide, by decide⟩ dX1_crosserWaits_12 rfl ?_
  refine g_istore (lv' := [(4, .int (if (240 : Int32) < a2 then 240 else a2)), (3, .int (if (240 : Int32) < a1 then 240 else a1)), (0, .ref (q 9)), (1, .int a1), (2, .int a2)]) 17 4 K dX1_crosserWaits_15 rfl (by decide) rfl ?_
  refine g_aload_n 18 2 K dX1_crosserWaits_17 rfl rfl rfl ?_
  refine gf_C_9_3 21 K dX1_crosserWaits_18 rfl ?_
  refine g_iload 23 0 K dX1_crosserWaits_21 rfl rfl ?_
  refine al_C_13 24 K hf dX1_crosserWaits_23 rfl (fun x1 hf => ?_)
  refine g_aload_n 25 2 K dX1_crosserWaits_24 rfl rfl rfl ?_
  refine gf_C_9_3 28 K dX1_crosserWaits_25 rfl ?_
  refine g_iload_n 29 1 K dX1_crosserWaits_28 rfl rfl rfl ?_
  refine al_C_13 30 K hf dX1_crosserWaits_29 rfl (fun x2 hf => ?_)
  refine g_isub 31 K dX1_crosserWaits_30 rfl ?_
  refine g_istore (lv' := [(5, .int (x1 - x2)), (4, .int (if (240 : Int32) < a2 then 240 else a2)), (3, .int (if (240 : Int32) < a1 then 240 else a1)), (0, .ref (q 9)), (1, .int a1), (2, .int a2)]) 33 5 K dX1_crosserWaits_31 rfl (by decide) rfl ?_
  refine g_iload 35 0 K dX1_crosserWaits_33 rfl rfl ?_
  refine g_iload_n 36 5 K dX1_crosserWaits_35 rfl rfl rfl ?_
  refine g_imul 37 K dX1_crosserWaits_36 rfl ?_
  refine g_aload_n 38 3 K dX1_crosserWaits_37 rfl rfl rfl ?_
  refine gf_C_9_4 41 K dX1_crosserWaits_38 rfl ?_
  refine g_iload 43 1 K dX1_crosserWaits_41 rfl rfl ?_
  refine al_C_14 44 K hf dX1_crosserWaits_43 rfl (fun x3 hf => ?_)
  refine g_aload_n 45 3 K dX1_crosserWaits_44 rfl rfl rfl ?_
  refine gf_C_9_4 48 K dX1_crosserWaits_45 rfl ?_
  refine g_iload_n 49 2 K dX1_crosserWaits_48 rfl rfl rfl ?_
  refine al_C_14 50 K hf dX1_crosserWaits_49 rfl (fun x4 hf => ?_)
  refine g_isub 51 K dX1_crosserWaits_50 rfl ?_
  refine g_isub 52 K dX1_crosserWaits_51 rfl ?_
  exact g_iret K hr hlk hf dX1_crosserWaits_52
def f_X1_waitsOfOpening (N n : Nat) (S : St) (a1 : Int32) (a2 : Int32) : Option (Int32 × St) :=
  (rd (S.2 12) 300 a2).bind fun x1 =>
  (rd (S.2 11) 11 x1).bind fun x2 =>
  (rd (S.2 11) 11 a1).bind fun x3 =>
  bd2 (f_X1_endOfOpening N n S a1 a2) fun r5 S4 =>
  bd2 (f_X1_crosserWaits N n S4 a2 r5) fun r8 S7 =>
  some (((S.1 915) * ((((x1 - a1) * (a2 + (S.1 912))) + ((S.1 913) * (((x1 - a1) * ((x1 - a1) + 1)) / 2))) - (x2 - x3))) + r8, S7)
set_option maxRecDepth 20000 in
set_option maxHeartbeats 4000000 in
theorem c_X1_waitsOfOpening {l : Launch} {D : va_G} {q : Nat → Nat} {n : Nat} {cI cB cZ : ClassId} {adK adV : Nat → Nat} {N : Nat} {S Sz : St} {rz : Int32} {a1 : Int32} {a2 : Int32} (hf : f_X1_waitsOfOpening N n S a1 a2 = some (rz, Sz)) : Cn l yX1_waitsOfOpening cX1_waitsOfOpening 7 (some .int) 2 38 D (tyL cI cB cZ) (Fx adK adV) (wC q n cI cB cZ) [.ref (q 9), .int a1, .int a2] S (some (.int rz)) Sz := by
  refine c_of (by decide) fl_wC (Nat.le_of_ble_eq_true rfl) [(0, .ref (q 9)), (1, .int a1), (2, .int a2)] rfl ?_
  intro p e s m args below meth c K hr hlk hs
  have K : Ok p s m args c cX1_waitsOfOpening 7 RX1 D (tyL cI cB cZ) (Aw (wC q n cI cB cZ) s.heap.size) (wC q n cI cB cZ) := K
  unfold f_X1_waitsOfOpening at hf
  refine g_aload_n 1 0 K dX1_waitsOfOpening_0 rfl rfl rfl ?_
  refine gf_C_9_2 4 K dX1_waitsOfOpening_1 rfl ?_
  refine g_iload_n 5 2 K dX1_waitsOfOpening_4 rfl rfl rfl ?_
  refine al_C_12 6 K hf dX1_waitsOfOpening_5 rfl (fun x1 hf => ?_)
  refine g_istore_n (lv' := [(3, .int x1), (0, .ref (q 9)), (1, .int a1), (2, .int a2)]) 7 3 K dX1_waitsOfOpening_6 rfl rfl (by decide) rfl ?_
  refine g_iload_n 8 0 K dX1_waitsOfOpening_7 rfl rfl rfl ?_
  refine g_iload_n 9 2 K dX1_waitsOfOpening_8 rfl rfl rfl ?_
  refine g_isub 10 K dX1_waitsOfOpening_9 rfl ?_
  refine g_istore (lv' := [(4, .int (x1 - a1)), (3, .int x1), (0, .ref (q 9)), (1, .int a1), (2, .int a2)]) 12 4 K dX1_waitsOfOpening_10 rfl (by decide) rfl ?_
  refine g_iload 14 0 K dX1_waitsOfOpening_12 rfl rfl ?_
  refine g_iload_n 15 4 K dX1_waitsOfOpening_14 rfl rfl rfl ?_
  refine g_aload_n 16 2 K dX1_waitsOfOpening_15 rfl rfl rfl ?_
  refine gf_C_9_12 19 K dX1_waitsOfOpening_16 rfl ?_
  refine g_iadd 20 K dX1_waitsOfOpening_19 rfl ?_
  refine g_imul 21 K dX1_waitsOfOpening_20 rfl ?_
  refine g_aload_n 22 2 K dX1_waitsOfOpening_21 rfl rfl rfl ?_
  refine gf_C_9_13 25 K dX1_waitsOfOpening_22 rfl ?_
  refine g_iload 27 0 K dX1_waitsOfOpening_25 rfl rfl ?_
  refine g_iload 29 0 K dX1_waitsOfOpening_27 rfl rfl ?_
  refine g_iconst 30 1 K dX1_waitsOfOpening_29 rfl (by decide) ?_
  refine g_iadd 31 K dX1_waitsOfOpening_30 rfl ?_
  refine g_imul 32 K dX1_waitsOfOpening_31 rfl ?_
  refine g_iconst 33 2 K dX1_waitsOfOpening_32 rfl (by decide) ?_
  refine g_idiv 34 K dX1_waitsOfOpening_33 rfl (by decide) ?_
  refine g_imul 35 K dX1_waitsOfOpening_34 rfl ?_
  refine g_iadd 36 K dX1_waitsOfOpening_35 rfl ?_
  refine g_istore (lv' := [(5, .int (((x1 - a1) * (a2 + (S.1 912))) + ((S.1 913) * (((x1 - a1) * ((x1 - a1) + 1)) / 2)))), (4, .int (x1 - a1)), (3, .int x1), (0, .ref (q 9)), (1, .int a1), (2, .int a2)]) 38 5 K dX1_waitsOfOpening_36 rfl (by decide) rfl ?_
  refine g_iload 40 0 K dX1_waitsOfOpening_38 rfl rfl ?_
  refine g_aload_n 41 3 K dX1_waitsOfOpening_40 rfl rfl rfl ?_
  refine gf_C_9_1 44 K dX1_waitsOfOpening_41 rfl ?_
  refine g_iload_n 45 2 K dX1_waitsOfOpening_44 rfl rfl rfl ?_
  refine al_C_11 46 K hf dX1_waitsOfOpening_45 rfl (fun x2 hf => ?_)
  refine g_aload_n 47 3 K dX1_waitsOfOpening_46 rfl rfl rfl ?_
  refine gf_C_9_1 50 K dX1_waitsOfOpening_47 rfl ?_
  refine g_iload_n 51 4 K dX1_waitsOfOpening_50 rfl rfl rfl ?_
  refine al_C_11 52 K hf dX1_waitsOfOpening_51 rfl (fun x3 hf => ?_)
  refine g_isub 53 K dX1_waitsOfOpening_52 rfl ?_
  refine g_isub 54 K dX1_waitsOfOpening_53 rfl ?_
  refine g_istore (lv' := [(6, .int ((((x1 - a1) * (a2 + (S.1 912))) + ((S.1 913) * (((x1 - a1) * ((x1 - a1) + 1)) / 2))) - (x2 - x3))), (5, .int (((x1 - a1) * (a2 + (S.1 912))) + ((S.1 913) * (((x1 - a1) * ((x1 - a1) + 1)) / 2)))), (4, .int (x1 - a1)), (3, .int x1), (0, .ref (q 9)), (1, .int a1), (2, .int a2)]) 56 6 K dX1_waitsOfOpening_54 rfl (by decide) rfl ?_
  refine g_aload_n 57 4 K dX1_waitsOfOpening_56 rfl rfl rfl ?_
  refine gf_C_9_15 60 K dX1_waitsOfOpening_57 rfl ?_
  refine g_iload 62 0 K dX1_waitsOfOpening_60 rfl rfl ?_
  refine g_imul 63 K dX1_waitsOfOpening_62 rfl ?_
  refine g_aload_n 64 4 K dX1_waitsOfOpening_63 rfl rfl rfl ?_
  refine g_iload_n 65 6 K dX1_waitsOfOpening_64 rfl rfl rfl ?_
  refine g_aload_n 66 4 K dX1_waitsOfOpening_65 rfl rfl rfl ?_
  refine g_iload_n 67 5 K dX1_waitsOfOpening_66 rfl rfl rfl ?_
  refine g_iload_n 68 6 K dX1_waitsOfOpening_67 rfl rfl rfl ?_
  obtain ⟨r5, S4, hc6, hf⟩ := bd2_some hf
  refine g_callVi 71 9 [.int a2, .ref (q 9), .int ((S.1 915) * ((((x1 - a1) * (a2 + (S.1 912))) + ((S.1 913) * (((x1 - a1) * ((x1 - a1) + 1)) / 2))) - (x2 - x3)))] K (Fx_ok adK adV) hs (c_X1_endOfOpening hc6) km_X1_88 kI_X1_endOfOpening kS_X1_endOfOpening ki_X1 kC_X1_endOfOpening mw_X1_endOfOpening ⟨by decide, by decide, by decide, by decide⟩ rfl rfl rfl rfl (Nat.le_of_ble_eq_true rfl) dX1_waitsOfOpening_68 rfl ?_
  obtain ⟨r8, S7, hc9, hf⟩ := bd2_some hf
  refine g_callVi 74 9 [.int ((S.1 915) * ((((x1 - a1) * (a2 + (S.1 912))) + ((S.1 913) * (((x1 - a1) * ((x1 - a1) + 1)) / 2))) - (x2 - x3)))] K (Fx_ok adK adV) hs (c_X1_crosserWaits hc9) km_X1_100 kI_X1_crosserWaits kS_X1_crosserWaits ki_X1 kC_X1_crosserWaits mw_X1_crosserWaits ⟨by decide, by decide, by decide, by decide⟩ rfl rfl rfl rfl (Nat.le_of_ble_eq_true rfl) dX1_waitsOfOpening_71 rfl ?_
  refine g_iadd 75 K dX1_waitsOfOpening_74 rfl ?_
  exact g_iret K hr hlk hf dX1_waitsOfOpening_75
def f_X1_waitsFrom (N n : Nat) (S : St) (a1 : Int32) (a2 : Int32) : Option (Int32 × St) :=
  bd2 (f_X1_waitsOfOpening N n S a1 a2) fun r2 S1 =>
  (rd (S1.2 12) 300 a2).bind fun x4 =>
  if x4 < (S1.1 910) then
    bd2 (f_X1_endOfOpening N n S1 a1 a2) fun r6 S5 =>
    (rd (S5.2 15) 3010 ((x4 * 301) + (if (300 : Int32) < r6 then 300 else r6))).bind fun x8 =>
    if x8 < 1000000000 then
      some (r2 + x8, S5)
    else
      some (1000000000, S5)
  else
    some (r2, S1)
set_option maxRecDepth 20000 in
set_option maxHeartbeats 4000000 in
theorem c_X1_waitsFrom {l : Launch} {D : va_G} {q : Nat → Nat} {n : Nat} {cI cB cZ : ClassId} {adK adV : Nat → Nat} {N : Nat} {S Sz : St} {rz : Int32} {a1 : Int32} {a2 : Int32} (hf : f_X1_waitsFrom N n S a1 a2 = some (rz, Sz)) : Cn l yX1_waitsFrom cX1_waitsFrom 6 (some .int) 3 64 D (tyL cI cB cZ) (Fx adK adV) (wC q n cI cB cZ) [.ref (q 9), .int a1, .int a2] S (some (.int rz)) Sz := by
  refine c_of (by decide) fl_wC (Nat.le_of_ble_eq_true rfl) [(0, .ref (q 9)), (1, .int a1), (2, .int a2)] rfl ?_
  intro p e s m args below meth c K hr hlk hs
  have K : Ok p s m args c cX1_waitsFrom 6 RX1 D (tyL cI cB cZ) (Aw (wC q n cI cB cZ) s.heap.size) (wC q n cI cB cZ) := K
  unfold f_X1_waitsFrom at hf
  refine g_aload_n 1 0 K dX1_waitsFrom_0 rfl rfl rfl ?_
  refine g_iload_n 2 1 K dX1_waitsFrom_1 rfl rfl rfl ?_
  refine g_iload_n 3 2 K dX1_waitsFrom_2 rfl rfl rfl ?_
  obtain ⟨r2, S1, hc3, hf⟩ := bd2_some hf
  refine g_callVi 6 9 [] K (Fx_ok adK adV) hs (c_X1_waitsOfOpening hc3) km_X1_85 kI_X1_waitsOfOpening kS_X1_waitsOfOpening ki_X1 kC_X1_waitsOfOpening mw_X1_waitsOfOpening ⟨by decide, by decide, by decide, by decide⟩ rfl rfl rfl rfl (Nat.le_of_ble_eq_true rfl) dX1_waitsFrom_3 rfl ?_
  refine g_istore_n (lv' := [(3, .int r2), (0, .ref (q 9)), (1, .int a1), (2, .int a2)]) 7 3 K dX1_waitsFrom_6 rfl rfl (by decide) rfl ?_
  refine g_aload_n 8 1 K dX1_waitsFrom_7 rfl rfl rfl ?_
  refine gf_C_9_2 11 K dX1_waitsFrom_8 rfl ?_
  refine g_iload_n 12 3 K dX1_waitsFrom_11 rfl rfl rfl ?_
  refine al_C_12 13 K hf dX1_waitsFrom_12 rfl (fun x4 hf => ?_)
  refine g_istore (lv' := [(4, .int x4), (3, .int r2), (0, .ref (q 9)), (1, .int a1), (2, .int a2)]) 15 4 K dX1_waitsFrom_13 rfl (by decide) rfl ?_
  refine g_iload 17 0 K dX1_waitsFrom_15 rfl rfl ?_
  refine g_aload_n 18 2 K dX1_waitsFrom_17 rfl rfl rfl ?_
  refine gf_C_9_10 21 K dX1_waitsFrom_18 rfl ?_
  refine g_icmp_lt 26 24 K hf dX1_waitsFrom_21 (by decide) rfl (fun hf => ?_) (fun hf => ?_)
  · refine g_aload_n 27 2 K dX1_waitsFrom_26 rfl rfl rfl ?_
    refine gf_C_9_5 30 K dX1_waitsFrom_27 rfl ?_
    refine g_iload 32 0 K dX1_waitsFrom_30 rfl rfl ?_
    refine g_sipush 35 301 K dX1_waitsFrom_32 rfl (by decide) ?_
    refine g_imul 36 K dX1_waitsFrom_35 rfl ?_
    refine g_aload_n 37 2 K dX1_waitsFrom_36 rfl rfl rfl ?_
    refine g_iload_n 38 3 K dX1_waitsFrom_37 rfl rfl rfl ?_
    refine g_iload_n 39 4 K dX1_waitsFrom_38 rfl rfl rfl ?_
    obtain ⟨r6, S5, hc7, hf⟩ := bd2_some hf
    refine g_callVi 42 9 [.int (x4 * 301), .ref (q 15)] K (Fx_ok adK adV) hs (c_X1_endOfOpening hc7) km_X1_88 kI_X1_endOfOpening kS_X1_endOfOpening ki_X1 kC_X1_endOfOpening mw_X1_endOfOpening ⟨by decide, by decide, by decide, by decide⟩ rfl rfl rfl rfl (Nat.le_of_ble_eq_true rfl) dX1_waitsFrom_39 rfl ?_
    refine g_sipush 45 300 K dX1_waitsFrom_42 rfl (by decide) ?_
    refine g_mmin 48 K km_X1_97 kt_J9_min_7cf53 ki_J9 kC_J9_min_7cf53 ⟨by decide, Nat.le_of_ble_eq_true rfl, by decide, by decide⟩ dX1_waitsFrom_45 rfl ?_
    refine g_iadd 49 K dX1_waitsFrom_48 rfl ?_
    refine al_C_15 50 K hf dX1_waitsFrom_49 rfl (fun x8 hf => ?_)
    refine g_istore (lv' := [(5, .int x8), (4, .int x4), (3, .int r2), (0, .ref (q 9)), (1, .int a1), (2, .int a2)]) 52 5 K dX1_waitsFrom_50 rfl (by decide) rfl ?_
    refine g_iload 54 0 K dX1_waitsFrom_52 rfl rfl ?_
    refine g_ldc 56 1000000000 K dX1_waitsFrom_54 rfl kc_X1_71 ?_
    refine g_icmp_lt 64 59 K hf dX1_waitsFrom_56 (by decide) rfl (fun hf => ?_) (fun hf => ?_)
    · refine g_iload_n 65 2 K dX1_waitsFrom_64 rfl rfl rfl ?_
      refine g_iload 67 0 K dX1_waitsFrom_65 rfl rfl ?_
      refine g_iadd 68 K dX1_waitsFrom_67 rfl ?_
      exact g_iret K hr hlk hf dX1_waitsFrom_68
    · refine g_ldc 61 1000000000 K dX1_waitsFrom_59 rfl kc_X1_71 ?_
      refine g_goto 68 K dX1_waitsFrom_61 (by decide) ?_
      exact g_iret K hr hlk hf dX1_waitsFrom_68
  · refine g_iload_n 25 1 K dX1_waitsFrom_24 rfl rfl rfl ?_
    exact g_iret K hr hlk hf dX1_waitsFrom_25
def f_X1_plan (N n : Nat) (S : St)  : Option St :=
  if (S.1 918) = 0 then
    lett (pF S 918 1) fun S1 =>
    loop1 (fun (k2 : St → Int32 → Option St) (S3 : St) (x4 : Int32) =>
      if x4 < 0 then
        if (S3.1 910) ≤ 0 then
          lett (pF S3 917 0) fun S6 =>
          (f_X1_walkBest N n S6 ).bind fun S7 =>
          some S7
        else
          (rd (S3.2 15) 3010 0).bind fun x10 =>
          lett (pF S3 917 x10) fun S11 =>
          (f_X1_walkBest N n S11 ).bind fun S12 =>
          some S12
      else
        loop3 (fun (k15 : St → Int32 → Int32 → Int32 → Option St) (S16 : St) (x17 : Int32) (x18 : Int32) (x19 : Int32) =>
          if x19 < 0 then
            k2 S16 (x4 + (-1))
          else
            lett (fun (S22 : St) (x23 : Int32) =>
              lett (fun (S26 : St) (x27 : Int32) (x28 : Int32) =>
                (wr S26 15 3010 ((x4 * 301) + x19) x27).bind fun S30 =>
                (wr S30 16 3010 ((x4 * 301) + x19) x28).bind fun S31 =>
                k15 S31 x27 x28 (x19 + (-1))) fun j25 =>
              if 1000000000 ≤ x23 then
                j25 S22 x17 x18
              else
                if x17 < x23 then
                  j25 S22 x17 x18
                else
                  j25 S22 x23 x19) fun j21 =>
            if 300 ≤ x19 then
              j21 S16 1000000000
            else
              (rd (S16.2 10) 10 x4).bind fun x32 =>
              if x19 < x32 then
                j21 S16 1000000000
              else
                bd2 (f_X1_waitsFrom N n S16 x4 x19) fun r34 S33 =>
                j21 S33 r34) N S3 1000000000 (-1) 300) N S1 ((S1.1 910) - 1)
  else
    some S
set_option maxRecDepth 20000 in
set_option maxHeartbeats 4000000 in
theorem c_X1_plan {l : Launch} {D : va_G} {q : Nat → Nat} {n : Nat} {cI cB cZ : ClassId} {adK adV : Nat → Nat} {N : Nat} {S Sz : St}  (hf : f_X1_plan N n S  = some Sz) : Cn l yX1_plan cX1_plan 6 none 4 89 D (tyL cI cB cZ) (Fx adK adV) (wC q n cI cB cZ) [.ref (q 9)] S none Sz := by
  refine c_of (by decide) fl_wC (Nat.le_of_ble_eq_true rfl) [(0, .ref (q 9))] rfl ?_
  intro p e s m args below meth c K hr hlk hs
  have K : Ok p s m args c cX1_plan 6 RX1 D (tyL cI cB cZ) (Aw (wC q n cI cB cZ) s.heap.size) (wC q n cI cB cZ) := K
  unfold f_X1_plan at hf
  refine g_aload_n 1 0 K dX1_plan_0 rfl rfl rfl ?_
  refine gf_C_9_18 4 K dX1_plan_1 rfl ?_
  refine g_if_eq 8 7 K hf dX1_plan_4 (by decide) rfl (fun hf => ?_) (fun hf => ?_)
  · refine g_aload_n 9 0 K dX1_plan_8 rfl rfl rfl ?_
    refine g_iconst 10 1 K dX1_plan_9 rfl (by decide) ?_
    refine pf_C_9_18 13 K hf (by decide) dX1_plan_10 rfl (fun S1 hf => ?_)
    refine g_aload_n 14 0 K dX1_plan_13 rfl rfl rfl ?_
    refine gf_C_9_10 17 K dX1_plan_14 rfl ?_
    refine g_iconst 18 1 K dX1_plan_17 rfl (by decide) ?_
    refine g_isub 19 K dX1_plan_18 rfl ?_
    refine g_istore_n (lv' := [(1, .int ((S1.1 910) - 1)), (0, .ref (q 9))]) 20 1 K dX1_plan_19 rfl rfl (by decide) rfl ?_
    refine g_sub [1, 0] rfl ?_
    refine g_loop1 (fun (x4 : Int32) => [(0, .ref (q 9)), (1, .int x4)]) hf ?_
    intro k2 S3 x4 hk5 hf
    refine g_iload_n 21 1 K dX1_plan_20 rfl rfl rfl ?_
    refine g_if_lt 131 24 K hf dX1_plan_21 (by decide) rfl (fun hf => ?_) (fun hf => ?_)
    · refine g_aload_n 132 0 K dX1_plan_131 rfl rfl rfl ?_
      refine g_aload_n 133 0 K dX1_plan_132 rfl rfl rfl ?_
      refine gf_C_9_10 136 K dX1_plan_133 rfl ?_
      refine g_if_le 148 139 K hf dX1_plan_136 (by decide) rfl (fun hf => ?_) (fun hf => ?_)
      · refine g_iconst 149 0 K dX1_plan_148 rfl (by decide) ?_
        refine pf_C_9_17 152 K hf dX1_plan_149 rfl (fun S6 hf => ?_)
        refine g_aload_n 153 0 K dX1_plan_152 rfl rfl rfl ?_
        obtain ⟨S7, hc9, hf⟩ := bd_some hf
        refine g_callVv 156 9 [] K (Fx_ok adK adV) hs (c_X1_walkBest hc9) km_X1_94 kI_X1_walkBest kS_X1_walkBest ki_X1 kC_X1_walkBest mw_X1_walkBest ⟨by decide, by decide, by decide, by decide⟩ rfl rfl rfl rfl (Nat.le_of_ble_eq_true rfl) dX1_plan_153 rfl ?_
        exact g_vret K hr hlk hf dX1_plan_156
      · refine g_aload_n 140 0 K dX1_plan_139 rfl rfl rfl ?_
        refine gf_C_9_5 143 K dX1_plan_140 rfl ?_
        refine g_iconst 144 0 K dX1_plan_143 rfl (by decide) ?_
        refine al_C_15 145 K hf dX1_plan_144 rfl (fun x10 hf => ?_)
        refine g_goto 149 K dX1_plan_145 (by decide) ?_
        refine pf_C_9_17 152 K hf dX1_plan_149 rfl (fun S11 hf => ?_)
        refine g_aload_n 153 0 K dX1_plan_152 rfl rfl rfl ?_
        obtain ⟨S12, hc14, hf⟩ := bd_some hf
        refine g_callVv 156 9 [] K (Fx_ok adK adV) hs (c_X1_walkBest hc14) km_X1_94 kI_X1_walkBest kS_X1_walkBest ki_X1 kC_X1_walkBest mw_X1_walkBest ⟨by decide, by decide, by decide, by decide⟩ rfl rfl rfl rfl (Nat.le_of_ble_eq_true rfl) dX1_plan_153 rfl ?_
        exact g_vret K hr hlk hf dX1_plan_156
    · refine g_ldc 26 1000000000 K dX1_plan_24 rfl kc_X1_71 ?_
      refine g_istore_n (lv' := [(2, .int 1000000000), (0, .ref (q 9)), (1, .int x4)]) 27 2 K dX1_plan_26 rfl rfl (by decide) rfl ?_
      refine g_iconst 28 (-1) K dX1_plan_27 rfl (by decide) ?_
      refine g_istore_n (lv' := [(3, .int (-1)), (2, .int 1000000000), (0, .ref (q 9)), (1, .int x4)]) 29 3 K dX1_plan_28 rfl rfl (by decide) rfl ?_
      refine g_sipush 32 300 K dX1_plan_29 rfl (by decide) ?_
      refine g_istore (lv' := [(4, .int 300), (3, .int (-1)), (2, .int 1000000000), (0, .ref (q 9)), (1, .int x4)]) 34 4 K dX1_plan_32 rfl (by decide) rfl ?_
      refine g_sub [3, 4, 2, 1, 0] rfl ?_
      refine g_loop3 (fun (x17 : Int32) (x18 : Int32) (x19 : Int32) => [(0, .ref (q 9)), (1, .int x4), (2, .int x17), (3, .int x18), (4, .int x19)]) hf ?_
      intro k15 S16 x17 x18 x19 hk20 hf
      refine g_iload 36 4 K dX1_plan_34 rfl rfl ?_
      refine g_if_lt 125 39 K hf dX1_plan_36 (by decide) rfl (fun hf => ?_) (fun hf => ?_)
      · refine g_iinc (lv' := [(1, .int (x4 + (-1))), (0, .ref (q 9)), (2, .int x17), (3, .int x18), (4, .int x19)]) 128 1 (-1) K dX1_plan_125 rfl rfl (by decide) (by decide) rfl ?_
        refine g_goto 20 K dX1_plan_128 (by decide) ?_
        exact g_sub [1, 0] rfl (hk5 _ _ hf)
      · refine g_iload 41 4 K dX1_plan_39 rfl rfl ?_
        refine g_sipush 44 300 K dX1_plan_41 rfl (by decide) ?_
        refine g_join1 70 (fun (x23 : Int32) => [(0, .ref (q 9)), (1, .int x4), (2, .int x17), (3, .int x18), (4, .int x19)]) (fun (x23 : Int32) => [.int x23]) hf (fun S22 x23 hf => ?_) (fun j21 hj24 hf => ?_)
        · refine g_istore (lv' := [(5, .int x23), (0, .ref (q 9)), (1, .int x4), (2, .int x17), (3, .int x18), (4, .int x19)]) 72 5 K dX1_plan_70 rfl (by decide) rfl ?_
          refine g_iload 74 0 K dX1_plan_72 rfl rfl ?_
          refine g_ldc 76 1000000000 K dX1_plan_74 rfl kc_X1_71 ?_
          refine g_join2 91 (fun (x27 : Int32) (x28 : Int32) => [(0, .ref (q 9)), (1, .int x4), (2, .int x27), (3, .int x28), (4, .int x19), (5, .int x23)]) (fun (x27 : Int32) (x28 : Int32) => []) hf (fun S26 x27 x28 hf => ?_) (fun j25 hj29 hf => ?_)
          · refine g_aload_n 92 0 K dX1_plan_91 rfl rfl rfl ?_
            refine gf_C_9_5 95 K dX1_plan_92 rfl ?_
            refine g_iload_n 96 1 K dX1_plan_95 rfl rfl rfl ?_
            refine g_sipush 99 301 K dX1_plan_96 rfl (by decide) ?_
            refine g_imul 100 K dX1_plan_99 rfl ?_
            refine g_iload 102 4 K dX1_plan_100 rfl rfl ?_
            refine g_iadd 103 K dX1_plan_102 rfl ?_
            refine g_iload_n 104 2 K dX1_plan_103 rfl rfl rfl ?_
            refine as_C_15 105 K hf dX1_plan_104 rfl (fun S30 hf => ?_)
            refine g_aload_n 106 0 K dX1_plan_105 rfl rfl rfl ?_
            refine gf_C_9_6 109 K dX1_plan_106 rfl ?_
            refine g_iload_n 110 1 K dX1_plan_109 rfl rfl rfl ?_
            refine g_sipush 113 301 K dX1_plan_110 rfl (by decide) ?_
            refine g_imul 114 K dX1_plan_113 rfl ?_
            refine g_iload 116 4 K dX1_plan_114 rfl rfl ?_
            refine g_iadd 117 K dX1_plan_116 rfl ?_
            refine g_iload_n 118 3 K dX1_plan_117 rfl rfl rfl ?_
            refine as_C_16 119 K hf dX1_plan_118 rfl (fun S31 hf => ?_)
            refine g_iinc (lv' := [(4, .int (x19 + (-1))), (0, .ref (q 9)), (1, .int x4), (2, .int x27), (3, .int x28), (5, .int x23)]) 122 4 (-1) K dX1_plan_119 rfl rfl (by decide) (by decide) rfl ?_
            refine g_goto 34 K dX1_plan_122 (by decide) ?_
            exact g_sub [1, 2, 3, 4, 0] rfl (hk20 _ _ _ _ hf)
          · refine g_icmp_ge 91 79 K hf dX1_plan_76 (by decide) rfl (fun hf => ?_) (fun hf => ?_)
            · exact g_sub [1, 2, 3, 4, 5, 0] rfl (hj29 _ _ _ hf)
            · refine g_iload 81 0 K dX1_plan_79 rfl rfl ?_
              refine g_iload_n 82 3 K dX1_plan_81 rfl rfl rfl ?_
              refine g_icmp_gt 91 85 K hf dX1_plan_82 (by decide) rfl (fun hf => ?_) (fun hf => ?_)
              · exact g_sub [1, 2, 3, 4, 5, 0] rfl (hj29 _ _ _ hf)
              · refine g_iload 87 0 K dX1_plan_85 rfl rfl ?_
                refine g_istore_n (lv' := [(2, .int x23), (5, .int x23), (0, .ref (q 9)), (1, .int x4), (3, .int x18), (4, .int x19)]) 88 2 K dX1_plan_87 rfl rfl (by decide) rfl ?_
                refine g_iload 90 5 K dX1_plan_88 rfl rfl ?_
                refine g_istore_n (lv' := [(3, .int x19), (2, .int x23), (5, .int x23), (0, .ref (q 9)), (1, .int x4), (4, .int x19)]) 91 3 K dX1_plan_90 rfl rfl (by decide) rfl ?_
                exact g_sub [3, 4, 1, 0, 5, 2] rfl (hj29 _ _ _ hf)
        · refine g_icmp_ge 68 47 K hf dX1_plan_44 (by decide) rfl (fun hf => ?_) (fun hf => ?_)
          · refine g_ldc 70 1000000000 K dX1_plan_68 rfl kc_X1_71 ?_
            exact g_sub [0, 1, 2, 3, 4] rfl (hj24 _ _ hf)
          · refine g_iload 49 4 K dX1_plan_47 rfl rfl ?_
            refine g_aload_n 50 0 K dX1_plan_49 rfl rfl rfl ?_
            refine gf_C_9_0 53 K dX1_plan_50 rfl ?_
            refine g_iload_n 54 1 K dX1_plan_53 rfl rfl rfl ?_
            refine al_C_10 55 K hf dX1_plan_54 rfl (fun x32 hf => ?_)
            refine g_icmp_lt 68 58 K hf dX1_plan_55 (by decide) rfl (fun hf => ?_) (fun hf => ?_)
            · refine g_ldc 70 1000000000 K dX1_plan_68 rfl kc_X1_71 ?_
              exact g_sub [0, 1, 2, 3, 4] rfl (hj24 _ _ hf)
            · refine g_aload_n 59 0 K dX1_plan_58 rfl rfl rfl ?_
              refine g_iload_n 60 1 K dX1_plan_59 rfl rfl rfl ?_
              refine g_iload 62 4 K dX1_plan_60 rfl rfl ?_
              obtain ⟨r34, S33, hc35, hf⟩ := bd2_some hf
              refine g_callVi 65 9 [] K (Fx_ok adK adV) hs (c_X1_waitsFrom hc35) km_X1_91 kI_X1_waitsFrom kS_X1_waitsFrom ki_X1 kC_X1_waitsFrom mw_X1_waitsFrom ⟨by decide, by decide, by decide, by decide⟩ rfl rfl rfl rfl (Nat.le_of_ble_eq_true rfl) dX1_plan_62 rfl ?_
              refine g_goto 70 K dX1_plan_65 (by decide) ?_
              exact g_sub [0, 1, 2, 3, 4] rfl (hj24 _ _ hf)
  · exact g_vret K hr hlk hf dX1_plan_7
def f_X1_leastWaits (N n : Nat) (S : St)  : Option (Int32 × St) :=
  (f_X1_plan N n S ).bind fun S1 =>
  if 1000000000 ≤ (S1.1 917) then
    some ((-1), S1)
  else
    some (S1.1 917, S1)
set_option maxRecDepth 20000 in
set_option maxHeartbeats 4000000 in
theorem c_X1_leastWaits {l : Launch} {D : va_G} {q : Nat → Nat} {n : Nat} {cI cB cZ : ClassId} {adK adV : Nat → Nat} {N : Nat} {S Sz : St} {rz : Int32}  (hf : f_X1_leastWaits N n S  = some (rz, Sz)) : Cn l yX1_leastWaits cX1_leastWaits 1 (some .int) 5 114 D (tyL cI cB cZ) (Fx adK adV) (wC q n cI cB cZ) [.ref (q 9)] S (some (.int rz)) Sz := by
  refine c_of (by decide) fl_wC (Nat.le_of_ble_eq_true rfl) [(0, .ref (q 9))] rfl ?_
  intro p e s m args below meth c K hr hlk hs
  have K : Ok p s m args c cX1_leastWaits 1 RX1 D (tyL cI cB cZ) (Aw (wC q n cI cB cZ) s.heap.size) (wC q n cI cB cZ) := K
  unfold f_X1_leastWaits at hf
  refine g_aload_n 1 0 K dX1_leastWaits_0 rfl rfl rfl ?_
  obtain ⟨S1, hc3, hf⟩ := bd_some hf
  refine g_callVv 4 9 [] K (Fx_ok adK adV) hs (c_X1_plan hc3) km_X1_65 kI_X1_plan kS_X1_plan ki_X1 kC_X1_plan mw_X1_plan ⟨by decide, by decide, by decide, by decide⟩ rfl rfl rfl rfl (Nat.le_of_ble_eq_true rfl) dX1_leastWaits_1 rfl ?_
  refine g_aload_n 5 0 K dX1_leastWaits_4 rfl rfl rfl ?_
  refine gf_C_9_17 8 K dX1_leastWaits_5 rfl ?_
  refine g_ldc 10 1000000000 K dX1_leastWaits_8 rfl kc_X1_71 ?_
  refine g_icmp_ge 20 13 K hf dX1_leastWaits_10 (by decide) rfl (fun hf => ?_) (fun hf => ?_)
  · refine g_iconst 21 (-1) K dX1_leastWaits_20 rfl (by decide) ?_
    exact g_iret K hr hlk hf dX1_leastWaits_21
  · refine g_aload_n 14 0 K dX1_leastWaits_13 rfl rfl rfl ?_
    refine gf_C_9_17 17 K dX1_leastWaits_14 rfl ?_
    refine g_goto 21 K dX1_leastWaits_17 (by decide) ?_
    exact g_iret K hr hlk hf dX1_leastWaits_21
def f_X1_openingOfBest (N n : Nat) (S : St) (a1 : Int32) (a2 : Int32) : Option (Int32 × St) :=
  (f_X1_plan N n S ).bind fun S1 =>
  bd2 (f_X6_within N n S1 a1 0 ((S1.1 916) - 1)) fun r5 S4 =>
  if r5 = 0 then
    some ((-1), S4)
  else
    if a2 = 0 then
      (rd (S4.2 17) 10 a1).bind fun x7 =>
      some (x7, S4)
    else
    if a2 = 1 then
      (rd (S4.2 18) 10 a1).bind fun x8 =>
      some (x8, S4)
    else
    if a2 = 2 then
      (rd (S4.2 19) 10 a1).bind fun x9 =>
      some (x9, S4)
    else
    some ((-1), S4)
set_option maxRecDepth 20000 in
set_option maxHeartbeats 4000000 in
theorem c_X1_openingOfBest {l : Launch} {D : va_G} {q : Nat → Nat} {n : Nat} {cI cB cZ : ClassId} {adK adV : Nat → Nat} {N : Nat} {S Sz : St} {rz : Int32} {a1 : Int32} {a2 : Int32} (hf : f_X1_openingOfBest N n S a1 a2 = some (rz, Sz)) : Cn l yX1_openingOfBest cX1_openingOfBest 3 (some .int) 5 114 D (tyL cI cB cZ) (Fx adK adV) (wC q n cI cB cZ) [.ref (q 9), .int a1, .int a2] S (some (.int rz)) Sz := by
  refine c_of (by decide) fl_wC (Nat.le_of_ble_eq_true rfl) [(0, .ref (q 9)), (1, .int a1), (2, .int a2)] rfl ?_
  intro p e s m args below meth c K hr hlk hs
  have K : Ok p s m args c cX1_openingOfBest 3 RX1 D (tyL cI cB cZ) (Aw (wC q n cI cB cZ) s.heap.size) (wC q n cI cB cZ) := K
  unfold f_X1_openingOfBest at hf
  refine g_aload_n 1 0 K dX1_openingOfBest_0 rfl rfl rfl ?_
  obtain ⟨S1, hc3, hf⟩ := bd_some hf
  refine g_callVv 4 9 [] K (Fx_ok adK adV) hs (c_X1_plan hc3) km_X1_65 kI_X1_plan kS_X1_plan ki_X1 kC_X1_plan mw_X1_plan ⟨by decide, by decide, by decide, by decide⟩ rfl rfl rfl rfl (Nat.le_of_ble_eq_true rfl) dX1_openingOfBest_1 rfl ?_
  refine g_iload_n 5 1 K dX1_openingOfBest_4 rfl rfl rfl ?_
  refine g_iconst 6 0 K dX1_openingOfBest_5 rfl (by decide) ?_
  refine g_aload_n 7 0 K dX1_openingOfBest_6 rfl rfl rfl ?_
  refine gf_C_9_16 10 K dX1_openingOfBest_7 rfl ?_
  refine g_iconst 11 1 K dX1_openingOfBest_10 rfl (by decide) ?_
  refine g_isub 12 K dX1_openingOfBest_11 rfl ?_
  obtain ⟨r5, S4, hc6, hf⟩ := bd2_some hf
  refine g_callSNi 15 [] K (Fx_ok adK adV) hs (c_X6_within hc6) hs.1.2.1 kt_X6_within ki_X6 kC_X6_within mw_X6_within ⟨by decide, by decide, by decide, by decide⟩ rfl rfl (Nat.le_of_ble_eq_true rfl) dX1_openingOfBest_12 rfl ?_
  refine g_if_ne 20 18 K hf dX1_openingOfBest_15 (by decide) rfl (fun hf => ?_) (fun hf => ?_)
  · refine g_iconst 19 (-1) K dX1_openingOfBest_18 rfl (by decide) ?_
    exact g_iret K hr hlk hf dX1_openingOfBest_19
  · refine g_iload_n 21 2 K dX1_openingOfBest_20 rfl rfl rfl ?_
    refine g_ite hf (fun hsw0 hf => ?_) (fun hsw0 hf => ?_)
    · refine g_tabIn 48 0 K hsw0 dX1_openingOfBest_21 (by decide) (by decide) rfl (by decide) ?_
      refine g_aload_n 49 0 K dX1_openingOfBest_48 rfl rfl rfl ?_
      refine gf_C_9_7 52 K dX1_openingOfBest_49 rfl ?_
      refine g_iload_n 53 1 K dX1_openingOfBest_52 rfl rfl rfl ?_
      refine al_C_17 54 K hf dX1_openingOfBest_53 rfl (fun x7 hf => ?_)
      exact g_iret K hr hlk hf dX1_openingOfBest_54
    refine g_ite hf (fun hsw1 hf => ?_) (fun hsw1 hf => ?_)
    · refine g_tabIn 55 1 K hsw1 dX1_openingOfBest_21 (by decide) (by decide) rfl (by decide) ?_
      refine g_aload_n 56 0 K dX1_openingOfBest_55 rfl rfl rfl ?_
      refine gf_C_9_8 59 K dX1_openingOfBest_56 rfl ?_
      refine g_iload_n 60 1 K dX1_openingOfBest_59 rfl rfl rfl ?_
      refine al_C_18 61 K hf dX1_openingOfBest_60 rfl (fun x8 hf => ?_)
      exact g_iret K hr hlk hf dX1_openingOfBest_61
    refine g_ite hf (fun hsw2 hf => ?_) (fun hsw2 hf => ?_)
    · refine g_tabIn 62 2 K hsw2 dX1_openingOfBest_21 (by decide) (by decide) rfl (by decide) ?_
      refine g_aload_n 63 0 K dX1_openingOfBest_62 rfl rfl rfl ?_
      refine gf_C_9_9 66 K dX1_openingOfBest_63 rfl ?_
      refine g_iload_n 67 1 K dX1_openingOfBest_66 rfl rfl rfl ?_
      refine al_C_19 68 K hf dX1_openingOfBest_67 rfl (fun x9 hf => ?_)
      exact g_iret K hr hlk hf dX1_openingOfBest_68
    refine g_tabOut 69 K (sw_out2 hsw0 hsw1 hsw2) dX1_openingOfBest_21 (by decide) ?_
    refine g_iconst 70 (-1) K dX1_openingOfBest_69 rfl (by decide) ?_
    exact g_iret K hr hlk hf dX1_openingOfBest_70
def f_X1_earliestWaits (N n : Nat) (S : St)  : Option (Int32 × St) :=
  loop4 (fun (k1 : St → Int32 → Int32 → Int32 → Int32 → Option (Int32 × St)) (S2 : St) (x3 : Int32) (x4 : Int32) (x5 : Int32) (x6 : Int32) =>
    if 10 ≤ x6 then
      some (x5, S2)
    else
      if (S2.1 910) ≤ x3 then
        some (x5, S2)
      else
        (rd (S2.2 10) 10 x3).bind fun x8 =>
        if (if x4 < x8 then x8 else x4) < 300 then
          bd2 (f_X1_waitsOfOpening N n S2 x3 (if x4 < x8 then x8 else x4)) fun r10 S9 =>
          bd2 (f_X1_endOfOpening N n S9 x3 (if x4 < x8 then x8 else x4)) fun r13 S12 =>
          (rd (S12.2 12) 300 (if x4 < x8 then x8 else x4)).bind fun x15 =>
          k1 S12 x15 r13 (x5 + r10) (x6 + 1)
        else
          some ((-1), S2)) N S 0 0 0 0
set_option maxRecDepth 20000 in
set_option maxHeartbeats 4000000 in
theorem c_X1_earliestWaits {l : Launch} {D : va_G} {q : Nat → Nat} {n : Nat} {cI cB cZ : ClassId} {adK adV : Nat → Nat} {N : Nat} {S Sz : St} {rz : Int32}  (hf : f_X1_earliestWaits N n S  = some (rz, Sz)) : Cn l yX1_earliestWaits cX1_earliestWaits 6 (some .int) 3 64 D (tyL cI cB cZ) (Fx adK adV) (wC q n cI cB cZ) [.ref (q 9)] S (some (.int rz)) Sz := by
  refine c_of (by decide) fl_wC (Nat.le_of_ble_eq_true rfl) [(0, .ref (q 9))] rfl ?_
  intro p e s m args below meth c K hr hlk hs
  have K : Ok p s m args c cX1_earliestWaits 6 RX1 D (tyL cI cB cZ) (Aw (wC q n cI cB cZ) s.heap.size) (wC q n cI cB cZ) := K
  unfold f_X1_earliestWaits at hf
  refine g_iconst 1 0 K dX1_earliestWaits_0 rfl (by decide) ?_
  refine g_istore_n (lv' := [(1, .int 0), (0, .ref (q 9))]) 2 1 K dX1_earliestWaits_1 rfl rfl (by decide) rfl ?_
  refine g_iconst 3 0 K dX1_earliestWaits_2 rfl (by decide) ?_
  refine g_istore_n (lv' := [(2, .int 0), (1, .int 0), (0, .ref (q 9))]) 4 2 K dX1_earliestWaits_3 rfl rfl (by decide) rfl ?_
  refine g_iconst 5 0 K dX1_earliestWaits_4 rfl (by decide) ?_
  refine g_istore_n (lv' := [(3, .int 0), (2, .int 0), (1, .int 0), (0, .ref (q 9))]) 6 3 K dX1_earliestWaits_5 rfl rfl (by decide) rfl ?_
  refine g_iconst 7 0 K dX1_earliestWaits_6 rfl (by decide) ?_
  refine g_istore (lv' := [(4, .int 0), (3, .int 0), (2, .int 0), (1, .int 0), (0, .ref (q 9))]) 9 4 K dX1_earliestWaits_7 rfl (by decide) rfl ?_
  refine g_sub [4, 3, 2, 1, 0] rfl ?_
  refine g_loop4 (fun (x3 : Int32) (x4 : Int32) (x5 : Int32) (x6 : Int32) => [(0, .ref (q 9)), (1, .int x3), (2, .int x4), (3, .int x5), (4, .int x6)]) hf ?_
  intro k1 S2 x3 x4 x5 x6 hk7 hf
  refine g_iload 11 4 K dX1_earliestWaits_9 rfl rfl ?_
  refine g_bipush 13 10 K dX1_earliestWaits_11 rfl (by decide) ?_
  refine g_icmp_ge 78 16 K hf dX1_earliestWaits_13 (by decide) rfl (fun hf => ?_) (fun hf => ?_)
  · refine g_iload_n 79 3 K dX1_earliestWaits_78 rfl rfl rfl ?_
    exact g_iret K hr hlk hf dX1_earliestWaits_79
  · refine g_iload_n 17 1 K dX1_earliestWaits_16 rfl rfl rfl ?_
    refine g_aload_n 18 0 K dX1_earliestWaits_17 rfl rfl rfl ?_
    refine gf_C_9_10 21 K dX1_earliestWaits_18 rfl ?_
    refine g_icmp_ge 78 24 K hf dX1_earliestWaits_21 (by decide) rfl (fun hf => ?_) (fun hf => ?_)
    · refine g_iload_n 79 3 K dX1_earliestWaits_78 rfl rfl rfl ?_
      exact g_iret K hr hlk hf dX1_earliestWaits_79
    · refine g_iload_n 25 2 K dX1_earliestWaits_24 rfl rfl rfl ?_
      refine g_aload_n 26 0 K dX1_earliestWaits_25 rfl rfl rfl ?_
      refine gf_C_9_0 29 K dX1_earliestWaits_26 rfl ?_
      refine g_iload_n 30 1 K dX1_earliestWaits_29 rfl rfl rfl ?_
      refine al_C_10 31 K hf dX1_earliestWaits_30 rfl (fun x8 hf => ?_)
      refine g_mmax 34 K km_X1_79 kt_J9_max_7cf53 ki_J9 kC_J9_max_7cf53 ⟨by decide, Nat.le_of_ble_eq_true rfl, by decide, by decide⟩ dX1_earliestWaits_31 rfl ?_
      refine g_istore (lv' := [(5, .int (if x4 < x8 then x8 else x4)), (0, .ref (q 9)), (1, .int x3), (2, .int x4), (3, .int x5), (4, .int x6)]) 36 5 K dX1_earliestWaits_34 rfl (by decide) rfl ?_
      refine g_iload 38 0 K dX1_earliestWaits_36 rfl rfl ?_
      refine g_sipush 41 300 K dX1_earliestWaits_38 rfl (by decide) ?_
      refine g_icmp_lt 46 44 K hf dX1_earliestWaits_41 (by decide) rfl (fun hf => ?_) (fun hf => ?_)
      · refine g_iload_n 47 4 K dX1_earliestWaits_46 rfl rfl rfl ?_
        refine g_aload_n 48 1 K dX1_earliestWaits_47 rfl rfl rfl ?_
        refine g_iload_n 49 2 K dX1_earliestWaits_48 rfl rfl rfl ?_
        refine g_iload 51 0 K dX1_earliestWaits_49 rfl rfl ?_
        obtain ⟨r10, S9, hc11, hf⟩ := bd2_some hf
        refine g_callVi 54 9 [.int x5] K (Fx_ok adK adV) hs (c_X1_waitsOfOpening hc11) km_X1_85 kI_X1_waitsOfOpening kS_X1_waitsOfOpening ki_X1 kC_X1_waitsOfOpening mw_X1_waitsOfOpening ⟨by decide, by decide, by decide, by decide⟩ rfl rfl rfl rfl (Nat.le_of_ble_eq_true rfl) dX1_earliestWaits_51 rfl ?_
        refine g_iadd 55 K dX1_earliestWaits_54 rfl ?_
        refine g_istore_n (lv' := [(3, .int (x5 + r10)), (5, .int (if x4 < x8 then x8 else x4)), (0, .ref (q 9)), (1, .int x3), (2, .int x4), (4, .int x6)]) 56 3 K dX1_earliestWaits_55 rfl rfl (by decide) rfl ?_
        refine g_aload_n 57 2 K dX1_earliestWaits_56 rfl rfl rfl ?_
        refine g_iload_n 58 3 K dX1_earliestWaits_57 rfl rfl rfl ?_
        refine g_iload 60 1 K dX1_earliestWaits_58 rfl rfl ?_
        obtain ⟨r13, S12, hc14, hf⟩ := bd2_some hf
        refine g_callVi 63 9 [] K (Fx_ok adK adV) hs (c_X1_endOfOpening hc14) km_X1_88 kI_X1_endOfOpening kS_X1_endOfOpening ki_X1 kC_X1_endOfOpening mw_X1_endOfOpening ⟨by decide, by decide, by decide, by decide⟩ rfl rfl rfl rfl (Nat.le_of_ble_eq_true rfl) dX1_earliestWaits_60 rfl ?_
        refine g_istore_n (lv' := [(2, .int r13), (3, .int (x5 + r10)), (5, .int (if x4 < x8 then x8 else x4)), (0, .ref (q 9)), (1, .int x3), (4, .int x6)]) 64 2 K dX1_earliestWaits_63 rfl rfl (by decide) rfl ?_
        refine g_aload_n 65 3 K dX1_earliestWaits_64 rfl rfl rfl ?_
        refine gf_C_9_2 68 K dX1_earliestWaits_65 rfl ?_
        refine g_iload 70 2 K dX1_earliestWaits_68 rfl rfl ?_
        refine al_C_12 71 K hf dX1_earliestWaits_70 rfl (fun x15 hf => ?_)
        refine g_istore_n (lv' := [(1, .int x15), (2, .int r13), (3, .int (x5 + r10)), (5, .int (if x4 < x8 then x8 else x4)), (0, .ref (q 9)), (4, .int x6)]) 72 1 K dX1_earliestWaits_71 rfl rfl (by decide) rfl ?_
        refine g_iinc (lv' := [(4, .int (x6 + 1)), (1, .int x15), (2, .int r13), (3, .int (x5 + r10)), (5, .int (if x4 < x8 then x8 else x4)), (0, .ref (q 9))]) 75 5 1 K dX1_earliestWaits_72 rfl rfl (by decide) (by decide) rfl ?_
        refine g_goto 9 K dX1_earliestWaits_75 (by decide) ?_
        exact g_sub [5, 1, 2, 3, 0] rfl (hk7 _ _ _ _ _ hf)
      · refine g_iconst 45 (-1) K dX1_earliestWaits_44 rfl (by decide) ?_
        exact g_iret K hr hlk hf dX1_earliestWaits_45
def f_X2_foretell (N n : Nat) (S : St) (a1 : Int32) (a2 : Int32) : Option St :=
  (wr S 21 60 a1 a2).bind fun S1 =>
  lett (pF S1 2005 0) fun S2 =>
  some S2
set_option maxRecDepth 20000 in
set_option maxHeartbeats 4000000 in
theorem c_X2_foretell {l : Launch} {D : va_G} {q : Nat → Nat} {n : Nat} {cI cB cZ : ClassId} {adK adV : Nat → Nat} {N : Nat} {S Sz : St} {a1 : Int32} {a2 : Int32} (hf : f_X2_foretell N n S a1 a2 = some Sz) : Cn l yX2_foretell cX2_foretell 3 none 0 0 D (tyL cI cB cZ) (Fx adK adV) (wC q n cI cB cZ) [.ref (q 20), .int a1, .int a2] S none Sz := by
  refine c_of (by decide) fl_wC (Nat.le_of_ble_eq_true rfl) [(0, .ref (q 20)), (1, .int a1), (2, .int a2)] rfl ?_
  intro p e s m args below meth c K hr hlk hs
  have K : Ok p s m args c cX2_foretell 3 RX2 D (tyL cI cB cZ) (Aw (wC q n cI cB cZ) s.heap.size) (wC q n cI cB cZ) := K
  unfold f_X2_foretell at hf
  refine g_aload_n 1 0 K dX2_foretell_0 rfl rfl rfl ?_
  refine gf_C_20_0 4 K dX2_foretell_1 rfl ?_
  refine g_iload_n 5 1 K dX2_foretell_4 rfl rfl rfl ?_
  refine g_iload_n 6 2 K dX2_foretell_5 rfl rfl rfl ?_
  refine as_C_21 7 K hf dX2_foretell_6 rfl (fun S1 hf => ?_)
  refine g_aload_n 8 0 K dX2_foretell_7 rfl rfl rfl ?_
  refine g_iconst 9 0 K dX2_foretell_8 rfl (by decide) ?_
  refine pf_C_20_5 12 K hf (by decide) dX2_foretell_9 rfl (fun S2 hf => ?_)
  exact g_vret K hr hlk hf dX2_foretell_12
def f_X2_setLimits (N n : Nat) (S : St) (a1 : Int32) (a2 : Int32) : Option St :=
  lett (pF S 2003 a1) fun S1 =>
  lett (pF S1 2004 a2) fun S2 =>
  lett (pF S2 2005 0) fun S3 =>
  some S3
set_option maxRecDepth 20000 in
set_option maxHeartbeats 4000000 in
theorem c_X2_setLimits {l : Launch} {D : va_G} {q : Nat → Nat} {n : Nat} {cI cB cZ : ClassId} {adK adV : Nat → Nat} {N : Nat} {S Sz : St} {a1 : Int32} {a2 : Int32} (hf : f_X2_setLimits N n S a1 a2 = some Sz) : Cn l yX2_setLimits cX2_setLimits 3 none 0 0 D (tyL cI cB cZ) (Fx adK adV) (wC q n cI cB cZ) [.ref (q 20), .int a1, .int a2] S none Sz := by
  refine c_of (by decide) fl_wC (Nat.le_of_ble_eq_true rfl) [(0, .ref (q 20)), (1, .int a1), (2, .int a2)] rfl ?_
  intro p e s m args below meth c K hr hlk hs
  have K : Ok p s m args c cX2_setLimits 3 RX2 D (tyL cI cB cZ) (Aw (wC q n cI cB cZ) s.heap.size) (wC q n cI cB cZ) := K
  unfold f_X2_setLimits at hf
  refine g_aload_n 1 0 K dX2_setLimits_0 rfl rfl rfl ?_
  refine g_iload_n 2 1 K dX2_setLimits_1 rfl rfl rfl ?_
  refine pf_C_20_3 5 K hf dX2_setLimits_2 rfl (fun S1 hf => ?_)
  refine g_aload_n 6 0 K dX2_setLimits_5 rfl rfl rfl ?_
  refine g_iload_n 7 2 K dX2_setLimits_6 rfl rfl rfl ?_
  refine pf_C_20_4 10 K hf dX2_setLimits_7 rfl (fun S2 hf => ?_)
  refine g_aload_n 11 0 K dX2_setLimits_10 rfl rfl rfl ?_
  refine g_iconst 12 0 K dX2_setLimits_11 rfl (by decide) ?_
  refine pf_C_20_5 15 K hf (by decide) dX2_setLimits_12 rfl (fun S3 hf => ?_)
  exact g_vret K hr hlk hf dX2_setLimits_15
def f_X2_isBad (N n : Nat) (S : St) (a1 : Int32) : Option (Int32 × St) :=
  (rd (S.2 21) 60 a1).bind fun x1 =>
  if x1 = (-1) then
    zr 1 S
  else
    (rd (S.2 21) 60 a1).bind fun x2 =>
    if x2 ≤ (S.1 2003) then
      zr 0 S
    else
      zr 1 S
set_option maxRecDepth 20000 in
set_option maxHeartbeats 4000000 in
theorem c_X2_isBad {l : Launch} {D : va_G} {q : Nat → Nat} {n : Nat} {cI cB cZ : ClassId} {adK adV : Nat → Nat} {N : Nat} {S Sz : St} {rz : Int32} {a1 : Int32} (hf : f_X2_isBad N n S a1 = some (rz, Sz)) : Cn l yX2_isBad cX2_isBad 2 (some .boolean) 0 0 D (tyL cI cB cZ) (Fx adK adV) (wC q n cI cB cZ) [.ref (q 20), .int a1] S (some (.int rz)) Sz := by
  refine c_of (by decide) fl_wC (Nat.le_of_ble_eq_true rfl) [(0, .ref (q 20)), (1, .int a1)] rfl ?_
  intro p e s m args below meth c K hr hlk hs
  have K : Ok p s m args c cX2_isBad 2 RX2 D (tyL cI cB cZ) (Aw (wC q n cI cB cZ) s.heap.size) (wC q n cI cB cZ) := K
  unfold f_X2_isBad at hf
  refine g_aload_n 1 0 K dX2_isBad_0 rfl rfl rfl ?_
  refine gf_C_20_0 4 K dX2_isBad_1 rfl ?_
  refine g_iload_n 5 1 K dX2_isBad_4 rfl rfl rfl ?_
  refine al_C_21 6 K hf dX2_isBad_5 rfl (fun x1 hf => ?_)
  refine g_iconst 7 (-1) K dX2_isBad_6 rfl (by decide) ?_
  refine g_icmp_eq 23 10 K hf dX2_isBad_7 (by decide) rfl (fun hf => ?_) (fun hf => ?_)
  · refine g_iconst 24 1 K dX2_isBad_23 rfl (by decide) ?_
    refine g_goto 28 K dX2_isBad_24 (by decide) ?_
    exact g_zret K hr hlk hf dX2_isBad_28
  · refine g_aload_n 11 0 K dX2_isBad_10 rfl rfl rfl ?_
    refine gf_C_20_0 14 K dX2_isBad_11 rfl ?_
    refine g_iload_n 15 1 K dX2_isBad_14 rfl rfl rfl ?_
    refine al_C_21 16 K hf dX2_isBad_15 rfl (fun x2 hf => ?_)
    refine g_aload_n 17 0 K dX2_isBad_16 rfl rfl rfl ?_
    refine gf_C_20_3 20 K dX2_isBad_17 rfl ?_
    refine g_icmp_le 27 23 K hf dX2_isBad_20 (by decide) rfl (fun hf => ?_) (fun hf => ?_)
    · refine g_iconst 28 0 K dX2_isBad_27 rfl (by decide) ?_
      exact g_zret K hr hlk hf dX2_isBad_28
    · refine g_iconst 24 1 K dX2_isBad_23 rfl (by decide) ?_
      refine g_goto 28 K dX2_isBad_24 (by decide) ?_
      exact g_zret K hr hlk hf dX2_isBad_28
def f_X2_mayBeIn (N n : Nat) (S : St) (a1 : Int32) (a2 : Int32) : Option (Int32 × St) :=
  bd2 (f_X2_isBad N n S a1) fun r2 S1 =>
  if r2 = 0 then
    if a2 = 0 then
      zr 1 S1
    else
      if a2 = (S1.1 2004) then
        zr 1 S1
      else
        zr 0 S1
  else
    zr 0 S1
set_option maxRecDepth 20000 in
set_option maxHeartbeats 4000000 in
theorem c_X2_mayBeIn {l : Launch} {D : va_G} {q : Nat → Nat} {n : Nat} {cI cB cZ : ClassId} {adK adV : Nat → Nat} {N : Nat} {S Sz : St} {rz : Int32} {a1 : Int32} {a2 : Int32} (hf : f_X2_mayBeIn N n S a1 a2 = some (rz, Sz)) : Cn l yX2_mayBeIn cX2_mayBeIn 3 (some .boolean) 1 21 D (tyL cI cB cZ) (Fx adK adV) (wC q n cI cB cZ) [.ref (q 20), .int a1, .int a2] S (some (.int rz)) Sz := by
  refine c_of (by decide) fl_wC (Nat.le_of_ble_eq_true rfl) [(0, .ref (q 20)), (1, .int a1), (2, .int a2)] rfl ?_
  intro p e s m args below meth c K hr hlk hs
  have K : Ok p s m args c cX2_mayBeIn 3 RX2 D (tyL cI cB cZ) (Aw (wC q n cI cB cZ) s.heap.size) (wC q n cI cB cZ) := K
  unfold f_X2_mayBeIn at hf
  refine g_aload_n 1 0 K dX2_mayBeIn_0 rfl rfl rfl ?_
  refine g_iload_n 2 1 K dX2_mayBeIn_1 rfl rfl rfl ?_
  obtain ⟨r2, S1, hc3, hf⟩ := bd2_some hf
  refine g_callVi 5 20 [] K (Fx_ok adK adV) hs (c_X2_isBad hc3) km_X2_62 kI_X2_isBad kS_X2_isBad ki_X2 kC_X2_isBad mw_X2_isBad ⟨by decide, by decide, by decide, by decide⟩ rfl rfl rfl rfl (Nat.le_of_ble_eq_true rfl) dX2_mayBeIn_2 rfl ?_
  refine g_if_ne 24 8 K hf dX2_mayBeIn_5 (by decide) rfl (fun hf => ?_) (fun hf => ?_)
  · refine g_iload_n 9 2 K dX2_mayBeIn_8 rfl rfl rfl ?_
    refine g_if_eq 20 12 K hf dX2_mayBeIn_9 (by decide) rfl (fun hf => ?_) (fun hf => ?_)
    · refine g_iconst 21 1 K dX2_mayBeIn_20 rfl (by decide) ?_
      refine g_goto 25 K dX2_mayBeIn_21 (by decide) ?_
      exact g_zret K hr hlk hf dX2_mayBeIn_25
    · refine g_iload_n 13 2 K dX2_mayBeIn_12 rfl rfl rfl ?_
      refine g_aload_n 14 0 K dX2_mayBeIn_13 rfl rfl rfl ?_
      refine gf_C_20_4 17 K dX2_mayBeIn_14 rfl ?_
      refine g_icmp_ne 24 20 K hf dX2_mayBeIn_17 (by decide) rfl (fun hf => ?_) (fun hf => ?_)
      · refine g_iconst 21 1 K dX2_mayBeIn_20 rfl (by decide) ?_
        refine g_goto 25 K dX2_mayBeIn_21 (by decide) ?_
        exact g_zret K hr hlk hf dX2_mayBeIn_25
      · refine g_iconst 25 0 K dX2_mayBeIn_24 rfl (by decide) ?_
        exact g_zret K hr hlk hf dX2_mayBeIn_25
  · refine g_iconst 25 0 K dX2_mayBeIn_24 rfl (by decide) ?_
    exact g_zret K hr hlk hf dX2_mayBeIn_25
def f_X2_needIfIn (N n : Nat) (S : St) (a1 : Int32) : Option (Int32 × St) :=
  (rd (S.2 23) 610 ((a1 + 1) * 10)).bind fun x1 =>
  some (x1, S)
set_option maxRecDepth 20000 in
set_option maxHeartbeats 4000000 in
theorem c_X2_needIfIn {l : Launch} {D : va_G} {q : Nat → Nat} {n : Nat} {cI cB cZ : ClassId} {adK adV : Nat → Nat} {N : Nat} {S Sz : St} {rz : Int32} {a1 : Int32} (hf : f_X2_needIfIn N n S a1 = some (rz, Sz)) : Cn l yX2_needIfIn cX2_needIfIn 2 (some .int) 0 0 D (tyL cI cB cZ) (Fx adK adV) (wC q n cI cB cZ) [.ref (q 20), .int a1] S (some (.int rz)) Sz := by
  refine c_of (by decide) fl_wC (Nat.le_of_ble_eq_true rfl) [(0, .ref (q 20)), (1, .int a1)] rfl ?_
  intro p e s m args below meth c K hr hlk hs
  have K : Ok p s m args c cX2_needIfIn 2 RX2 D (tyL cI cB cZ) (Aw (wC q n cI cB cZ) s.heap.size) (wC q n cI cB cZ) := K
  unfold f_X2_needIfIn at hf
  refine g_aload_n 1 0 K dX2_needIfIn_0 rfl rfl rfl ?_
  refine gf_C_20_2 4 K dX2_needIfIn_1 rfl ?_
  refine g_iload_n 5 1 K dX2_needIfIn_4 rfl rfl rfl ?_
  refine g_iconst 6 1 K dX2_needIfIn_5 rfl (by decide) ?_
  refine g_iadd 7 K dX2_needIfIn_6 rfl ?_
  refine g_bipush 9 10 K dX2_needIfIn_7 rfl (by decide) ?_
  refine g_imul 10 K dX2_needIfIn_9 rfl ?_
  refine al_C_23 11 K hf dX2_needIfIn_10 rfl (fun x1 hf => ?_)
  exact g_iret K hr hlk hf dX2_needIfIn_11
def f_X2_needIfOut (N n : Nat) (S : St) (a1 : Int32) (a2 : Int32) : Option (Int32 × St) :=
  (rd (S.2 23) 610 (((a1 + 1) * 10) + (if (S.1 2004) < (a2 + 1) then (S.1 2004) else (a2 + 1)))).bind fun x1 =>
  some (1 + x1, S)
set_option maxRecDepth 20000 in
set_option maxHeartbeats 4000000 in
theorem c_X2_needIfOut {l : Launch} {D : va_G} {q : Nat → Nat} {n : Nat} {cI cB cZ : ClassId} {adK adV : Nat → Nat} {N : Nat} {S Sz : St} {rz : Int32} {a1 : Int32} {a2 : Int32} (hf : f_X2_needIfOut N n S a1 a2 = some (rz, Sz)) : Cn l yX2_needIfOut cX2_needIfOut 3 (some .int) 1 16 D (tyL cI cB cZ) (Fx adK adV) (wC q n cI cB cZ) [.ref (q 20), .int a1, .int a2] S (some (.int rz)) Sz := by
  refine c_of (by decide) fl_wC (Nat.le_of_ble_eq_true rfl) [(0, .ref (q 20)), (1, .int a1), (2, .int a2)] rfl ?_
  intro p e s m args below meth c K hr hlk hs
  have K : Ok p s m args c cX2_needIfOut 3 RX2 D (tyL cI cB cZ) (Aw (wC q n cI cB cZ) s.heap.size) (wC q n cI cB cZ) := K
  unfold f_X2_needIfOut at hf
  refine g_iconst 1 1 K dX2_needIfOut_0 rfl (by decide) ?_
  refine g_aload_n 2 0 K dX2_needIfOut_1 rfl rfl rfl ?_
  refine gf_C_20_2 5 K dX2_needIfOut_2 rfl ?_
  refine g_iload_n 6 1 K dX2_needIfOut_5 rfl rfl rfl ?_
  refine g_iconst 7 1 K dX2_needIfOut_6 rfl (by decide) ?_
  refine g_iadd 8 K dX2_needIfOut_7 rfl ?_
  refine g_bipush 10 10 K dX2_needIfOut_8 rfl (by decide) ?_
  refine g_imul 11 K dX2_needIfOut_10 rfl ?_
  refine g_iload_n 12 2 K dX2_needIfOut_11 rfl rfl rfl ?_
  refine g_iconst 13 1 K dX2_needIfOut_12 rfl (by decide) ?_
  refine g_iadd 14 K dX2_needIfOut_13 rfl ?_
  refine g_aload_n 15 0 K dX2_needIfOut_14 rfl rfl rfl ?_
  refine gf_C_20_4 18 K dX2_needIfOut_15 rfl ?_
  refine g_mmin 21 K km_X2_54 kt_J9_min_7cf53 ki_J9 kC_J9_min_7cf53 ⟨by decide, Nat.le_of_ble_eq_true rfl, by decide, by decide⟩ dX2_needIfOut_18 rfl ?_
  refine g_iadd 22 K dX2_needIfOut_21 rfl ?_
  refine al_C_23 23 K hf dX2_needIfOut_22 rfl (fun x1 hf => ?_)
  refine g_iadd 24 K dX2_needIfOut_23 rfl ?_
  exact g_iret K hr hlk hf dX2_needIfOut_24
def f_X2_chooseDays (N n : Nat) (S : St)  : Option St :=
  loop2 (fun (k1 : St → Int32 → Int32 → Option St) (S2 : St) (x3 : Int32) (x4 : Int32) =>
    if 60 ≤ x4 then
      some S2
    else
      bd2 (f_X2_mayBeIn N n S2 x4 x3) fun r7 S6 =>
      lett (fun (S10 : St) (x11 : Int32) =>
        lett (fun (S14 : St) (x15 : Int32) =>
          (wr S14 22 60 x4 (vp_nar .boolean x15)).bind fun S17 =>
          if x11 = 0 then
            k1 S17 (if (S17.1 2004) < (x3 + 1) then (S17.1 2004) else (x3 + 1)) (x4 + 1)
          else
            k1 S17 0 (x4 + 1)) fun j13 =>
        if x11 = 0 then
          j13 S10 1
        else
          j13 S10 0) fun j9 =>
      if r7 = 0 then
        j9 S6 0
      else
        bd2 (f_X2_needIfIn N n S6 x4) fun r19 S18 =>
        bd2 (f_X2_needIfOut N n S18 x4 x3) fun r22 S21 =>
        if r22 < r19 then
          j9 S21 0
        else
          j9 S21 1) N S 0 0
set_option maxRecDepth 20000 in
set_option maxHeartbeats 4000000 in
theorem c_X2_chooseDays {l : Launch} {D : va_G} {q : Nat → Nat} {n : Nat} {cI cB cZ : ClassId} {adK adV : Nat → Nat} {N : Nat} {S Sz : St}  (hf : f_X2_chooseDays N n S  = some Sz) : Cn l yX2_chooseDays cX2_chooseDays 4 none 2 43 D (tyL cI cB cZ) (Fx adK adV) (wC q n cI cB cZ) [.ref (q 20)] S none Sz := by
  refine c_of (by decide) fl_wC (Nat.le_of_ble_eq_true rfl) [(0, .ref (q 20))] rfl ?_
  intro p e s m args below meth c K hr hlk hs
  have K : Ok p s m args c cX2_chooseDays 4 RX2 D (tyL cI cB cZ) (Aw (wC q n cI cB cZ) s.heap.size) (wC q n cI cB cZ) := K
  unfold f_X2_chooseDays at hf
  refine g_iconst 1 0 K dX2_chooseDays_0 rfl (by decide) ?_
  refine g_istore_n (lv' := [(1, .int 0), (0, .ref (q 20))]) 2 1 K dX2_chooseDays_1 rfl rfl (by decide) rfl ?_
  refine g_iconst 3 0 K dX2_chooseDays_2 rfl (by decide) ?_
  refine g_istore_n (lv' := [(2, .int 0), (1, .int 0), (0, .ref (q 20))]) 4 2 K dX2_chooseDays_3 rfl rfl (by decide) rfl ?_
  refine g_sub [2, 1, 0] rfl ?_
  refine g_loop2 (fun (x3 : Int32) (x4 : Int32) => [(0, .ref (q 20)), (1, .int x3), (2, .int x4)]) hf ?_
  intro k1 S2 x3 x4 hk5 hf
  refine g_iload_n 5 2 K dX2_chooseDays_4 rfl rfl rfl ?_
  refine g_bipush 7 60 K dX2_chooseDays_5 rfl (by decide) ?_
  refine g_icmp_ge 79 10 K hf dX2_chooseDays_7 (by decide) rfl (fun hf => ?_) (fun hf => ?_)
  · exact g_vret K hr hlk hf dX2_chooseDays_79
  · refine g_aload_n 11 0 K dX2_chooseDays_10 rfl rfl rfl ?_
    refine g_iload_n 12 2 K dX2_chooseDays_11 rfl rfl rfl ?_
    refine g_iload_n 13 1 K dX2_chooseDays_12 rfl rfl rfl ?_
    obtain ⟨r7, S6, hc8, hf⟩ := bd2_some hf
    refine g_callVi 16 20 [] K (Fx_ok adK adV) hs (c_X2_mayBeIn hc8) km_X2_46 kI_X2_mayBeIn kS_X2_mayBeIn ki_X2 kC_X2_mayBeIn mw_X2_mayBeIn ⟨by decide, by decide, by decide, by decide⟩ rfl rfl rfl rfl (Nat.le_of_ble_eq_true rfl) dX2_chooseDays_13 rfl ?_
    refine g_join1 38 (fun (x11 : Int32) => [(0, .ref (q 20)), (1, .int x3), (2, .int x4)]) (fun (x11 : Int32) => [.int x11]) hf (fun S10 x11 hf => ?_) (fun j9 hj12 hf => ?_)
    · refine g_istore_n (lv' := [(3, .int x11), (0, .ref (q 20)), (1, .int x3), (2, .int x4)]) 39 3 K dX2_chooseDays_38 rfl rfl (by decide) rfl ?_
      refine g_aload_n 40 1 K dX2_chooseDays_39 rfl rfl rfl ?_
      refine gf_C_20_1 43 K dX2_chooseDays_40 rfl ?_
      refine g_iload_n 44 3 K dX2_chooseDays_43 rfl rfl rfl ?_
      refine g_iload_n 45 0 K dX2_chooseDays_44 rfl rfl rfl ?_
      refine g_join1 53 (fun (x15 : Int32) => [(0, .ref (q 20)), (1, .int x3), (2, .int x4), (3, .int x11)]) (fun (x15 : Int32) => [.int x15, .int x4, .ref (q 22)]) hf (fun S14 x15 hf => ?_) (fun j13 hj16 hf => ?_)
      · refine as_C_22 54 K hf dX2_chooseDays_53 rfl (fun S17 hf => ?_)
        refine g_iload_n 55 3 K dX2_chooseDays_54 rfl rfl rfl ?_
        refine g_if_eq 62 58 K hf dX2_chooseDays_55 (by decide) rfl (fun hf => ?_) (fun hf => ?_)
        · refine g_iload_n 63 1 K dX2_chooseDays_62 rfl rfl rfl ?_
          refine g_iconst 64 1 K dX2_chooseDays_63 rfl (by decide) ?_
          refine g_iadd 65 K dX2_chooseDays_64 rfl ?_
          refine g_aload_n 66 0 K dX2_chooseDays_65 rfl rfl rfl ?_
          refine gf_C_20_4 69 K dX2_chooseDays_66 rfl ?_
          refine g_mmin 72 K km_X2_54 kt_J9_min_7cf53 ki_J9 kC_J9_min_7cf53 ⟨by decide, Nat.le_of_ble_eq_true rfl, by decide, by decide⟩ dX2_chooseDays_69 rfl ?_
          refine g_istore_n (lv' := [(1, .int (if (S17.1 2004) < (x3 + 1) then (S17.1 2004) else (x3 + 1))), (0, .ref (q 20)), (2, .int x4), (3, .int x11)]) 73 1 K dX2_chooseDays_72 rfl rfl (by decide) rfl ?_
          refine g_iinc (lv' := [(2, .int (x4 + 1)), (1, .int (if (S17.1 2004) < (x3 + 1) then (S17.1 2004) else (x3 + 1))), (0, .ref (q 20)), (3, .int x11)]) 76 2 1 K dX2_chooseDays_73 rfl rfl (by decide) (by decide) rfl ?_
          refine g_goto 4 K dX2_chooseDays_76 (by decide) ?_
          exact g_sub [2, 1, 0] rfl (hk5 _ _ _ hf)
        · refine g_iconst 59 0 K dX2_chooseDays_58 rfl (by decide) ?_
          refine g_goto 72 K dX2_chooseDays_59 (by decide) ?_
          refine g_istore_n (lv' := [(1, .int 0), (0, .ref (q 20)), (2, .int x4), (3, .int x11)]) 73 1 K dX2_chooseDays_72 rfl rfl (by decide) rfl ?_
          refine g_iinc (lv' := [(2, .int (x4 + 1)), (1, .int 0), (0, .ref (q 20)), (3, .int x11)]) 76 2 1 K dX2_chooseDays_73 rfl rfl (by decide) (by decide) rfl ?_
          refine g_goto 4 K dX2_chooseDays_76 (by decide) ?_
          exact g_sub [2, 1, 0] rfl (hk5 _ _ _ hf)
      · refine g_if_ne 52 48 K hf dX2_chooseDays_45 (by decide) rfl (fun hf => ?_) (fun hf => ?_)
        · refine g_iconst 49 1 K dX2_chooseDays_48 rfl (by decide) ?_
          refine g_goto 53 K dX2_chooseDays_49 (by decide) ?_
          exact g_sub [1, 2, 3, 0] rfl (hj16 _ _ hf)
        · refine g_iconst 53 0 K dX2_chooseDays_52 rfl (by decide) ?_
          exact g_sub [1, 2, 3, 0] rfl (hj16 _ _ hf)
    · refine g_if_eq 37 19 K hf dX2_chooseDays_16 (by decide) rfl (fun hf => ?_) (fun hf => ?_)
      · refine g_iconst 38 0 K dX2_chooseDays_37 rfl (by decide) ?_
        exact g_sub [0, 1, 2] rfl (hj12 _ _ hf)
      · refine g_aload_n 20 0 K dX2_chooseDays_19 rfl rfl rfl ?_
        refine g_iload_n 21 2 K dX2_chooseDays_20 rfl rfl rfl ?_
        obtain ⟨r19, S18, hc20, hf⟩ := bd2_some hf
        refine g_callVi 24 20 [] K (Fx_ok adK adV) hs (c_X2_needIfIn hc20) km_X2_50 kI_X2_needIfIn kS_X2_needIfIn ki_X2 kC_X2_needIfIn mw_X2_needIfIn ⟨by decide, by decide, by decide, by decide⟩ rfl rfl rfl rfl (Nat.le_of_ble_eq_true rfl) dX2_chooseDays_21 rfl ?_
        refine g_aload_n 25 0 K dX2_chooseDays_24 rfl rfl rfl ?_
        refine g_iload_n 26 2 K dX2_chooseDays_25 rfl rfl rfl ?_
        refine g_iload_n 27 1 K dX2_chooseDays_26 rfl rfl rfl ?_
        obtain ⟨r22, S21, hc23, hf⟩ := bd2_some hf
        refine g_callVi 30 20 [.int r19] K (Fx_ok adK adV) hs (c_X2_needIfOut hc23) km_X2_42 kI_X2_needIfOut kS_X2_needIfOut ki_X2 kC_X2_needIfOut mw_X2_needIfOut ⟨by decide, by decide, by decide, by decide⟩ rfl rfl rfl rfl (Nat.le_of_ble_eq_true rfl) dX2_chooseDays_27 rfl ?_
        refine g_icmp_gt 37 33 K hf dX2_chooseDays_30 (by decide) rfl (fun hf => ?_) (fun hf => ?_)
        · refine g_iconst 38 0 K dX2_chooseDays_37 rfl (by decide) ?_
          exact g_sub [0, 1, 2] rfl (hj12 _ _ hf)
        · refine g_iconst 34 1 K dX2_chooseDays_33 rfl (by decide) ?_
          refine g_goto 38 K dX2_chooseDays_34 (by decide) ?_
          exact g_sub [0, 1, 2] rfl (hj12 _ _ hf)
def f_X2_plan (N n : Nat) (S : St)  : Option St :=
  if (S.1 2005) = 0 then
    lett (pF S 2005 1) fun S1 =>
    loop1 (fun (k2 : St → Int32 → Option St) (S3 : St) (x4 : Int32) =>
      if x4 < 0 then
        (f_X2_chooseDays N n S3 ).bind fun S6 =>
        some S6
      else
        loop1 (fun (k9 : St → Int32 → Option St) (S10 : St) (x11 : Int32) =>
          if (S10.1 2004) < x11 then
            k2 S10 (x4 + (-1))
          else
            bd2 (f_X2_needIfOut N n S10 x4 x11) fun r14 S13 =>
            bd2 (f_X2_mayBeIn N n S13 x4 x11) fun r17 S16 =>
            lett (fun (S20 : St) (x21 : Int32) =>
              (wr S20 23 610 ((x4 * 10) + x11) x21).bind fun S23 =>
              k9 S23 (x11 + 1)) fun j19 =>
            if r17 = 0 then
              j19 S16 r14
            else
              bd2 (f_X2_needIfIn N n S16 x4) fun r25 S24 =>
              j19 S24 (if r25 < r14 then r25 else r14)) N S3 0) N S1 59
  else
    some S
set_option maxRecDepth 20000 in
set_option maxHeartbeats 4000000 in
theorem c_X2_plan {l : Launch} {D : va_G} {q : Nat → Nat} {n : Nat} {cI cB cZ : ClassId} {adK adV : Nat → Nat} {N : Nat} {S Sz : St}  (hf : f_X2_plan N n S  = some Sz) : Cn l yX2_plan cX2_plan 4 none 3 66 D (tyL cI cB cZ) (Fx adK adV) (wC q n cI cB cZ) [.ref (q 20)] S none Sz := by
  refine c_of (by decide) fl_wC (Nat.le_of_ble_eq_true rfl) [(0, .ref (q 20))] rfl ?_
  intro p e s m args below meth c K hr hlk hs
  have K : Ok p s m args c cX2_plan 4 RX2 D (tyL cI cB cZ) (Aw (wC q n cI cB cZ) s.heap.size) (wC q n cI cB cZ) := K
  unfold f_X2_plan at hf
  refine g_aload_n 1 0 K dX2_plan_0 rfl rfl rfl ?_
  refine gf_C_20_5 4 K dX2_plan_1 rfl ?_
  refine g_if_eq 8 7 K hf dX2_plan_4 (by decide) rfl (fun hf => ?_) (fun hf => ?_)
  · refine g_aload_n 9 0 K dX2_plan_8 rfl rfl rfl ?_
    refine g_iconst 10 1 K dX2_plan_9 rfl (by decide) ?_
    refine pf_C_20_5 13 K hf (by decide) dX2_plan_10 rfl (fun S1 hf => ?_)
    refine g_bipush 15 59 K dX2_plan_13 rfl (by decide) ?_
    refine g_istore_n (lv' := [(1, .int 59), (0, .ref (q 20))]) 16 1 K dX2_plan_15 rfl rfl (by decide) rfl ?_
    refine g_sub [1, 0] rfl ?_
    refine g_loop1 (fun (x4 : Int32) => [(0, .ref (q 20)), (1, .int x4)]) hf ?_
    intro k2 S3 x4 hk5 hf
    refine g_iload_n 17 1 K dX2_plan_16 rfl rfl rfl ?_
    refine g_if_lt 80 20 K hf dX2_plan_17 (by decide) rfl (fun hf => ?_) (fun hf => ?_)
    · refine g_aload_n 81 0 K dX2_plan_80 rfl rfl rfl ?_
      obtain ⟨S6, hc8, hf⟩ := bd_some hf
      refine g_callVv 84 20 [] K (Fx_ok adK adV) hs (c_X2_chooseDays hc8) km_X2_59 kI_X2_chooseDays kS_X2_chooseDays ki_X2 kC_X2_chooseDays mw_X2_chooseDays ⟨by decide, by decide, by decide, by decide⟩ rfl rfl rfl rfl (Nat.le_of_ble_eq_true rfl) dX2_plan_81 rfl ?_
      exact g_vret K hr hlk hf dX2_plan_84
    · refine g_iconst 21 0 K dX2_plan_20 rfl (by decide) ?_
      refine g_istore_n (lv' := [(2, .int 0), (0, .ref (q 20)), (1, .int x4)]) 22 2 K dX2_plan_21 rfl rfl (by decide) rfl ?_
      refine g_sub [1, 2, 0] rfl ?_
      refine g_loop1 (fun (x11 : Int32) => [(0, .ref (q 20)), (1, .int x4), (2, .int x11)]) hf ?_
      intro k9 S10 x11 hk12 hf
      refine g_iload_n 23 2 K dX2_plan_22 rfl rfl rfl ?_
      refine g_aload_n 24 0 K dX2_plan_23 rfl rfl rfl ?_
      refine gf_C_20_4 27 K dX2_plan_24 rfl ?_
      refine g_icmp_gt 74 30 K hf dX2_plan_27 (by decide) rfl (fun hf => ?_) (fun hf => ?_)
      · refine g_iinc (lv' := [(1, .int (x4 + (-1))), (0, .ref (q 20)), (2, .int x11)]) 77 1 (-1) K dX2_plan_74 rfl rfl (by decide) (by decide) rfl ?_
        refine g_goto 16 K dX2_plan_77 (by decide) ?_
        exact g_sub [1, 0] rfl (hk5 _ _ hf)
      · refine g_aload_n 31 0 K dX2_plan_30 rfl rfl rfl ?_
        refine g_iload_n 32 1 K dX2_plan_31 rfl rfl rfl ?_
        refine g_iload_n 33 2 K dX2_plan_32 rfl rfl rfl ?_
        obtain ⟨r14, S13, hc15, hf⟩ := bd2_some hf
        refine g_callVi 36 20 [] K (Fx_ok adK adV) hs (c_X2_needIfOut hc15) km_X2_42 kI_X2_needIfOut kS_X2_needIfOut ki_X2 kC_X2_needIfOut mw_X2_needIfOut ⟨by decide, by decide, by decide, by decide⟩ rfl rfl rfl rfl (Nat.le_of_ble_eq_true rfl) dX2_plan_33 rfl ?_
        refine g_istore_n (lv' := [(3, .int r14), (0, .ref (q 20)), (1, .int x4), (2, .int x11)]) 37 3 K dX2_plan_36 rfl rfl (by decide) rfl ?_
        refine g_aload_n 38 1 K dX2_plan_37 rfl rfl rfl ?_
        refine g_iload_n 39 2 K dX2_plan_38 rfl rfl rfl ?_
        refine g_iload_n 40 3 K dX2_plan_39 rfl rfl rfl ?_
        obtain ⟨r17, S16, hc18, hf⟩ := bd2_some hf
        refine g_callVi 43 20 [] K (Fx_ok adK adV) hs (c_X2_mayBeIn hc18) km_X2_46 kI_X2_mayBeIn kS_X2_mayBeIn ki_X2 kC_X2_mayBeIn mw_X2_mayBeIn ⟨by decide, by decide, by decide, by decide⟩ rfl rfl rfl rfl (Nat.le_of_ble_eq_true rfl) dX2_plan_40 rfl ?_
        refine g_join1 56 (fun (x21 : Int32) => [(0, .ref (q 20)), (1, .int x4), (2, .int x11), (3, .int x21)]) (fun (x21 : Int32) => []) hf (fun S20 x21 hf => ?_) (fun j19 hj22 hf => ?_)
        · refine g_aload_n 57 0 K dX2_plan_56 rfl rfl rfl ?_
          refine gf_C_20_2 60 K dX2_plan_57 rfl ?_
          refine g_iload_n 61 1 K dX2_plan_60 rfl rfl rfl ?_
          refine g_bipush 63 10 K dX2_plan_61 rfl (by decide) ?_
          refine g_imul 64 K dX2_plan_63 rfl ?_
          refine g_iload_n 65 2 K dX2_plan_64 rfl rfl rfl ?_
          refine g_iadd 66 K dX2_plan_65 rfl ?_
          refine g_iload_n 67 3 K dX2_plan_66 rfl rfl rfl ?_
          refine as_C_23 68 K hf dX2_plan_67 rfl (fun S23 hf => ?_)
          refine g_iinc (lv' := [(2, .int (x11 + 1)), (0, .ref (q 20)), (1, .int x4), (3, .int x21)]) 71 2 1 K dX2_plan_68 rfl rfl (by decide) (by decide) rfl ?_
          refine g_goto 22 K dX2_plan_71 (by decide) ?_
          exact g_sub [1, 2, 0] rfl (hk12 _ _ hf)
        · refine g_if_eq 56 46 K hf dX2_plan_43 (by decide) rfl (fun hf => ?_) (fun hf => ?_)
          · exact g_sub [1, 2, 3, 0] rfl (hj22 _ _ hf)
          · refine g_iload_n 47 0 K dX2_plan_46 rfl rfl rfl ?_
            refine g_aload_n 48 1 K dX2_plan_47 rfl rfl rfl ?_
            refine g_iload_n 49 2 K dX2_plan_48 rfl rfl rfl ?_
            obtain ⟨r25, S24, hc26, hf⟩ := bd2_some hf
            refine g_callVi 52 20 [.int r14] K (Fx_ok adK adV) hs (c_X2_needIfIn hc26) km_X2_50 kI_X2_needIfIn kS_X2_needIfIn ki_X2 kC_X2_needIfIn mw_X2_needIfIn ⟨by decide, by decide, by decide, by decide⟩ rfl rfl rfl rfl (Nat.le_of_ble_eq_true rfl) dX2_plan_49 rfl ?_
            refine g_mmin 55 K km_X2_54 kt_J9_min_7cf53 ki_J9 kC_J9_min_7cf53 ⟨by decide, Nat.le_of_ble_eq_true rfl, by decide, by decide⟩ dX2_plan_52 rfl ?_
            refine g_istore_n (lv' := [(3, .int (if r25 < r14 then r25 else r14)), (0, .ref (q 20)), (1, .int x4), (2, .int x11)]) 56 3 K dX2_plan_55 rfl rfl (by decide) rfl ?_
            exact g_sub [1, 2, 3, 0] rfl (hj22 _ _ hf)
  · exact g_vret K hr hlk hf dX2_plan_7
def f_X2_isOut (N n : Nat) (S : St) (a1 : Int32) : Option (Int32 × St) :=
  (f_X2_plan N n S ).bind fun S1 =>
  (rd (S1.2 22) 60 a1).bind fun x4 =>
  zr x4 S1
set_option maxRecDepth 20000 in
set_option maxHeartbeats 4000000 in
theorem c_X2_isOut {l : Launch} {D : va_G} {q : Nat → Nat} {n : Nat} {cI cB cZ : ClassId} {adK adV : Nat → Nat} {N : Nat} {S Sz : St} {rz : Int32} {a1 : Int32} (hf : f_X2_isOut N n S a1 = some (rz, Sz)) : Cn l yX2_isOut cX2_isOut 2 (some .boolean) 4 89 D (tyL cI cB cZ) (Fx adK adV) (wC q n cI cB cZ) [.ref (q 20), .int a1] S (some (.int rz)) Sz := by
  refine c_of (by decide) fl_wC (Nat.le_of_ble_eq_true rfl) [(0, .ref (q 20)), (1, .int a1)] rfl ?_
  intro p e s m args below meth c K hr hlk hs
  have K : Ok p s m args c cX2_isOut 2 RX2 D (tyL cI cB cZ) (Aw (wC q n cI cB cZ) s.heap.size) (wC q n cI cB cZ) := K
  unfold f_X2_isOut at hf
  refine g_aload_n 1 0 K dX2_isOut_0 rfl rfl rfl ?_
  obtain ⟨S1, hc3, hf⟩ := bd_some hf
  refine g_callVv 4 20 [] K (Fx_ok adK adV) hs (c_X2_plan hc3) km_X2_39 kI_X2_plan kS_X2_plan ki_X2 kC_X2_plan mw_X2_plan ⟨by decide, by decide, by decide, by decide⟩ rfl rfl rfl rfl (Nat.le_of_ble_eq_true rfl) dX2_isOut_1 rfl ?_
  refine g_aload_n 5 0 K dX2_isOut_4 rfl rfl rfl ?_
  refine gf_C_20_1 8 K dX2_isOut_5 rfl ?_
  refine g_iload_n 9 1 K dX2_isOut_8 rfl rfl rfl ?_
  refine al_C_22 10 K hf dX2_isOut_9 rfl (fun x4 hf => ?_)
  exact g_zret K hr hlk hf dX2_isOut_10
def f_X2_fewest (N n : Nat) (S : St)  : Option (Int32 × St) :=
  (f_X2_plan N n S ).bind fun S1 =>
  (rd (S1.2 23) 610 0).bind fun x4 =>
  some (x4, S1)
set_option maxRecDepth 20000 in
set_option maxHeartbeats 4000000 in
theorem c_X2_fewest {l : Launch} {D : va_G} {q : Nat → Nat} {n : Nat} {cI cB cZ : ClassId} {adK adV : Nat → Nat} {N : Nat} {S Sz : St} {rz : Int32}  (hf : f_X2_fewest N n S  = some (rz, Sz)) : Cn l yX2_fewest cX2_fewest 1 (some .int) 4 89 D (tyL cI cB cZ) (Fx adK adV) (wC q n cI cB cZ) [.ref (q 20)] S (some (.int rz)) Sz := by
  refine c_of (by decide) fl_wC (Nat.le_of_ble_eq_true rfl) [(0, .ref (q 20))] rfl ?_
  intro p e s m args below meth c K hr hlk hs
  have K : Ok p s m args c cX2_fewest 1 RX2 D (tyL cI cB cZ) (Aw (wC q n cI cB cZ) s.heap.size) (wC q n cI cB cZ) := K
  unfold f_X2_fewest at hf
  refine g_aload_n 1 0 K dX2_fewest_0 rfl rfl rfl ?_
  obtain ⟨S1, hc3, hf⟩ := bd_some hf
  refine g_callVv 4 20 [] K (Fx_ok adK adV) hs (c_X2_plan hc3) km_X2_39 kI_X2_plan kS_X2_plan ki_X2 kC_X2_plan mw_X2_plan ⟨by decide, by decide, by decide, by decide⟩ rfl rfl rfl rfl (Nat.le_of_ble_eq_true rfl) dX2_fewest_1 rfl ?_
  refine g_aload_n 5 0 K dX2_fewest_4 rfl rfl rfl ?_
  refine gf_C_20_2 8 K dX2_fewest_5 rfl ?_
  refine g_iconst 9 0 K dX2_fewest_8 rfl (by decide) ?_
  refine al_C_23 10 K hf dX2_fewest_9 rfl (fun x4 hf => ?_)
  exact g_iret K hr hlk hf dX2_fewest_10
def f_X3_size (N n : Nat) (S : St)  : Option (Int32 × St) :=
  some (S.1 2401, S)
set_option maxRecDepth 20000 in
set_option maxHeartbeats 4000000 in
theorem c_X3_size {l : Launch} {D : va_G} {q : Nat → Nat} {n : Nat} {cI cB cZ : ClassId} {adK adV : Nat → Nat} {N : Nat} {S Sz : St} {rz : Int32}  (hf : f_X3_size N n S  = some (rz, Sz)) : Cn l yX3_size cX3_size 1 (some .int) 0 0 D (tyL cI cB cZ) (Fx adK adV) (wC q n cI cB cZ) [.ref (q 24)] S (some (.int rz)) Sz := by
  refine c_of (by decide) fl_wC (Nat.le_of_ble_eq_true rfl) [(0, .ref (q 24))] rfl ?_
  intro p e s m args below meth c K hr hlk hs
  have K : Ok p s m args c cX3_size 1 RX3 D (tyL cI cB cZ) (Aw (wC q n cI cB cZ) s.heap.size) (wC q n cI cB cZ) := K
  unfold f_X3_size at hf
  refine g_aload_n 1 0 K dX3_size_0 rfl rfl rfl ?_
  refine gf_C_24_1 4 K dX3_size_1 rfl ?_
  exact g_iret K hr hlk hf dX3_size_4
def f_X3_byteAt (N n : Nat) (S : St) (a1 : Int32) : Option (Int32 × St) :=
  bd2 (f_X6_within N n S a1 0 ((S.1 2401) - 1)) fun r2 S1 =>
  if r2 = 0 then
    some ((-1), S1)
  else
    (rd (S1.2 25) 200 a1).bind fun x4 =>
    some (x4 &&& 255, S1)
set_option maxRecDepth 20000 in
set_option maxHeartbeats 4000000 in
theorem c_X3_byteAt {l : Launch} {D : va_G} {q : Nat → Nat} {n : Nat} {cI cB cZ : ClassId} {adK adV : Nat → Nat} {N : Nat} {S Sz : St} {rz : Int32} {a1 : Int32} (hf : f_X3_byteAt N n S a1 = some (rz, Sz)) : Cn l yX3_byteAt cX3_byteAt 2 (some .int) 1 22 D (tyL cI cB cZ) (Fx adK adV) (wC q n cI cB cZ) [.ref (q 24), .int a1] S (some (.int rz)) Sz := by
  refine c_of (by decide) fl_wC (Nat.le_of_ble_eq_true rfl) [(0, .ref (q 24)), (1, .int a1)] rfl ?_
  intro p e s m args below meth c K hr hlk hs
  have K : Ok p s m args c cX3_byteAt 2 RX3 D (tyL cI cB cZ) (Aw (wC q n cI cB cZ) s.heap.size) (wC q n cI cB cZ) := K
  unfold f_X3_byteAt at hf
  refine g_iload_n 1 1 K dX3_byteAt_0 rfl rfl rfl ?_
  refine g_iconst 2 0 K dX3_byteAt_1 rfl (by decide) ?_
  refine g_aload_n 3 0 K dX3_byteAt_2 rfl rfl rfl ?_
  refine gf_C_24_1 6 K dX3_byteAt_3 rfl ?_
  refine g_iconst 7 1 K dX3_byteAt_6 rfl (by decide) ?_
  refine g_isub 8 K dX3_byteAt_7 rfl ?_
  obtain ⟨r2, S1, hc3, hf⟩ := bd2_some hf
  refine g_callSNi 11 [] K (Fx_ok adK adV) hs (c_X6_within hc3) hs.1.2.2.1 kt_X6_within ki_X6 kC_X6_within mw_X6_within ⟨by decide, by decide, by decide, by decide⟩ rfl rfl (Nat.le_of_ble_eq_true rfl) dX3_byteAt_8 rfl ?_
  refine g_if_eq 27 14 K hf dX3_byteAt_11 (by decide) rfl (fun hf => ?_) (fun hf => ?_)
  · refine g_iconst 28 (-1) K dX3_byteAt_27 rfl (by decide) ?_
    exact g_iret K hr hlk hf dX3_byteAt_28
  · refine g_aload_n 15 0 K dX3_byteAt_14 rfl rfl rfl ?_
    refine gf_C_24_0 18 K dX3_byteAt_15 rfl ?_
    refine g_iload_n 19 1 K dX3_byteAt_18 rfl rfl rfl ?_
    refine al_C_25 20 K hf dX3_byteAt_19 rfl (fun x4 hf => ?_)
    refine g_sipush 23 255 K dX3_byteAt_20 rfl (by decide) ?_
    refine g_iand 24 K dX3_byteAt_23 rfl ?_
    refine g_goto 28 K dX3_byteAt_24 (by decide) ?_
    exact g_iret K hr hlk hf dX3_byteAt_28
def f_X3_addWord (N n : Nat) (S : St) (a1 : Int32) : Option St :=
  loop1 (fun (k1 : St → Int32 → Option St) (S2 : St) (x3 : Int32) =>
    if x3 < 0 then
      some S2
    else
      if 200 ≤ (S2.1 2401) then
        some S2
      else
        (wr S2 25 200 (S2.1 2401) (vp_nar .byte ((a1 >>> (x3 &&& 31)).toInt8.toInt32))).bind fun S5 =>
        lett (pF S5 2401 ((S5.1 2401) + 1)) fun S6 =>
        k1 S6 (x3 + (-8))) N S 24
set_option maxRecDepth 20000 in
set_option maxHeartbeats 4000000 in
theorem c_X3_addWord {l : Launch} {D : va_G} {q : Nat → Nat} {n : Nat} {cI cB cZ : ClassId} {adK adV : Nat → Nat} {N : Nat} {S Sz : St} {a1 : Int32} (hf : f_X3_addWord N n S a1 = some Sz) : Cn l yX3_addWord cX3_addWord 3 none 0 0 D (tyL cI cB cZ) (Fx adK adV) (wC q n cI cB cZ) [.ref (q 24), .int a1] S none Sz := by
  refine c_of (by decide) fl_wC (Nat.le_of_ble_eq_true rfl) [(0, .ref (q 24)), (1, .int a1)] rfl ?_
  intro p e s m args below meth c K hr hlk hs
  have K : Ok p s m args c cX3_addWord 3 RX3 D (tyL cI cB cZ) (Aw (wC q n cI cB cZ) s.heap.size) (wC q n cI cB cZ) := K
  unfold f_X3_addWord at hf
  refine g_bipush 2 24 K dX3_addWord_0 rfl (by decide) ?_
  refine g_istore_n (lv' := [(2, .int 24), (0, .ref (q 24)), (1, .int a1)]) 3 2 K dX3_addWord_2 rfl rfl (by decide) rfl ?_
  refine g_sub [1, 2, 0] rfl ?_
  refine g_loop1 (fun (x3 : Int32) => [(0, .ref (q 24)), (1, .int a1), (2, .int x3)]) hf ?_
  intro k1 S2 x3 hk4 hf
  refine g_iload_n 4 2 K dX3_addWord_3 rfl rfl rfl ?_
  refine g_if_lt 46 7 K hf dX3_addWord_4 (by decide) rfl (fun hf => ?_) (fun hf => ?_)
  · exact g_vret K hr hlk hf dX3_addWord_46
  · refine g_aload_n 8 0 K dX3_addWord_7 rfl rfl rfl ?_
    refine gf_C_24_1 11 K dX3_addWord_8 rfl ?_
    refine g_sipush 14 200 K dX3_addWord_11 rfl (by decide) ?_
    refine g_icmp_ge 46 17 K hf dX3_addWord_14 (by decide) rfl (fun hf => ?_) (fun hf => ?_)
    · exact g_vret K hr hlk hf dX3_addWord_46
    · refine g_aload_n 18 0 K dX3_addWord_17 rfl rfl rfl ?_
      refine gf_C_24_0 21 K dX3_addWord_18 rfl ?_
      refine g_aload_n 22 0 K dX3_addWord_21 rfl rfl rfl ?_
      refine gf_C_24_1 25 K dX3_addWord_22 rfl ?_
      refine g_iload_n 26 1 K dX3_addWord_25 rfl rfl rfl ?_
      refine g_iload_n 27 2 K dX3_addWord_26 rfl rfl rfl ?_
      refine g_ishr 28 K dX3_addWord_27 rfl ?_
      refine g_i2b 29 K dX3_addWord_28 rfl ?_
      refine as_C_25 30 K hf dX3_addWord_29 rfl (fun S5 hf => ?_)
      refine g_aload_n 31 0 K dX3_addWord_30 rfl rfl rfl ?_
      refine g_dup 32 K dX3_addWord_31 rfl rfl ?_
      refine gf_C_24_1 35 K dX3_addWord_32 rfl ?_
      refine g_iconst 36 1 K dX3_addWord_35 rfl (by decide) ?_
      refine g_iadd 37 K dX3_addWord_36 rfl ?_
      refine pf_C_24_1 40 K hf dX3_addWord_37 rfl (fun S6 hf => ?_)
      refine g_iinc (lv' := [(2, .int (x3 + (-8))), (0, .ref (q 24)), (1, .int a1)]) 43 2 (-8) K dX3_addWord_40 rfl rfl (by decide) (by decide) rfl ?_
      refine g_goto 3 K dX3_addWord_43 (by decide) ?_
      exact g_sub [1, 2, 0] rfl (hk4 _ _ hf)
def f_X3_cutTo (N n : Nat) (S : St) (a1 : Int32) : Option St :=
  lett (pF S 2401 a1) fun S1 =>
  some S1
set_option maxRecDepth 20000 in
set_option maxHeartbeats 4000000 in
theorem c_X3_cutTo {l : Launch} {D : va_G} {q : Nat → Nat} {n : Nat} {cI cB cZ : ClassId} {adK adV : Nat → Nat} {N : Nat} {S Sz : St} {a1 : Int32} (hf : f_X3_cutTo N n S a1 = some Sz) : Cn l yX3_cutTo cX3_cutTo 2 none 0 0 D (tyL cI cB cZ) (Fx adK adV) (wC q n cI cB cZ) [.ref (q 24), .int a1] S none Sz := by
  refine c_of (by decide) fl_wC (Nat.le_of_ble_eq_true rfl) [(0, .ref (q 24)), (1, .int a1)] rfl ?_
  intro p e s m args below meth c K hr hlk hs
  have K : Ok p s m args c cX3_cutTo 2 RX3 D (tyL cI cB cZ) (Aw (wC q n cI cB cZ) s.heap.size) (wC q n cI cB cZ) := K
  unfold f_X3_cutTo at hf
  refine g_aload_n 1 0 K dX3_cutTo_0 rfl rfl rfl ?_
  refine g_iload_n 2 1 K dX3_cutTo_1 rfl rfl rfl ?_
  refine pf_C_24_1 5 K hf dX3_cutTo_2 rfl (fun S1 hf => ?_)
  exact g_vret K hr hlk hf dX3_cutTo_5
def f_X4_tollOf (N n : Nat) (S : St) (a1 : Int32) : Option (Int32 × St) :=
  (rd (S.2 30) 6 a1).bind fun x1 =>
  some (x1, S)
set_option maxRecDepth 20000 in
set_option maxHeartbeats 4000000 in
theorem c_X4_tollOf {l : Launch} {D : va_G} {q : Nat → Nat} {n : Nat} {cI cB cZ : ClassId} {adK adV : Nat → Nat} {N : Nat} {S Sz : St} {rz : Int32} {a1 : Int32} (hf : f_X4_tollOf N n S a1 = some (rz, Sz)) : Cn l yX4_tollOf cX4_tollOf 2 (some .int) 0 0 D (tyL cI cB cZ) (Fx adK adV) (wC q n cI cB cZ) [.ref (q 29), .int a1] S (some (.int rz)) Sz := by
  refine c_of (by decide) fl_wC (Nat.le_of_ble_eq_true rfl) [(0, .ref (q 29)), (1, .int a1)] rfl ?_
  intro p e s m args below meth c K hr hlk hs
  have K : Ok p s m args c cX4_tollOf 2 RX4 D (tyL cI cB cZ) (Aw (wC q n cI cB cZ) s.heap.size) (wC q n cI cB cZ) := K
  unfold f_X4_tollOf at hf
  refine g_aload_n 1 0 K dX4_tollOf_0 rfl rfl rfl ?_
  refine gf_C_29_0 4 K dX4_tollOf_1 rfl ?_
  refine g_iload_n 5 1 K dX4_tollOf_4 rfl rfl rfl ?_
  refine al_C_30 6 K hf dX4_tollOf_5 rfl (fun x1 hf => ?_)
  exact g_iret K hr hlk hf dX4_tollOf_6
def f_X4_againOf (N n : Nat) (S : St) (a1 : Int32) : Option (Int32 × St) :=
  (rd (S.2 31) 6 a1).bind fun x1 =>
  some (x1, S)
set_option maxRecDepth 20000 in
set_option maxHeartbeats 4000000 in
theorem c_X4_againOf {l : Launch} {D : va_G} {q : Nat → Nat} {n : Nat} {cI cB cZ : ClassId} {adK adV : Nat → Nat} {N : Nat} {S Sz : St} {rz : Int32} {a1 : Int32} (hf : f_X4_againOf N n S a1 = some (rz, Sz)) : Cn l yX4_againOf cX4_againOf 2 (some .int) 0 0 D (tyL cI cB cZ) (Fx adK adV) (wC q n cI cB cZ) [.ref (q 29), .int a1] S (some (.int rz)) Sz := by
  refine c_of (by decide) fl_wC (Nat.le_of_ble_eq_true rfl) [(0, .ref (q 29)), (1, .int a1)] rfl ?_
  intro p e s m args below meth c K hr hlk hs
  have K : Ok p s m args c cX4_againOf 2 RX4 D (tyL cI cB cZ) (Aw (wC q n cI cB cZ) s.heap.size) (wC q n cI cB cZ) := K
  unfold f_X4_againOf at hf
  refine g_aload_n 1 0 K dX4_againOf_0 rfl rfl rfl ?_
  refine gf_C_29_1 4 K dX4_againOf_1 rfl ?_
  refine g_iload_n 5 1 K dX4_againOf_4 rfl rfl rfl ?_
  refine al_C_31 6 K hf dX4_againOf_5 rfl (fun x1 hf => ?_)
  exact g_iret K hr hlk hf dX4_againOf_6
def f_X4_latestMinute (N n : Nat) (S : St)  : Option (Int32 × St) :=
  some (S.1 2903, S)
set_option maxRecDepth 20000 in
set_option maxHeartbeats 4000000 in
theorem c_X4_latestMinute {l : Launch} {D : va_G} {q : Nat → Nat} {n : Nat} {cI cB cZ : ClassId} {adK adV : Nat → Nat} {N : Nat} {S Sz : St} {rz : Int32}  (hf : f_X4_latestMinute N n S  = some (rz, Sz)) : Cn l yX4_latestMinute cX4_latestMinute 1 (some .int) 0 0 D (tyL cI cB cZ) (Fx adK adV) (wC q n cI cB cZ) [.ref (q 29)] S (some (.int rz)) Sz := by
  refine c_of (by decide) fl_wC (Nat.le_of_ble_eq_true rfl) [(0, .ref (q 29))] rfl ?_
  intro p e s m args below meth c K hr hlk hs
  have K : Ok p s m args c cX4_latestMinute 1 RX4 D (tyL cI cB cZ) (Aw (wC q n cI cB cZ) s.heap.size) (wC q n cI cB cZ) := K
  unfold f_X4_latestMinute at hf
  refine g_aload_n 1 0 K dX4_latestMinute_0 rfl rfl rfl ?_
  refine gf_C_29_3 4 K dX4_latestMinute_1 rfl ?_
  exact g_iret K hr hlk hf dX4_latestMinute_4
def f_X4_paidTogether (N n : Nat) (S : St)  : Option (Int32 × St) :=
  some (S.1 2904, S)
set_option maxRecDepth 20000 in
set_option maxHeartbeats 4000000 in
theorem c_X4_paidTogether {l : Launch} {D : va_G} {q : Nat → Nat} {n : Nat} {cI cB cZ : ClassId} {adK adV : Nat → Nat} {N : Nat} {S Sz : St} {rz : Int32}  (hf : f_X4_paidTogether N n S  = some (rz, Sz)) : Cn l yX4_paidTogether cX4_paidTogether 1 (some .int) 0 0 D (tyL cI cB cZ) (Fx adK adV) (wC q n cI cB cZ) [.ref (q 29)] S (some (.int rz)) Sz := by
  refine c_of (by decide) fl_wC (Nat.le_of_ble_eq_true rfl) [(0, .ref (q 29))] rfl ?_
  intro p e s m args below meth c K hr hlk hs
  have K : Ok p s m args c cX4_paidTogether 1 RX4 D (tyL cI cB cZ) (Aw (wC q n cI cB cZ) s.heap.size) (wC q n cI cB cZ) := K
  unfold f_X4_paidTogether at hf
  refine g_aload_n 1 0 K dX4_paidTogether_0 rfl rfl rfl ?_
  refine gf_C_29_4 4 K dX4_paidTogether_1 rfl ?_
  exact g_iret K hr hlk hf dX4_paidTogether_4
def f_X4_wentFree (N n : Nat) (S : St)  : Option (Int32 × St) :=
  some (S.1 2905, S)
set_option maxRecDepth 20000 in
set_option maxHeartbeats 4000000 in
theorem c_X4_wentFree {l : Launch} {D : va_G} {q : Nat → Nat} {n : Nat} {cI cB cZ : ClassId} {adK adV : Nat → Nat} {N : Nat} {S Sz : St} {rz : Int32}  (hf : f_X4_wentFree N n S  = some (rz, Sz)) : Cn l yX4_wentFree cX4_wentFree 1 (some .int) 0 0 D (tyL cI cB cZ) (Fx adK adV) (wC q n cI cB cZ) [.ref (q 29)] S (some (.int rz)) Sz := by
  refine c_of (by decide) fl_wC (Nat.le_of_ble_eq_true rfl) [(0, .ref (q 29))] rfl ?_
  intro p e s m args below meth c K hr hlk hs
  have K : Ok p s m args c cX4_wentFree 1 RX4 D (tyL cI cB cZ) (Aw (wC q n cI cB cZ) s.heap.size) (wC q n cI cB cZ) := K
  unfold f_X4_wentFree at hf
  refine g_aload_n 1 0 K dX4_wentFree_0 rfl rfl rfl ?_
  refine gf_C_29_5 4 K dX4_wentFree_1 rfl ?_
  exact g_iret K hr hlk hf dX4_wentFree_4
def f_X4_goesFree (N n : Nat) (S : St) (a1 : Int32) (a2 : Int32) (a3 : Int32) : Option (Int32 × St) :=
  (rd (S.2 31) 6 a1).bind fun x1 =>
  if x1 ≤ 0 then
    zr 0 S
  else
    (rd (S.2 32) 120 a2).bind fun x2 =>
    if x2 = (-1) then
      zr 0 S
    else
      (rd (S.2 32) 120 a2).bind fun x3 =>
      (rd (S.2 31) 6 a1).bind fun x4 =>
      if x4 < (a3 - x3) then
        zr 0 S
      else
        zr 1 S
set_option maxRecDepth 20000 in
set_option maxHeartbeats 4000000 in
theorem c_X4_goesFree {l : Launch} {D : va_G} {q : Nat → Nat} {n : Nat} {cI cB cZ : ClassId} {adK adV : Nat → Nat} {N : Nat} {S Sz : St} {rz : Int32} {a1 : Int32} {a2 : Int32} {a3 : Int32} (hf : f_X4_goesFree N n S a1 a2 a3 = some (rz, Sz)) : Cn l yX4_goesFree cX4_goesFree 4 (some .boolean) 0 0 D (tyL cI cB cZ) (Fx adK adV) (wC q n cI cB cZ) [.ref (q 29), .int a1, .int a2, .int a3] S (some (.int rz)) Sz := by
  refine c_of (by decide) fl_wC (Nat.le_of_ble_eq_true rfl) [(0, .ref (q 29)), (1, .int a1), (2, .int a2), (3, .int a3)] rfl ?_
  intro p e s m args below meth c K hr hlk hs
  have K : Ok p s m args c cX4_goesFree 4 RX4 D (tyL cI cB cZ) (Aw (wC q n cI cB cZ) s.heap.size) (wC q n cI cB cZ) := K
  unfold f_X4_goesFree at hf
  refine g_aload_n 1 0 K dX4_goesFree_0 rfl rfl rfl ?_
  refine gf_C_29_1 4 K dX4_goesFree_1 rfl ?_
  refine g_iload_n 5 1 K dX4_goesFree_4 rfl rfl rfl ?_
  refine al_C_31 6 K hf dX4_goesFree_5 rfl (fun x1 hf => ?_)
  refine g_if_le 40 9 K hf dX4_goesFree_6 (by decide) rfl (fun hf => ?_) (fun hf => ?_)
  · refine g_iconst 41 0 K dX4_goesFree_40 rfl (by decide) ?_
    exact g_zret K hr hlk hf dX4_goesFree_41
  · refine g_aload_n 10 0 K dX4_goesFree_9 rfl rfl rfl ?_
    refine gf_C_29_2 13 K dX4_goesFree_10 rfl ?_
    refine g_iload_n 14 2 K dX4_goesFree_13 rfl rfl rfl ?_
    refine al_C_32 15 K hf dX4_goesFree_14 rfl (fun x2 hf => ?_)
    refine g_iconst 16 (-1) K dX4_goesFree_15 rfl (by decide) ?_
    refine g_icmp_eq 40 19 K hf dX4_goesFree_16 (by decide) rfl (fun hf => ?_) (fun hf => ?_)
    · refine g_iconst 41 0 K dX4_goesFree_40 rfl (by decide) ?_
      exact g_zret K hr hlk hf dX4_goesFree_41
    · refine g_iload_n 20 3 K dX4_goesFree_19 rfl rfl rfl ?_
      refine g_aload_n 21 0 K dX4_goesFree_20 rfl rfl rfl ?_
      refine gf_C_29_2 24 K dX4_goesFree_21 rfl ?_
      refine g_iload_n 25 2 K dX4_goesFree_24 rfl rfl rfl ?_
      refine al_C_32 26 K hf dX4_goesFree_25 rfl (fun x3 hf => ?_)
      refine g_isub 27 K dX4_goesFree_26 rfl ?_
      refine g_aload_n 28 0 K dX4_goesFree_27 rfl rfl rfl ?_
      refine gf_C_29_1 31 K dX4_goesFree_28 rfl ?_
      refine g_iload_n 32 1 K dX4_goesFree_31 rfl rfl rfl ?_
      refine al_C_31 33 K hf dX4_goesFree_32 rfl (fun x4 hf => ?_)
      refine g_icmp_gt 40 36 K hf dX4_goesFree_33 (by decide) rfl (fun hf => ?_) (fun hf => ?_)
      · refine g_iconst 41 0 K dX4_goesFree_40 rfl (by decide) ?_
        exact g_zret K hr hlk hf dX4_goesFree_41
      · refine g_iconst 37 1 K dX4_goesFree_36 rfl (by decide) ?_
        refine g_goto 41 K dX4_goesFree_37 (by decide) ?_
        exact g_zret K hr hlk hf dX4_goesFree_41
def f_X4_charge (N n : Nat) (S : St) (a1 : Int32) (a2 : Int32) (a3 : Int32) : Option (Int32 × St) :=
  lett (pF S 2903 a3) fun S1 =>
  bd2 (f_X4_goesFree N n S1 a1 ((a2 * 6) + a1) a3) fun r3 S2 =>
  if r3 = 0 then
    (rd (S2.2 30) 6 a1).bind fun x5 =>
    if x5 ≤ 0 then
      (rd (S2.2 30) 6 a1).bind fun x6 =>
      some (x6, S2)
    else
      (wr S2 32 120 ((a2 * 6) + a1) a3).bind fun S7 =>
      (rd (S7.2 30) 6 a1).bind fun x8 =>
      lett (pF S7 2904 ((S7.1 2904) + x8)) fun S9 =>
      (rd (S9.2 30) 6 a1).bind fun x10 =>
      some (x10, S9)
  else
    (wr S2 32 120 ((a2 * 6) + a1) (-1)).bind fun S11 =>
    lett (pF S11 2905 ((S11.1 2905) + 1)) fun S12 =>
    some (0, S12)
set_option maxRecDepth 20000 in
set_option maxHeartbeats 4000000 in
theorem c_X4_charge {l : Launch} {D : va_G} {q : Nat → Nat} {n : Nat} {cI cB cZ : ClassId} {adK adV : Nat → Nat} {N : Nat} {S Sz : St} {rz : Int32} {a1 : Int32} {a2 : Int32} {a3 : Int32} (hf : f_X4_charge N n S a1 a2 a3 = some (rz, Sz)) : Cn l yX4_charge cX4_charge 5 (some .int) 1 23 D (tyL cI cB cZ) (Fx adK adV) (wC q n cI cB cZ) [.ref (q 29), .int a1, .int a2, .int a3] S (some (.int rz)) Sz := by
  refine c_of (by decide) fl_wC (Nat.le_of_ble_eq_true rfl) [(0, .ref (q 29)), (1, .int a1), (2, .int a2), (3, .int a3)] rfl ?_
  intro p e s m args below meth c K hr hlk hs
  have K : Ok p s m args c cX4_charge 5 RX4 D (tyL cI cB cZ) (Aw (wC q n cI cB cZ) s.heap.size) (wC q n cI cB cZ) := K
  unfold f_X4_charge at hf
  refine g_aload_n 1 0 K dX4_charge_0 rfl rfl rfl ?_
  refine g_iload_n 2 3 K dX4_charge_1 rfl rfl rfl ?_
  refine pf_C_29_3 5 K hf dX4_charge_2 rfl (fun S1 hf => ?_)
  refine g_iload_n 6 2 K dX4_charge_5 rfl rfl rfl ?_
  refine g_bipush 8 6 K dX4_charge_6 rfl (by decide) ?_
  refine g_imul 9 K dX4_charge_8 rfl ?_
  refine g_iload_n 10 1 K dX4_charge_9 rfl rfl rfl ?_
  refine g_iadd 11 K dX4_charge_10 rfl ?_
  refine g_istore (lv' := [(4, .int ((a2 * 6) + a1)), (0, .ref (q 29)), (1, .int a1), (2, .int a2), (3, .int a3)]) 13 4 K dX4_charge_11 rfl (by decide) rfl ?_
  refine g_aload_n 14 1 K dX4_charge_13 rfl rfl rfl ?_
  refine g_iload_n 15 2 K dX4_charge_14 rfl rfl rfl ?_
  refine g_iload 17 0 K dX4_charge_15 rfl rfl ?_
  refine g_iload_n 18 4 K dX4_charge_17 rfl rfl rfl ?_
  obtain ⟨r3, S2, hc4, hf⟩ := bd2_some hf
  refine g_callVi 21 29 [] K (Fx_ok adK adV) hs (c_X4_goesFree hc4) km_X4_46 kI_X4_goesFree kS_X4_goesFree ki_X4 kC_X4_goesFree mw_X4_goesFree ⟨by decide, by decide, by decide, by decide⟩ rfl rfl rfl rfl (Nat.le_of_ble_eq_true rfl) dX4_charge_18 rfl ?_
  refine g_if_eq 44 24 K hf dX4_charge_21 (by decide) rfl (fun hf => ?_) (fun hf => ?_)
  · refine g_aload_n 45 1 K dX4_charge_44 rfl rfl rfl ?_
    refine gf_C_29_0 48 K dX4_charge_45 rfl ?_
    refine g_iload_n 49 2 K dX4_charge_48 rfl rfl rfl ?_
    refine al_C_30 50 K hf dX4_charge_49 rfl (fun x5 hf => ?_)
    refine g_if_le 76 53 K hf dX4_charge_50 (by decide) rfl (fun hf => ?_) (fun hf => ?_)
    · refine g_aload_n 77 1 K dX4_charge_76 rfl rfl rfl ?_
      refine gf_C_29_0 80 K dX4_charge_77 rfl ?_
      refine g_iload_n 81 2 K dX4_charge_80 rfl rfl rfl ?_
      refine al_C_30 82 K hf dX4_charge_81 rfl (fun x6 hf => ?_)
      exact g_iret K hr hlk hf dX4_charge_82
    · refine g_aload_n 54 1 K dX4_charge_53 rfl rfl rfl ?_
      refine gf_C_29_2 57 K dX4_charge_54 rfl ?_
      refine g_iload 59 0 K dX4_charge_57 rfl rfl ?_
      refine g_iload_n 60 4 K dX4_charge_59 rfl rfl rfl ?_
      refine as_C_32 61 K hf dX4_charge_60 rfl (fun S7 hf => ?_)
      refine g_aload_n 62 1 K dX4_charge_61 rfl rfl rfl ?_
      refine g_dup 63 K dX4_charge_62 rfl rfl ?_
      refine gf_C_29_4 66 K dX4_charge_63 rfl ?_
      refine g_aload_n 67 1 K dX4_charge_66 rfl rfl rfl ?_
      refine gf_C_29_0 70 K dX4_charge_67 rfl ?_
      refine g_iload_n 71 2 K dX4_charge_70 rfl rfl rfl ?_
      refine al_C_30 72 K hf dX4_charge_71 rfl (fun x8 hf => ?_)
      refine g_iadd 73 K dX4_charge_72 rfl ?_
      refine pf_C_29_4 76 K hf dX4_charge_73 rfl (fun S9 hf => ?_)
      refine g_aload_n 77 1 K dX4_charge_76 rfl rfl rfl ?_
      refine gf_C_29_0 80 K dX4_charge_77 rfl ?_
      refine g_iload_n 81 2 K dX4_charge_80 rfl rfl rfl ?_
      refine al_C_30 82 K hf dX4_charge_81 rfl (fun x10 hf => ?_)
      exact g_iret K hr hlk hf dX4_charge_82
  · refine g_aload_n 25 1 K dX4_charge_24 rfl rfl rfl ?_
    refine gf_C_29_2 28 K dX4_charge_25 rfl ?_
    refine g_iload 30 0 K dX4_charge_28 rfl rfl ?_
    refine g_iconst 31 (-1) K dX4_charge_30 rfl (by decide) ?_
    refine as_C_32 32 K hf dX4_charge_31 rfl (fun S11 hf => ?_)
    refine g_aload_n 33 1 K dX4_charge_32 rfl rfl rfl ?_
    refine g_dup 34 K dX4_charge_33 rfl rfl ?_
    refine gf_C_29_5 37 K dX4_charge_34 rfl ?_
    refine g_iconst 38 1 K dX4_charge_37 rfl (by decide) ?_
    refine g_iadd 39 K dX4_charge_38 rfl ?_
    refine pf_C_29_5 42 K hf dX4_charge_39 rfl (fun S12 hf => ?_)
    refine g_iconst 43 0 K dX4_charge_42 rfl (by decide) ?_
    exact g_iret K hr hlk hf dX4_charge_43
def f_X5_clauseCount (N n : Nat) (S : St)  : Option (Int32 × St) :=
  some (S.1 2602, S)
set_option maxRecDepth 20000 in
set_option maxHeartbeats 4000000 in
theorem c_X5_clauseCount {l : Launch} {D : va_G} {q : Nat → Nat} {n : Nat} {cI cB cZ : ClassId} {adK adV : Nat → Nat} {N : Nat} {S Sz : St} {rz : Int32}  (hf : f_X5_clauseCount N n S  = some (rz, Sz)) : Cn l yX5_clauseCount cX5_clauseCount 1 (some .int) 0 0 D (tyL cI cB cZ) (Fx adK adV) (wC q n cI cB cZ) [.ref (q 26)] S (some (.int rz)) Sz := by
  refine c_of (by decide) fl_wC (Nat.le_of_ble_eq_true rfl) [(0, .ref (q 26))] rfl ?_
  intro p e s m args below meth c K hr hlk hs
  have K : Ok p s m args c cX5_clauseCount 1 RX5 D (tyL cI cB cZ) (Aw (wC q n cI cB cZ) s.heap.size) (wC q n cI cB cZ) := K
  unfold f_X5_clauseCount at hf
  refine g_aload_n 1 0 K dX5_clauseCount_0 rfl rfl rfl ?_
  refine gf_C_26_2 4 K dX5_clauseCount_1 rfl ?_
  exact g_iret K hr hlk hf dX5_clauseCount_4
def f_X5_faultNumber (N n : Nat) (S : St)  : Option (Int32 × St) :=
  some (S.1 2603, S)
set_option maxRecDepth 20000 in
set_option maxHeartbeats 4000000 in
theorem c_X5_faultNumber {l : Launch} {D : va_G} {q : Nat → Nat} {n : Nat} {cI cB cZ : ClassId} {adK adV : Nat → Nat} {N : Nat} {S Sz : St} {rz : Int32}  (hf : f_X5_faultNumber N n S  = some (rz, Sz)) : Cn l yX5_faultNumber cX5_faultNumber 1 (some .int) 0 0 D (tyL cI cB cZ) (Fx adK adV) (wC q n cI cB cZ) [.ref (q 26)] S (some (.int rz)) Sz := by
  refine c_of (by decide) fl_wC (Nat.le_of_ble_eq_true rfl) [(0, .ref (q 26))] rfl ?_
  intro p e s m args below meth c K hr hlk hs
  have K : Ok p s m args c cX5_faultNumber 1 RX5 D (tyL cI cB cZ) (Aw (wC q n cI cB cZ) s.heap.size) (wC q n cI cB cZ) := K
  unfold f_X5_faultNumber at hf
  refine g_aload_n 1 0 K dX5_faultNumber_0 rfl rfl rfl ?_
  refine gf_C_26_3 4 K dX5_faultNumber_1 rfl ?_
  exact g_iret K hr hlk hf dX5_faultNumber_4
def f_X5_faultAt (N n : Nat) (S : St)  : Option (Int32 × St) :=
  some (S.1 2604, S)
set_option maxRecDepth 20000 in
set_option maxHeartbeats 4000000 in
theorem c_X5_faultAt {l : Launch} {D : va_G} {q : Nat → Nat} {n : Nat} {cI cB cZ : ClassId} {adK adV : Nat → Nat} {N : Nat} {S Sz : St} {rz : Int32}  (hf : f_X5_faultAt N n S  = some (rz, Sz)) : Cn l yX5_faultAt cX5_faultAt 1 (some .int) 0 0 D (tyL cI cB cZ) (Fx adK adV) (wC q n cI cB cZ) [.ref (q 26)] S (some (.int rz)) Sz := by
  refine c_of (by decide) fl_wC (Nat.le_of_ble_eq_true rfl) [(0, .ref (q 26))] rfl ?_
  intro p e s m args below meth c K hr hlk hs
  have K : Ok p s m args c cX5_faultAt 1 RX5 D (tyL cI cB cZ) (Aw (wC q n cI cB cZ) s.heap.size) (wC q n cI cB cZ) := K
  unfold f_X5_faultAt at hf
  refine g_aload_n 1 0 K dX5_faultAt_0 rfl rfl rfl ?_
  refine gf_C_26_4 4 K dX5_faultAt_1 rfl ?_
  exact g_iret K hr hlk hf dX5_faultAt_4
def f_X5_readToll (N n : Nat) (S : St) (a1 : Int32) : Option (Int32 × St) :=
  (rd (S.2 27) 6 a1).bind fun x1 =>
  some ((if (0 : Int32) < x1 then x1 else 0), S)
set_option maxRecDepth 20000 in
set_option maxHeartbeats 4000000 in
theorem c_X5_readToll {l : Launch} {D : va_G} {q : Nat → Nat} {n : Nat} {cI cB cZ : ClassId} {adK adV : Nat → Nat} {N : Nat} {S Sz : St} {rz : Int32} {a1 : Int32} (hf : f_X5_readToll N n S a1 = some (rz, Sz)) : Cn l yX5_readToll cX5_readToll 2 (some .int) 1 13 D (tyL cI cB cZ) (Fx adK adV) (wC q n cI cB cZ) [.ref (q 26), .int a1] S (some (.int rz)) Sz := by
  refine c_of (by decide) fl_wC (Nat.le_of_ble_eq_true rfl) [(0, .ref (q 26)), (1, .int a1)] rfl ?_
  intro p e s m args below meth c K hr hlk hs
  have K : Ok p s m args c cX5_readToll 2 RX5 D (tyL cI cB cZ) (Aw (wC q n cI cB cZ) s.heap.size) (wC q n cI cB cZ) := K
  unfold f_X5_readToll at hf
  refine g_iconst 1 0 K dX5_readToll_0 rfl (by decide) ?_
  refine g_aload_n 2 0 K dX5_readToll_1 rfl rfl rfl ?_
  refine gf_C_26_0 5 K dX5_readToll_2 rfl ?_
  refine g_iload_n 6 1 K dX5_readToll_5 rfl rfl rfl ?_
  refine al_C_27 7 K hf dX5_readToll_6 rfl (fun x1 hf => ?_)
  refine g_mmax 10 K km_X5_28 kt_J9_max_7cf53 ki_J9 kC_J9_max_7cf53 ⟨by decide, Nat.le_of_ble_eq_true rfl, by decide, by decide⟩ dX5_readToll_7 rfl ?_
  exact g_iret K hr hlk hf dX5_readToll_10
def f_X5_readAgain (N n : Nat) (S : St) (a1 : Int32) : Option (Int32 × St) :=
  (rd (S.2 28) 6 a1).bind fun x1 =>
  some ((if (0 : Int32) < x1 then x1 else 0), S)
set_option maxRecDepth 20000 in
set_option maxHeartbeats 4000000 in
theorem c_X5_readAgain {l : Launch} {D : va_G} {q : Nat → Nat} {n : Nat} {cI cB cZ : ClassId} {adK adV : Nat → Nat} {N : Nat} {S Sz : St} {rz : Int32} {a1 : Int32} (hf : f_X5_readAgain N n S a1 = some (rz, Sz)) : Cn l yX5_readAgain cX5_readAgain 2 (some .int) 1 13 D (tyL cI cB cZ) (Fx adK adV) (wC q n cI cB cZ) [.ref (q 26), .int a1] S (some (.int rz)) Sz := by
  refine c_of (by decide) fl_wC (Nat.le_of_ble_eq_true rfl) [(0, .ref (q 26)), (1, .int a1)] rfl ?_
  intro p e s m args below meth c K hr hlk hs
  have K : Ok p s m args c cX5_readAgain 2 RX5 D (tyL cI cB cZ) (Aw (wC q n cI cB cZ) s.heap.size) (wC q n cI cB cZ) := K
  unfold f_X5_readAgain at hf
  refine g_iconst 1 0 K dX5_readAgain_0 rfl (by decide) ?_
  refine g_aload_n 2 0 K dX5_readAgain_1 rfl rfl rfl ?_
  refine gf_C_26_1 5 K dX5_readAgain_2 rfl ?_
  refine g_iload_n 6 1 K dX5_readAgain_5 rfl rfl rfl ?_
  refine al_C_28 7 K hf dX5_readAgain_6 rfl (fun x1 hf => ?_)
  refine g_mmax 10 K km_X5_28 kt_J9_max_7cf53 ki_J9 kC_J9_max_7cf53 ⟨by decide, Nat.le_of_ble_eq_true rfl, by decide, by decide⟩ dX5_readAgain_7 rfl ?_
  exact g_iret K hr hlk hf dX5_readAgain_10
def f_J7_fill_53178_27 (N n : Nat) (S : St) (a2 : Int32) : Option St :=
  loop1 (fun (k1 : St → Int32 → Option St) (S2 : St) (x3 : Int32) =>
    if (nI 6) ≤ x3 then
      some S2
    else
      (wr S2 27 6 x3 a2).bind fun S5 =>
      k1 S5 (x3 + 1)) N S 0
set_option maxRecDepth 20000 in
set_option maxHeartbeats 4000000 in
theorem c_J7_fill_53178_27 {l : Launch} {D : va_G} {q : Nat → Nat} {n : Nat} {cI cB cZ : ClassId} {adK adV : Nat → Nat} {N : Nat} {S Sz : St} {a2 : Int32} (hf : f_J7_fill_53178_27 N n S a2 = some Sz) : Cn l yJ7_fill_53178 cJ7_fill_53178 4 none 0 0 D (tyL cI cB cZ) (Fx adK adV) (wC q n cI cB cZ) [.ref (q 27), .int a2] S none Sz := by
  refine c_of (by decide) fl_wC (Nat.le_of_ble_eq_true rfl) [(0, .ref (q 27)), (1, .int a2)] rfl ?_
  intro p e s m args below meth c K hr hlk hs
  have K : Ok p s m args c cJ7_fill_53178 4 RJ7 D (tyL cI cB cZ) (Aw (wC q n cI cB cZ) s.heap.size) (wC q n cI cB cZ) := K
  unfold f_J7_fill_53178_27 at hf
  refine g_iconst 1 0 K dJ7_fill_53178_0 rfl (by decide) ?_
  refine g_istore_n (lv' := [(2, .int 0), (0, .ref (q 27)), (1, .int a2)]) 2 2 K dJ7_fill_53178_1 rfl rfl (by decide) rfl ?_
  refine g_aload_n 3 1 K dJ7_fill_53178_2 rfl rfl rfl ?_
  refine an_C_27 4 K dJ7_fill_53178_3 rfl ?_
  refine g_istore_n (lv' := [(3, .int (nI 6)), (2, .int 0), (0, .ref (q 27)), (1, .int a2)]) 5 3 K dJ7_fill_53178_4 rfl rfl (by decide) rfl ?_
  refine g_sub [2, 3, 1, 0] rfl ?_
  refine g_loop1 (fun (x3 : Int32) => [(0, .ref (q 27)), (1, .int a2), (2, .int x3), (3, .int (nI 6))]) hf ?_
  intro k1 S2 x3 hk4 hf
  refine g_iload_n 6 2 K dJ7_fill_53178_5 rfl rfl rfl ?_
  refine g_iload_n 7 3 K dJ7_fill_53178_6 rfl rfl rfl ?_
  refine g_icmp_ge 20 10 K hf dJ7_fill_53178_7 (by decide) rfl (fun hf => ?_) (fun hf => ?_)
  · exact g_vret K hr hlk hf dJ7_fill_53178_20
  · refine g_aload_n 11 0 K dJ7_fill_53178_10 rfl rfl rfl ?_
    refine g_iload_n 12 2 K dJ7_fill_53178_11 rfl rfl rfl ?_
    refine g_iload_n 13 1 K dJ7_fill_53178_12 rfl rfl rfl ?_
    refine as_C_27 14 K hf dJ7_fill_53178_13 rfl (fun S5 hf => ?_)
    refine g_iinc (lv' := [(2, .int (x3 + 1)), (0, .ref (q 27)), (1, .int a2), (3, .int (nI 6))]) 17 2 1 K dJ7_fill_53178_14 rfl rfl (by decide) (by decide) rfl ?_
    refine g_goto 5 K dJ7_fill_53178_17 (by decide) ?_
    exact g_sub [1, 2, 0, 3] rfl (hk4 _ _ hf)
def f_J7_fill_53178_28 (N n : Nat) (S : St) (a2 : Int32) : Option St :=
  loop1 (fun (k1 : St → Int32 → Option St) (S2 : St) (x3 : Int32) =>
    if (nI 6) ≤ x3 then
      some S2
    else
      (wr S2 28 6 x3 a2).bind fun S5 =>
      k1 S5 (x3 + 1)) N S 0
set_option maxRecDepth 20000 in
set_option maxHeartbeats 4000000 in
theorem c_J7_fill_53178_28 {l : Launch} {D : va_G} {q : Nat → Nat} {n : Nat} {cI cB cZ : ClassId} {adK adV : Nat → Nat} {N : Nat} {S Sz : St} {a2 : Int32} (hf : f_J7_fill_53178_28 N n S a2 = some Sz) : Cn l yJ7_fill_53178 cJ7_fill_53178 4 none 0 0 D (tyL cI cB cZ) (Fx adK adV) (wC q n cI cB cZ) [.ref (q 28), .int a2] S none Sz := by
  refine c_of (by decide) fl_wC (Nat.le_of_ble_eq_true rfl) [(0, .ref (q 28)), (1, .int a2)] rfl ?_
  intro p e s m args below meth c K hr hlk hs
  have K : Ok p s m args c cJ7_fill_53178 4 RJ7 D (tyL cI cB cZ) (Aw (wC q n cI cB cZ) s.heap.size) (wC q n cI cB cZ) := K
  unfold f_J7_fill_53178_28 at hf
  refine g_iconst 1 0 K dJ7_fill_53178_0 rfl (by decide) ?_
  refine g_istore_n (lv' := [(2, .int 0), (0, .ref (q 28)), (1, .int a2)]) 2 2 K dJ7_fill_53178_1 rfl rfl (by decide) rfl ?_
  refine g_aload_n 3 1 K dJ7_fill_53178_2 rfl rfl rfl ?_
  refine an_C_28 4 K dJ7_fill_53178_3 rfl ?_
  refine g_istore_n (lv' := [(3, .int (nI 6)), (2, .int 0), (0, .ref (q 28)), (1, .int a2)]) 5 3 K dJ7_fill_53178_4 rfl rfl (by decide) rfl ?_
  refine g_sub [2, 3, 1, 0] rfl ?_
  refine g_loop1 (fun (x3 : Int32) => [(0, .ref (q 28)), (1, .int a2), (2, .int x3), (3, .int (nI 6))]) hf ?_
  intro k1 S2 x3 hk4 hf
  refine g_iload_n 6 2 K dJ7_fill_53178_5 rfl rfl rfl ?_
  refine g_iload_n 7 3 K dJ7_fill_53178_6 rfl rfl rfl ?_
  refine g_icmp_ge 20 10 K hf dJ7_fill_53178_7 (by decide) rfl (fun hf => ?_) (fun hf => ?_)
  · exact g_vret K hr hlk hf dJ7_fill_53178_20
  · refine g_aload_n 11 0 K dJ7_fill_53178_10 rfl rfl rfl ?_
    refine g_iload_n 12 2 K dJ7_fill_53178_11 rfl rfl rfl ?_
    refine g_iload_n 13 1 K dJ7_fill_53178_12 rfl rfl rfl ?_
    refine as_C_28 14 K hf dJ7_fill_53178_13 rfl (fun S5 hf => ?_)
    refine g_iinc (lv' := [(2, .int (x3 + 1)), (0, .ref (q 28)), (1, .int a2), (3, .int (nI 6))]) 17 2 1 K dJ7_fill_53178_14 rfl rfl (by decide) (by decide) rfl ?_
    refine g_goto 5 K dJ7_fill_53178_17 (by decide) ?_
    exact g_sub [1, 2, 0, 3] rfl (hk4 _ _ hf)
def f_X5_begin (N n : Nat) (S : St)  : Option St :=
  (f_J7_fill_53178_27 N n S (-1)).bind fun S1 =>
  (f_J7_fill_53178_28 N n S1 (-1)).bind fun S4 =>
  lett (pF S4 2602 0) fun S7 =>
  lett (pF S7 2603 0) fun S8 =>
  lett (pF S8 2604 (-1)) fun S9 =>
  lett (pF S9 2605 0) fun S10 =>
  lett (pF S10 2609 0) fun S11 =>
  some S11
set_option maxRecDepth 20000 in
set_option maxHeartbeats 4000000 in
theorem c_X5_begin {l : Launch} {D : va_G} {q : Nat → Nat} {n : Nat} {cI cB cZ : ClassId} {adK adV : Nat → Nat} {N : Nat} {S Sz : St}  (hf : f_X5_begin N n S  = some Sz) : Cn l yX5_begin cX5_begin 1 none 1 23 D (tyL cI cB cZ) (Fx adK adV) (wC q n cI cB cZ) [.ref (q 26)] S none Sz := by
  refine c_of (by decide) fl_wC (Nat.le_of_ble_eq_true rfl) [(0, .ref (q 26))] rfl ?_
  intro p e s m args below meth c K hr hlk hs
  have K : Ok p s m args c cX5_begin 1 RX5 D (tyL cI cB cZ) (Aw (wC q n cI cB cZ) s.heap.size) (wC q n cI cB cZ) := K
  unfold f_X5_begin at hf
  refine g_aload_n 1 0 K dX5_begin_0 rfl rfl rfl ?_
  refine gf_C_26_0 4 K dX5_begin_1 rfl ?_
  refine g_iconst 5 (-1) K dX5_begin_4 rfl (by decide) ?_
  obtain ⟨S1, hc3, hf⟩ := bd_some hf
  refine g_callSv 8 [] K (Fx_ok adK adV) hs (c_J7_fill_53178_27 hc3) km_X5_59 kt_J7_fill_53178 ki_J7 kC_J7_fill_53178 mw_J7_fill_53178 ⟨by decide, by decide, by decide, by decide⟩ rfl rfl (Nat.le_of_ble_eq_true rfl) dX5_begin_5 rfl ?_
  refine g_aload_n 9 0 K dX5_begin_8 rfl rfl rfl ?_
  refine gf_C_26_1 12 K dX5_begin_9 rfl ?_
  refine g_iconst 13 (-1) K dX5_begin_12 rfl (by decide) ?_
  obtain ⟨S4, hc6, hf⟩ := bd_some hf
  refine g_callSv 16 [] K (Fx_ok adK adV) hs (c_J7_fill_53178_28 hc6) km_X5_59 kt_J7_fill_53178 ki_J7 kC_J7_fill_53178 mw_J7_fill_53178 ⟨by decide, by decide, by decide, by decide⟩ rfl rfl (Nat.le_of_ble_eq_true rfl) dX5_begin_13 rfl ?_
  refine g_aload_n 17 0 K dX5_begin_16 rfl rfl rfl ?_
  refine g_iconst 18 0 K dX5_begin_17 rfl (by decide) ?_
  refine pf_C_26_2 21 K hf dX5_begin_18 rfl (fun S7 hf => ?_)
  refine g_aload_n 22 0 K dX5_begin_21 rfl rfl rfl ?_
  refine g_iconst 23 0 K dX5_begin_22 rfl (by decide) ?_
  refine pf_C_26_3 26 K hf dX5_begin_23 rfl (fun S8 hf => ?_)
  refine g_aload_n 27 0 K dX5_begin_26 rfl rfl rfl ?_
  refine g_iconst 28 (-1) K dX5_begin_27 rfl (by decide) ?_
  refine pf_C_26_4 31 K hf dX5_begin_28 rfl (fun S9 hf => ?_)
  refine g_aload_n 32 0 K dX5_begin_31 rfl rfl rfl ?_
  refine g_iconst 33 0 K dX5_begin_32 rfl (by decide) ?_
  refine pf_C_26_5 36 K hf dX5_begin_33 rfl (fun S10 hf => ?_)
  refine g_aload_n 37 0 K dX5_begin_36 rfl rfl rfl ?_
  refine g_iconst 38 0 K dX5_begin_37 rfl (by decide) ?_
  refine pf_C_26_9 41 K hf dX5_begin_38 rfl (fun S11 hf => ?_)
  exact g_vret K hr hlk hf dX5_begin_41
def f_X5_takeClauseWord (N n : Nat) (S : St)  : Option (Int32 × St) :=
  lett (fun (S2 : St) =>
    lett (pF S2 2610 (S2.1 2606)) fun S4 =>
    lett (pF S4 2609 1) fun S5 =>
    some (0, S5)) fun j1 =>
  if (S.1 2606) = 1 then
    j1 S 
  else
    if (S.1 2606) = 2 then
      j1 S 
    else
      some (1, S)
set_option maxRecDepth 20000 in
set_option maxHeartbeats 4000000 in
theorem c_X5_takeClauseWord {l : Launch} {D : va_G} {q : Nat → Nat} {n : Nat} {cI cB cZ : ClassId} {adK adV : Nat → Nat} {N : Nat} {S Sz : St} {rz : Int32}  (hf : f_X5_takeClauseWord N n S  = some (rz, Sz)) : Cn l yX5_takeClauseWord cX5_takeClauseWord 1 (some .int) 0 0 D (tyL cI cB cZ) (Fx adK adV) (wC q n cI cB cZ) [.ref (q 26)] S (some (.int rz)) Sz := by
  refine c_of (by decide) fl_wC (Nat.le_of_ble_eq_true rfl) [(0, .ref (q 26))] rfl ?_
  intro p e s m args below meth c K hr hlk hs
  have K : Ok p s m args c cX5_takeClauseWord 1 RX5 D (tyL cI cB cZ) (Aw (wC q n cI cB cZ) s.heap.size) (wC q n cI cB cZ) := K
  unfold f_X5_takeClauseWord at hf
  refine g_aload_n 1 0 K dX5_takeClauseWord_0 rfl rfl rfl ?_
  refine gf_C_26_6 4 K dX5_takeClauseWord_1 rfl ?_
  refine g_iconst 5 1 K dX5_takeClauseWord_4 rfl (by decide) ?_
  refine g_join0 18 [(0, .ref (q 26))] [] hf (fun S2  hf => ?_) (fun j1 hj3 hf => ?_)
  · refine g_aload_n 19 0 K dX5_takeClauseWord_18 rfl rfl rfl ?_
    refine g_aload_n 20 0 K dX5_takeClauseWord_19 rfl rfl rfl ?_
    refine gf_C_26_6 23 K dX5_takeClauseWord_20 rfl ?_
    refine pf_C_26_10 26 K hf dX5_takeClauseWord_23 rfl (fun S4 hf => ?_)
    refine g_aload_n 27 0 K dX5_takeClauseWord_26 rfl rfl rfl ?_
    refine g_iconst 28 1 K dX5_takeClauseWord_27 rfl (by decide) ?_
    refine pf_C_26_9 31 K hf dX5_takeClauseWord_28 rfl (fun S5 hf => ?_)
    refine g_iconst 32 0 K dX5_takeClauseWord_31 rfl (by decide) ?_
    exact g_iret K hr hlk hf dX5_takeClauseWord_32
  · refine g_icmp_eq 18 8 K hf dX5_takeClauseWord_5 (by decide) rfl (fun hf => ?_) (fun hf => ?_)
    · exact g_sub [0] rfl (hj3 _ hf)
    · refine g_aload_n 9 0 K dX5_takeClauseWord_8 rfl rfl rfl ?_
      refine gf_C_26_6 12 K dX5_takeClauseWord_9 rfl ?_
      refine g_iconst 13 2 K dX5_takeClauseWord_12 rfl (by decide) ?_
      refine g_icmp_eq 18 16 K hf dX5_takeClauseWord_13 (by decide) rfl (fun hf => ?_) (fun hf => ?_)
      · exact g_sub [0] rfl (hj3 _ hf)
      · refine g_iconst 17 1 K dX5_takeClauseWord_16 rfl (by decide) ?_
        exact g_iret K hr hlk hf dX5_takeClauseWord_17
def f_X5_takeKind (N n : Nat) (S : St)  : Option (Int32 × St) :=
  if (S.1 2606) = 3 then
    bd2 (f_X6_within N n S (S.1 2608) 0 5) fun r2 S1 =>
    if r2 = 0 then
      some (3, S1)
    else
      if S1.1 2610 = 2 then
        (rd (S1.2 28) 6 (S1.1 2608)).bind fun x4 =>
        if x4 = (-1) then
          lett (pF S1 2611 (S1.1 2608)) fun S5 =>
          lett (pF S5 2609 2) fun S6 =>
          some (0, S6)
        else
          some (2, S1)
      else
        (rd (S1.2 27) 6 (S1.1 2608)).bind fun x7 =>
        if x7 = (-1) then
          lett (pF S1 2611 (S1.1 2608)) fun S8 =>
          lett (pF S8 2609 2) fun S9 =>
          some (0, S9)
        else
          some (2, S1)
  else
    some (1, S)
set_option maxRecDepth 20000 in
set_option maxHeartbeats 4000000 in
theorem c_X5_takeKind {l : Launch} {D : va_G} {q : Nat → Nat} {n : Nat} {cI cB cZ : ClassId} {adK adV : Nat → Nat} {N : Nat} {S Sz : St} {rz : Int32}  (hf : f_X5_takeKind N n S  = some (rz, Sz)) : Cn l yX5_takeKind cX5_takeKind 1 (some .int) 1 22 D (tyL cI cB cZ) (Fx adK adV) (wC q n cI cB cZ) [.ref (q 26)] S (some (.int rz)) Sz := by
  refine c_of (by decide) fl_wC (Nat.le_of_ble_eq_true rfl) [(0, .ref (q 26))] rfl ?_
  intro p e s m args below meth c K hr hlk hs
  have K : Ok p s m args c cX5_takeKind 1 RX5 D (tyL cI cB cZ) (Aw (wC q n cI cB cZ) s.heap.size) (wC q n cI cB cZ) := K
  unfold f_X5_takeKind at hf
  refine g_aload_n 1 0 K dX5_takeKind_0 rfl rfl rfl ?_
  refine gf_C_26_6 4 K dX5_takeKind_1 rfl ?_
  refine g_iconst 5 3 K dX5_takeKind_4 rfl (by decide) ?_
  refine g_icmp_eq 10 8 K hf dX5_takeKind_5 (by decide) rfl (fun hf => ?_) (fun hf => ?_)
  · refine g_aload_n 11 0 K dX5_takeKind_10 rfl rfl rfl ?_
    refine gf_C_26_8 14 K dX5_takeKind_11 rfl ?_
    refine g_iconst 15 0 K dX5_takeKind_14 rfl (by decide) ?_
    refine g_iconst 16 5 K dX5_takeKind_15 rfl (by decide) ?_
    obtain ⟨r2, S1, hc3, hf⟩ := bd2_some hf
    refine g_callSNi 19 [] K (Fx_ok adK adV) hs (c_X6_within hc3) hs.1.2.2.2.1 kt_X6_within ki_X6 kC_X6_within mw_X6_within ⟨by decide, by decide, by decide, by decide⟩ rfl rfl (Nat.le_of_ble_eq_true rfl) dX5_takeKind_16 rfl ?_
    refine g_if_ne 24 22 K hf dX5_takeKind_19 (by decide) rfl (fun hf => ?_) (fun hf => ?_)
    · refine g_iconst 23 3 K dX5_takeKind_22 rfl (by decide) ?_
      exact g_iret K hr hlk hf dX5_takeKind_23
    · refine g_aload_n 25 0 K dX5_takeKind_24 rfl rfl rfl ?_
      refine g_callRow 28 [] K hs hf km_X5_127 ⟨by decide, by decide, by decide, by decide⟩ (Nat.le_of_ble_eq_true rfl) dX5_takeKind_25 rfl (fun hf => ?_) (fun hf => ?_)
      · refine g_aload_n 29 0 K dX5_takeKind_28 rfl rfl rfl ?_
        refine gf_C_26_8 32 K dX5_takeKind_29 rfl ?_
        refine al_C_28 33 K hf dX5_takeKind_32 rfl (fun x4 hf => ?_)
        refine g_iconst 34 (-1) K dX5_takeKind_33 rfl (by decide) ?_
        refine g_icmp_eq 39 37 K hf dX5_takeKind_34 (by decide) rfl (fun hf => ?_) (fun hf => ?_)
        · refine g_aload_n 40 0 K dX5_takeKind_39 rfl rfl rfl ?_
          refine g_aload_n 41 0 K dX5_takeKind_40 rfl rfl rfl ?_
          refine gf_C_26_8 44 K dX5_takeKind_41 rfl ?_
          refine pf_C_26_11 47 K hf dX5_takeKind_44 rfl (fun S5 hf => ?_)
          refine g_aload_n 48 0 K dX5_takeKind_47 rfl rfl rfl ?_
          refine g_iconst 49 2 K dX5_takeKind_48 rfl (by decide) ?_
          refine pf_C_26_9 52 K hf dX5_takeKind_49 rfl (fun S6 hf => ?_)
          refine g_iconst 53 0 K dX5_takeKind_52 rfl (by decide) ?_
          exact g_iret K hr hlk hf dX5_takeKind_53
        · refine g_iconst 38 2 K dX5_takeKind_37 rfl (by decide) ?_
          exact g_iret K hr hlk hf dX5_takeKind_38
      · refine g_aload_n 29 0 K dX5_takeKind_28 rfl rfl rfl ?_
        refine gf_C_26_8 32 K dX5_takeKind_29 rfl ?_
        refine al_C_27 33 K hf dX5_takeKind_32 rfl (fun x7 hf => ?_)
        refine g_iconst 34 (-1) K dX5_takeKind_33 rfl (by decide) ?_
        refine g_icmp_eq 39 37 K hf dX5_takeKind_34 (by decide) rfl (fun hf => ?_) (fun hf => ?_)
        · refine g_aload_n 40 0 K dX5_takeKind_39 rfl rfl rfl ?_
          refine g_aload_n 41 0 K dX5_takeKind_40 rfl rfl rfl ?_
          refine gf_C_26_8 44 K dX5_takeKind_41 rfl ?_
          refine pf_C_26_11 47 K hf dX5_takeKind_44 rfl (fun S8 hf => ?_)
          refine g_aload_n 48 0 K dX5_takeKind_47 rfl rfl rfl ?_
          refine g_iconst 49 2 K dX5_takeKind_48 rfl (by decide) ?_
          refine pf_C_26_9 52 K hf dX5_takeKind_49 rfl (fun S9 hf => ?_)
          refine g_iconst 53 0 K dX5_takeKind_52 rfl (by decide) ?_
          exact g_iret K hr hlk hf dX5_takeKind_53
        · refine g_iconst 38 2 K dX5_takeKind_37 rfl (by decide) ?_
          exact g_iret K hr hlk hf dX5_takeKind_38
  · refine g_iconst 9 1 K dX5_takeKind_8 rfl (by decide) ?_
    exact g_iret K hr hlk hf dX5_takeKind_9
def f_X5_takeAmount (N n : Nat) (S : St)  : Option (Int32 × St) :=
  if (S.1 2606) = 3 then
    lett (fun (S2 : St) (x3 : Int32) =>
      bd2 (f_X6_within N n S2 (S2.1 2608) x3 999) fun r6 S5 =>
      if r6 = 0 then
        some (3, S5)
      else
        if S5.1 2610 = 2 then
          (wr S5 28 6 (S5.1 2611) (S5.1 2608)).bind fun S8 =>
          lett (pF S8 2609 3) fun S9 =>
          some (0, S9)
        else
          (wr S5 27 6 (S5.1 2611) (S5.1 2608)).bind fun S10 =>
          lett (pF S10 2609 3) fun S11 =>
          some (0, S11)) fun j1 =>
    if (S.1 2610) = 2 then
      j1 S 1
    else
      j1 S 0
  else
    some (1, S)
set_option maxRecDepth 20000 in
set_option maxHeartbeats 4000000 in
theorem c_X5_takeAmount {l : Launch} {D : va_G} {q : Nat → Nat} {n : Nat} {cI cB cZ : ClassId} {adK adV : Nat → Nat} {N : Nat} {S Sz : St} {rz : Int32}  (hf : f_X5_takeAmount N n S  = some (rz, Sz)) : Cn l yX5_takeAmount cX5_takeAmount 2 (some .int) 1 22 D (tyL cI cB cZ) (Fx adK adV) (wC q n cI cB cZ) [.ref (q 26)] S (some (.int rz)) Sz := by
  refine c_of (by decide) fl_wC (Nat.le_of_ble_eq_true rfl) [(0, .ref (q 26))] rfl ?_
  intro p e s m args below meth c K hr hlk hs
  have K : Ok p s m args c cX5_takeAmount 2 RX5 D (tyL cI cB cZ) (Aw (wC q n cI cB cZ) s.heap.size) (wC q n cI cB cZ) := K
  unfold f_X5_takeAmount at hf
  refine g_aload_n 1 0 K dX5_takeAmount_0 rfl rfl rfl ?_
  refine gf_C_26_6 4 K dX5_takeAmount_1 rfl ?_
  refine g_iconst 5 3 K dX5_takeAmount_4 rfl (by decide) ?_
  refine g_icmp_eq 10 8 K hf dX5_takeAmount_5 (by decide) rfl (fun hf => ?_) (fun hf => ?_)
  · refine g_aload_n 11 0 K dX5_takeAmount_10 rfl rfl rfl ?_
    refine gf_C_26_10 14 K dX5_takeAmount_11 rfl ?_
    refine g_iconst 15 2 K dX5_takeAmount_14 rfl (by decide) ?_
    refine g_join1 23 (fun (x3 : Int32) => [(0, .ref (q 26))]) (fun (x3 : Int32) => [.int x3]) hf (fun S2 x3 hf => ?_) (fun j1 hj4 hf => ?_)
    · refine g_istore_n (lv' := [(1, .int x3), (0, .ref (q 26))]) 24 1 K dX5_takeAmount_23 rfl rfl (by decide) rfl ?_
      refine g_aload_n 25 1 K dX5_takeAmount_24 rfl rfl rfl ?_
      refine gf_C_26_8 28 K dX5_takeAmount_25 rfl ?_
      refine g_iload_n 29 0 K dX5_takeAmount_28 rfl rfl rfl ?_
      refine g_sipush 32 999 K dX5_takeAmount_29 rfl (by decide) ?_
      obtain ⟨r6, S5, hc7, hf⟩ := bd2_some hf
      refine g_callSNi 35 [] K (Fx_ok adK adV) hs (c_X6_within hc7) hs.1.2.2.2.1 kt_X6_within ki_X6 kC_X6_within mw_X6_within ⟨by decide, by decide, by decide, by decide⟩ rfl rfl (Nat.le_of_ble_eq_true rfl) dX5_takeAmount_32 rfl ?_
      refine g_if_ne 40 38 K hf dX5_takeAmount_35 (by decide) rfl (fun hf => ?_) (fun hf => ?_)
      · refine g_iconst 39 3 K dX5_takeAmount_38 rfl (by decide) ?_
        exact g_iret K hr hlk hf dX5_takeAmount_39
      · refine g_aload_n 41 1 K dX5_takeAmount_40 rfl rfl rfl ?_
        refine g_callRow 44 [] K hs hf km_X5_127 ⟨by decide, by decide, by decide, by decide⟩ (Nat.le_of_ble_eq_true rfl) dX5_takeAmount_41 rfl (fun hf => ?_) (fun hf => ?_)
        · refine g_aload_n 45 1 K dX5_takeAmount_44 rfl rfl rfl ?_
          refine gf_C_26_11 48 K dX5_takeAmount_45 rfl ?_
          refine g_aload_n 49 1 K dX5_takeAmount_48 rfl rfl rfl ?_
          refine gf_C_26_8 52 K dX5_takeAmount_49 rfl ?_
          refine as_C_28 53 K hf dX5_takeAmount_52 rfl (fun S8 hf => ?_)
          refine g_aload_n 54 1 K dX5_takeAmount_53 rfl rfl rfl ?_
          refine g_iconst 55 3 K dX5_takeAmount_54 rfl (by decide) ?_
          refine pf_C_26_9 58 K hf dX5_takeAmount_55 rfl (fun S9 hf => ?_)
          refine g_iconst 59 0 K dX5_takeAmount_58 rfl (by decide) ?_
          exact g_iret K hr hlk hf dX5_takeAmount_59
        · refine g_aload_n 45 1 K dX5_takeAmount_44 rfl rfl rfl ?_
          refine gf_C_26_11 48 K dX5_takeAmount_45 rfl ?_
          refine g_aload_n 49 1 K dX5_takeAmount_48 rfl rfl rfl ?_
          refine gf_C_26_8 52 K dX5_takeAmount_49 rfl ?_
          refine as_C_27 53 K hf dX5_takeAmount_52 rfl (fun S10 hf => ?_)
          refine g_aload_n 54 1 K dX5_takeAmount_53 rfl rfl rfl ?_
          refine g_iconst 55 3 K dX5_takeAmount_54 rfl (by decide) ?_
          refine pf_C_26_9 58 K hf dX5_takeAmount_55 rfl (fun S11 hf => ?_)
          refine g_iconst 59 0 K dX5_takeAmount_58 rfl (by decide) ?_
          exact g_iret K hr hlk hf dX5_takeAmount_59
    · refine g_icmp_ne 22 18 K hf dX5_takeAmount_15 (by decide) rfl (fun hf => ?_) (fun hf => ?_)
      · refine g_iconst 19 1 K dX5_takeAmount_18 rfl (by decide) ?_
        refine g_goto 23 K dX5_takeAmount_19 (by decide) ?_
        exact g_sub [0] rfl (hj4 _ _ hf)
      · refine g_iconst 23 0 K dX5_takeAmount_22 rfl (by decide) ?_
        exact g_sub [0] rfl (hj4 _ _ hf)
  · refine g_iconst 9 1 K dX5_takeAmount_8 rfl (by decide) ?_
    exact g_iret K hr hlk hf dX5_takeAmount_9
def f_X5_takeSemicolon (N n : Nat) (S : St)  : Option (Int32 × St) :=
  if (S.1 2606) = 4 then
    lett (pF S 2602 ((S.1 2602) + 1)) fun S1 =>
    lett (pF S1 2609 0) fun S2 =>
    some (0, S2)
  else
    some (1, S)
set_option maxRecDepth 20000 in
set_option maxHeartbeats 4000000 in
theorem c_X5_takeSemicolon {l : Launch} {D : va_G} {q : Nat → Nat} {n : Nat} {cI cB cZ : ClassId} {adK adV : Nat → Nat} {N : Nat} {S Sz : St} {rz : Int32}  (hf : f_X5_takeSemicolon N n S  = some (rz, Sz)) : Cn l yX5_takeSemicolon cX5_takeSemicolon 1 (some .int) 0 0 D (tyL cI cB cZ) (Fx adK adV) (wC q n cI cB cZ) [.ref (q 26)] S (some (.int rz)) Sz := by
  refine c_of (by decide) fl_wC (Nat.le_of_ble_eq_true rfl) [(0, .ref (q 26))] rfl ?_
  intro p e s m args below meth c K hr hlk hs
  have K : Ok p s m args c cX5_takeSemicolon 1 RX5 D (tyL cI cB cZ) (Aw (wC q n cI cB cZ) s.heap.size) (wC q n cI cB cZ) := K
  unfold f_X5_takeSemicolon at hf
  refine g_aload_n 1 0 K dX5_takeSemicolon_0 rfl rfl rfl ?_
  refine gf_C_26_6 4 K dX5_takeSemicolon_1 rfl ?_
  refine g_iconst 5 4 K dX5_takeSemicolon_4 rfl (by decide) ?_
  refine g_icmp_eq 10 8 K hf dX5_takeSemicolon_5 (by decide) rfl (fun hf => ?_) (fun hf => ?_)
  · refine g_aload_n 11 0 K dX5_takeSemicolon_10 rfl rfl rfl ?_
    refine g_dup 12 K dX5_takeSemicolon_11 rfl rfl ?_
    refine gf_C_26_2 15 K dX5_takeSemicolon_12 rfl ?_
    refine g_iconst 16 1 K dX5_takeSemicolon_15 rfl (by decide) ?_
    refine g_iadd 17 K dX5_takeSemicolon_16 rfl ?_
    refine pf_C_26_2 20 K hf dX5_takeSemicolon_17 rfl (fun S1 hf => ?_)
    refine g_aload_n 21 0 K dX5_takeSemicolon_20 rfl rfl rfl ?_
    refine g_iconst 22 0 K dX5_takeSemicolon_21 rfl (by decide) ?_
    refine pf_C_26_9 25 K hf dX5_takeSemicolon_22 rfl (fun S2 hf => ?_)
    refine g_iconst 26 0 K dX5_takeSemicolon_25 rfl (by decide) ?_
    exact g_iret K hr hlk hf dX5_takeSemicolon_26
  · refine g_iconst 9 1 K dX5_takeSemicolon_8 rfl (by decide) ?_
    exact g_iret K hr hlk hf dX5_takeSemicolon_9
def f_X5_takeToken (N n : Nat) (S : St)  : Option (Int32 × St) :=
  if (S.1 2609) = 0 then
    bd2 (f_X5_takeClauseWord N n S ) fun r2 S1 =>
    some (r2, S1)
  else
  if (S.1 2609) = 1 then
    bd2 (f_X5_takeKind N n S ) fun r5 S4 =>
    some (r5, S4)
  else
  if (S.1 2609) = 2 then
    bd2 (f_X5_takeAmount N n S ) fun r8 S7 =>
    some (r8, S7)
  else
  bd2 (f_X5_takeSemicolon N n S ) fun r11 S10 =>
  some (r11, S10)
set_option maxRecDepth 20000 in
set_option maxHeartbeats 4000000 in
theorem c_X5_takeToken {l : Launch} {D : va_G} {q : Nat → Nat} {n : Nat} {cI cB cZ : ClassId} {adK adV : Nat → Nat} {N : Nat} {S Sz : St} {rz : Int32}  (hf : f_X5_takeToken N n S  = some (rz, Sz)) : Cn l yX5_takeToken cX5_takeToken 1 (some .int) 2 43 D (tyL cI cB cZ) (Fx adK adV) (wC q n cI cB cZ) [.ref (q 26)] S (some (.int rz)) Sz := by
  refine c_of (by decide) fl_wC (Nat.le_of_ble_eq_true rfl) [(0, .ref (q 26))] rfl ?_
  intro p e s m args below meth c K hr hlk hs
  have K : Ok p s m args c cX5_takeToken 1 RX5 D (tyL cI cB cZ) (Aw (wC q n cI cB cZ) s.heap.size) (wC q n cI cB cZ) := K
  unfold f_X5_takeToken at hf
  refine g_aload_n 1 0 K dX5_takeToken_0 rfl rfl rfl ?_
  refine gf_C_26_9 4 K dX5_takeToken_1 rfl ?_
  refine g_ite hf (fun hsw0 hf => ?_) (fun hsw0 hf => ?_)
  · refine g_tabIn 32 0 K hsw0 dX5_takeToken_4 (by decide) (by decide) rfl (by decide) ?_
    refine g_aload_n 33 0 K dX5_takeToken_32 rfl rfl rfl ?_
    obtain ⟨r2, S1, hc3, hf⟩ := bd2_some hf
    refine g_callVi 36 26 [] K (Fx_ok adK adV) hs (c_X5_takeClauseWord hc3) km_X5_108 kI_X5_takeClauseWord kS_X5_takeClauseWord ki_X5 kC_X5_takeClauseWord mw_X5_takeClauseWord ⟨by decide, by decide, by decide, by decide⟩ rfl rfl rfl rfl (Nat.le_of_ble_eq_true rfl) dX5_takeToken_33 rfl ?_
    exact g_iret K hr hlk hf dX5_takeToken_36
  refine g_ite hf (fun hsw1 hf => ?_) (fun hsw1 hf => ?_)
  · refine g_tabIn 37 1 K hsw1 dX5_takeToken_4 (by decide) (by decide) rfl (by decide) ?_
    refine g_aload_n 38 0 K dX5_takeToken_37 rfl rfl rfl ?_
    obtain ⟨r5, S4, hc6, hf⟩ := bd2_some hf
    refine g_callVi 41 26 [] K (Fx_ok adK adV) hs (c_X5_takeKind hc6) km_X5_111 kI_X5_takeKind kS_X5_takeKind ki_X5 kC_X5_takeKind mw_X5_takeKind ⟨by decide, by decide, by decide, by decide⟩ rfl rfl rfl rfl (Nat.le_of_ble_eq_true rfl) dX5_takeToken_38 rfl ?_
    exact g_iret K hr hlk hf dX5_takeToken_41
  refine g_ite hf (fun hsw2 hf => ?_) (fun hsw2 hf => ?_)
  · refine g_tabIn 42 2 K hsw2 dX5_takeToken_4 (by decide) (by decide) rfl (by decide) ?_
    refine g_aload_n 43 0 K dX5_takeToken_42 rfl rfl rfl ?_
    obtain ⟨r8, S7, hc9, hf⟩ := bd2_some hf
    refine g_callVi 46 26 [] K (Fx_ok adK adV) hs (c_X5_takeAmount hc9) km_X5_114 kI_X5_takeAmount kS_X5_takeAmount ki_X5 kC_X5_takeAmount mw_X5_takeAmount ⟨by decide, by decide, by decide, by decide⟩ rfl rfl rfl rfl (Nat.le_of_ble_eq_true rfl) dX5_takeToken_43 rfl ?_
    exact g_iret K hr hlk hf dX5_takeToken_46
  refine g_tabOut 47 K (sw_out2 hsw0 hsw1 hsw2) dX5_takeToken_4 (by decide) ?_
  refine g_aload_n 48 0 K dX5_takeToken_47 rfl rfl rfl ?_
  obtain ⟨r11, S10, hc12, hf⟩ := bd2_some hf
  refine g_callVi 51 26 [] K (Fx_ok adK adV) hs (c_X5_takeSemicolon hc12) km_X5_117 kI_X5_takeSemicolon kS_X5_takeSemicolon ki_X5 kC_X5_takeSemicolon mw_X5_takeSemicolon ⟨by decide, by decide, by decide, by decide⟩ rfl rfl rfl rfl (Nat.le_of_ble_eq_true rfl) dX5_takeToken_48 rfl ?_
  exact g_iret K hr hlk hf dX5_takeToken_51
def f_X5_isDigit (N n : Nat) (S : St) (a1 : Int32) : Option (Int32 × St) :=
  bd2 (f_X6_within N n S a1 48 57) fun r2 S1 =>
  zr r2 S1
set_option maxRecDepth 20000 in
set_option maxHeartbeats 4000000 in
theorem c_X5_isDigit {l : Launch} {D : va_G} {q : Nat → Nat} {n : Nat} {cI cB cZ : ClassId} {adK adV : Nat → Nat} {N : Nat} {S Sz : St} {rz : Int32} {a1 : Int32} (hf : f_X5_isDigit N n S a1 = some (rz, Sz)) : Cn l yX5_isDigit cX5_isDigit 1 (some .boolean) 1 22 D (tyL cI cB cZ) (Fx adK adV) (wC q n cI cB cZ) [.int a1] S (some (.int rz)) Sz := by
  refine c_of (by decide) fl_wC (Nat.le_of_ble_eq_true rfl) [(0, .int a1)] rfl ?_
  intro p e s m args below meth c K hr hlk hs
  have K : Ok p s m args c cX5_isDigit 1 RX5 D (tyL cI cB cZ) (Aw (wC q n cI cB cZ) s.heap.size) (wC q n cI cB cZ) := K
  unfold f_X5_isDigit at hf
  refine g_iload_n 1 0 K dX5_isDigit_0 rfl rfl rfl ?_
  refine g_bipush 3 48 K dX5_isDigit_1 rfl (by decide) ?_
  refine g_bipush 5 57 K dX5_isDigit_3 rfl (by decide) ?_
  obtain ⟨r2, S1, hc3, hf⟩ := bd2_some hf
  refine g_callSNi 8 [] K (Fx_ok adK adV) hs (c_X6_within hc3) hs.1.2.2.2.1 kt_X6_within ki_X6 kC_X6_within mw_X6_within ⟨by decide, by decide, by decide, by decide⟩ rfl rfl (Nat.le_of_ble_eq_true rfl) dX5_isDigit_5 rfl ?_
  exact g_zret K hr hlk hf dX5_isDigit_8
def f_X5_isLetter (N n : Nat) (S : St) (a1 : Int32) : Option (Int32 × St) :=
  bd2 (f_X6_within N n S a1 97 122) fun r2 S1 =>
  if r2 = 0 then
    bd2 (f_X6_within N n S1 a1 65 90) fun r5 S4 =>
    if r5 = 0 then
      zr 0 S4
    else
      zr 1 S4
  else
    zr 1 S1
set_option maxRecDepth 20000 in
set_option maxHeartbeats 4000000 in
theorem c_X5_isLetter {l : Launch} {D : va_G} {q : Nat → Nat} {n : Nat} {cI cB cZ : ClassId} {adK adV : Nat → Nat} {N : Nat} {S Sz : St} {rz : Int32} {a1 : Int32} (hf : f_X5_isLetter N n S a1 = some (rz, Sz)) : Cn l yX5_isLetter cX5_isLetter 1 (some .boolean) 1 22 D (tyL cI cB cZ) (Fx adK adV) (wC q n cI cB cZ) [.int a1] S (some (.int rz)) Sz := by
  refine c_of (by decide) fl_wC (Nat.le_of_ble_eq_true rfl) [(0, .int a1)] rfl ?_
  intro p e s m args below meth c K hr hlk hs
  have K : Ok p s m args c cX5_isLetter 1 RX5 D (tyL cI cB cZ) (Aw (wC q n cI cB cZ) s.heap.size) (wC q n cI cB cZ) := K
  unfold f_X5_isLetter at hf
  refine g_iload_n 1 0 K dX5_isLetter_0 rfl rfl rfl ?_
  refine g_bipush 3 97 K dX5_isLetter_1 rfl (by decide) ?_
  refine g_bipush 5 122 K dX5_isLetter_3 rfl (by decide) ?_
  obtain ⟨r2, S1, hc3, hf⟩ := bd2_some hf
  refine g_callSNi 8 [] K (Fx_ok adK adV) hs (c_X6_within hc3) hs.1.2.2.2.1 kt_X6_within ki_X6 kC_X6_within mw_X6_within ⟨by decide, by decide, by decide, by decide⟩ rfl rfl (Nat.le_of_ble_eq_true rfl) dX5_isLetter_5 rfl ?_
  refine g_if_ne 22 11 K hf dX5_isLetter_8 (by decide) rfl (fun hf => ?_) (fun hf => ?_)
  · refine g_iload_n 12 0 K dX5_isLetter_11 rfl rfl rfl ?_
    refine g_bipush 14 65 K dX5_isLetter_12 rfl (by decide) ?_
    refine g_bipush 16 90 K dX5_isLetter_14 rfl (by decide) ?_
    obtain ⟨r5, S4, hc6, hf⟩ := bd2_some hf
    refine g_callSNi 19 [] K (Fx_ok adK adV) hs (c_X6_within hc6) hs.1.2.2.2.1 kt_X6_within ki_X6 kC_X6_within mw_X6_within ⟨by decide, by decide, by decide, by decide⟩ rfl rfl (Nat.le_of_ble_eq_true rfl) dX5_isLetter_16 rfl ?_
    refine g_if_eq 26 22 K hf dX5_isLetter_19 (by decide) rfl (fun hf => ?_) (fun hf => ?_)
    · refine g_iconst 27 0 K dX5_isLetter_26 rfl (by decide) ?_
      exact g_zret K hr hlk hf dX5_isLetter_27
    · refine g_iconst 23 1 K dX5_isLetter_22 rfl (by decide) ?_
      refine g_goto 27 K dX5_isLetter_23 (by decide) ?_
      exact g_zret K hr hlk hf dX5_isLetter_27
  · refine g_iconst 23 1 K dX5_isLetter_22 rfl (by decide) ?_
    refine g_goto 27 K dX5_isLetter_23 (by decide) ?_
    exact g_zret K hr hlk hf dX5_isLetter_27
def f_X6_hull (N n : Nat) (S : St) (a1 : Int32) (a2 : Int32) (a3 : Int32) : Option (Int32 × St) :=
  bd2 (f_X0_hasHull N n S a1) fun r2 S1 =>
  if r2 = 0 then
    zr 0 S1
  else
    bd2 (f_X6_within N n S1 a2 1 1000) fun r5 S4 =>
    if r5 = 0 then
      zr 0 S4
    else
      bd2 (f_X6_within N n S4 a3 0 1000) fun r8 S7 =>
      if r8 = 0 then
        zr 0 S7
      else
        (f_X0_setHull N n S7 a1 a2 a3).bind fun S10 =>
        zr 1 S10
set_option maxRecDepth 20000 in
set_option maxHeartbeats 4000000 in
theorem c_X6_hull {l : Launch} {D : va_G} {q : Nat → Nat} {n : Nat} {cI cB cZ : ClassId} {adK adV : Nat → Nat} {N : Nat} {S Sz : St} {rz : Int32} {a1 : Int32} {a2 : Int32} {a3 : Int32} (hf : f_X6_hull N n S a1 a2 a3 = some (rz, Sz)) : Cn l yX6_hull cX6_hull 4 (some .boolean) 2 43 D (tyL cI cB cZ) (Fx adK adV) (wC q n cI cB cZ) [.ref (q 0), .int a1, .int a2, .int a3] S (some (.int rz)) Sz := by
  refine c_of (by decide) fl_wC (Nat.le_of_ble_eq_true rfl) [(0, .ref (q 0)), (1, .int a1), (2, .int a2), (3, .int a3)] rfl ?_
  intro p e s m args below meth c K hr hlk hs
  have K : Ok p s m args c cX6_hull 4 RX6 D (tyL cI cB cZ) (Aw (wC q n cI cB cZ) s.heap.size) (wC q n cI cB cZ) := K
  unfold f_X6_hull at hf
  refine g_aload_n 1 0 K dX6_hull_0 rfl rfl rfl ?_
  refine gf_C_0_0 4 K dX6_hull_1 rfl ?_
  refine g_iload_n 5 1 K dX6_hull_4 rfl rfl rfl ?_
  obtain ⟨r2, S1, hc3, hf⟩ := bd2_some hf
  refine g_callVi 8 1 [] K (Fx_ok adK adV) hs (c_X0_hasHull hc3) km_X6_62 kI_X0_hasHull kS_X0_hasHull ki_X0 kC_X0_hasHull mw_X0_hasHull ⟨by decide, by decide, by decide, by decide⟩ rfl rfl rfl rfl (Nat.le_of_ble_eq_true rfl) dX6_hull_5 rfl ?_
  refine g_if_eq 33 11 K hf dX6_hull_8 (by decide) rfl (fun hf => ?_) (fun hf => ?_)
  · refine g_iconst 34 0 K dX6_hull_33 rfl (by decide) ?_
    exact g_zret K hr hlk hf dX6_hull_34
  · refine g_iload_n 12 2 K dX6_hull_11 rfl rfl rfl ?_
    refine g_iconst 13 1 K dX6_hull_12 rfl (by decide) ?_
    refine g_sipush 16 1000 K dX6_hull_13 rfl (by decide) ?_
    obtain ⟨r5, S4, hc6, hf⟩ := bd2_some hf
    refine g_callSi 19 [] K (Fx_ok adK adV) hs (c_X6_within hc6) km_X6_66 kt_X6_within ki_X6 kC_X6_within mw_X6_within ⟨by decide, by decide, by decide, by decide⟩ rfl rfl (Nat.le_of_ble_eq_true rfl) dX6_hull_16 rfl ?_
    refine g_if_eq 33 22 K hf dX6_hull_19 (by decide) rfl (fun hf => ?_) (fun hf => ?_)
    · refine g_iconst 34 0 K dX6_hull_33 rfl (by decide) ?_
      exact g_zret K hr hlk hf dX6_hull_34
    · refine g_iload_n 23 3 K dX6_hull_22 rfl rfl rfl ?_
      refine g_iconst 24 0 K dX6_hull_23 rfl (by decide) ?_
      refine g_sipush 27 1000 K dX6_hull_24 rfl (by decide) ?_
      obtain ⟨r8, S7, hc9, hf⟩ := bd2_some hf
      refine g_callSi 30 [] K (Fx_ok adK adV) hs (c_X6_within hc9) km_X6_66 kt_X6_within ki_X6 kC_X6_within mw_X6_within ⟨by decide, by decide, by decide, by decide⟩ rfl rfl (Nat.le_of_ble_eq_true rfl) dX6_hull_27 rfl ?_
      refine g_if_ne 35 33 K hf dX6_hull_30 (by decide) rfl (fun hf => ?_) (fun hf => ?_)
      · refine g_iconst 34 0 K dX6_hull_33 rfl (by decide) ?_
        exact g_zret K hr hlk hf dX6_hull_34
      · refine g_aload_n 36 0 K dX6_hull_35 rfl rfl rfl ?_
        refine gf_C_0_0 39 K dX6_hull_36 rfl ?_
        refine g_iload_n 40 1 K dX6_hull_39 rfl rfl rfl ?_
        refine g_iload_n 41 2 K dX6_hull_40 rfl rfl rfl ?_
        refine g_iload_n 42 3 K dX6_hull_41 rfl rfl rfl ?_
        obtain ⟨S10, hc12, hf⟩ := bd_some hf
        refine g_callVv 45 1 [] K (Fx_ok adK adV) hs (c_X0_setHull hc12) km_X6_70 kI_X0_setHull kS_X0_setHull ki_X0 kC_X0_setHull mw_X0_setHull ⟨by decide, by decide, by decide, by decide⟩ rfl rfl rfl rfl (Nat.le_of_ble_eq_true rfl) dX6_hull_42 rfl ?_
        refine g_iconst 46 1 K dX6_hull_45 rfl (by decide) ?_
        exact g_zret K hr hlk hf dX6_hull_46
def f_X6_pull (N n : Nat) (S : St) (a1 : Int32) (a2 : Int32) : Option (Int32 × St) :=
  bd2 (f_X6_within N n S a1 0 9) fun r2 S1 =>
  if r2 = 0 then
    zr 0 S1
  else
    bd2 (f_X6_within N n S1 a2 0 1000) fun r5 S4 =>
    if r5 = 0 then
      zr 0 S4
    else
      (f_X0_setPull N n S4 a1 a2).bind fun S7 =>
      zr 1 S7
set_option maxRecDepth 20000 in
set_option maxHeartbeats 4000000 in
theorem c_X6_pull {l : Launch} {D : va_G} {q : Nat → Nat} {n : Nat} {cI cB cZ : ClassId} {adK adV : Nat → Nat} {N : Nat} {S Sz : St} {rz : Int32} {a1 : Int32} {a2 : Int32} (hf : f_X6_pull N n S a1 a2 = some (rz, Sz)) : Cn l yX6_pull cX6_pull 3 (some .boolean) 1 22 D (tyL cI cB cZ) (Fx adK adV) (wC q n cI cB cZ) [.ref (q 0), .int a1, .int a2] S (some (.int rz)) Sz := by
  refine c_of (by decide) fl_wC (Nat.le_of_ble_eq_true rfl) [(0, .ref (q 0)), (1, .int a1), (2, .int a2)] rfl ?_
  intro p e s m args below meth c K hr hlk hs
  have K : Ok p s m args c cX6_pull 3 RX6 D (tyL cI cB cZ) (Aw (wC q n cI cB cZ) s.heap.size) (wC q n cI cB cZ) := K
  unfold f_X6_pull at hf
  refine g_iload_n 1 1 K dX6_pull_0 rfl rfl rfl ?_
  refine g_iconst 2 0 K dX6_pull_1 rfl (by decide) ?_
  refine g_bipush 4 9 K dX6_pull_2 rfl (by decide) ?_
  obtain ⟨r2, S1, hc3, hf⟩ := bd2_some hf
  refine g_callSi 7 [] K (Fx_ok adK adV) hs (c_X6_within hc3) km_X6_66 kt_X6_within ki_X6 kC_X6_within mw_X6_within ⟨by decide, by decide, by decide, by decide⟩ rfl rfl (Nat.le_of_ble_eq_true rfl) dX6_pull_4 rfl ?_
  refine g_if_eq 21 10 K hf dX6_pull_7 (by decide) rfl (fun hf => ?_) (fun hf => ?_)
  · refine g_iconst 22 0 K dX6_pull_21 rfl (by decide) ?_
    exact g_zret K hr hlk hf dX6_pull_22
  · refine g_iload_n 11 2 K dX6_pull_10 rfl rfl rfl ?_
    refine g_iconst 12 0 K dX6_pull_11 rfl (by decide) ?_
    refine g_sipush 15 1000 K dX6_pull_12 rfl (by decide) ?_
    obtain ⟨r5, S4, hc6, hf⟩ := bd2_some hf
    refine g_callSi 18 [] K (Fx_ok adK adV) hs (c_X6_within hc6) km_X6_66 kt_X6_within ki_X6 kC_X6_within mw_X6_within ⟨by decide, by decide, by decide, by decide⟩ rfl rfl (Nat.le_of_ble_eq_true rfl) dX6_pull_15 rfl ?_
    refine g_if_ne 23 21 K hf dX6_pull_18 (by decide) rfl (fun hf => ?_) (fun hf => ?_)
    · refine g_iconst 22 0 K dX6_pull_21 rfl (by decide) ?_
      exact g_zret K hr hlk hf dX6_pull_22
    · refine g_aload_n 24 0 K dX6_pull_23 rfl rfl rfl ?_
      refine gf_C_0_0 27 K dX6_pull_24 rfl ?_
      refine g_iload_n 28 1 K dX6_pull_27 rfl rfl rfl ?_
      refine g_iload_n 29 2 K dX6_pull_28 rfl rfl rfl ?_
      obtain ⟨S7, hc9, hf⟩ := bd_some hf
      refine g_callVv 32 1 [] K (Fx_ok adK adV) hs (c_X0_setPull hc9) km_X6_74 kI_X0_setPull kS_X0_setPull ki_X0 kC_X0_setPull mw_X0_setPull ⟨by decide, by decide, by decide, by decide⟩ rfl rfl rfl rfl (Nat.le_of_ble_eq_true rfl) dX6_pull_29 rfl ?_
      refine g_iconst 33 1 K dX6_pull_32 rfl (by decide) ?_
      exact g_zret K hr hlk hf dX6_pull_33
def f_X6_drags (N n : Nat) (S : St) (a1 : Int32) : Option (Int32 × St) :=
  bd2 (f_X6_within N n S a1 0 9) fun r2 S1 =>
  if r2 = 0 then
    some ((-1), S1)
  else
    bd2 (f_X0_anchorsBelow N n S1 a1) fun r5 S4 =>
    some (r5, S4)
set_option maxRecDepth 20000 in
set_option maxHeartbeats 4000000 in
theorem c_X6_drags {l : Launch} {D : va_G} {q : Nat → Nat} {n : Nat} {cI cB cZ : ClassId} {adK adV : Nat → Nat} {N : Nat} {S Sz : St} {rz : Int32} {a1 : Int32} (hf : f_X6_drags N n S a1 = some (rz, Sz)) : Cn l yX6_drags cX6_drags 2 (some .int) 1 23 D (tyL cI cB cZ) (Fx adK adV) (wC q n cI cB cZ) [.ref (q 0), .int a1] S (some (.int rz)) Sz := by
  refine c_of (by decide) fl_wC (Nat.le_of_ble_eq_true rfl) [(0, .ref (q 0)), (1, .int a1)] rfl ?_
  intro p e s m args below meth c K hr hlk hs
  have K : Ok p s m args c cX6_drags 2 RX6 D (tyL cI cB cZ) (Aw (wC q n cI cB cZ) s.heap.size) (wC q n cI cB cZ) := K
  unfold f_X6_drags at hf
  refine g_iload_n 1 1 K dX6_drags_0 rfl rfl rfl ?_
  refine g_iconst 2 0 K dX6_drags_1 rfl (by decide) ?_
  refine g_bipush 4 9 K dX6_drags_2 rfl (by decide) ?_
  obtain ⟨r2, S1, hc3, hf⟩ := bd2_some hf
  refine g_callSi 7 [] K (Fx_ok adK adV) hs (c_X6_within hc3) km_X6_66 kt_X6_within ki_X6 kC_X6_within mw_X6_within ⟨by decide, by decide, by decide, by decide⟩ rfl rfl (Nat.le_of_ble_eq_true rfl) dX6_drags_4 rfl ?_
  refine g_if_eq 21 10 K hf dX6_drags_7 (by decide) rfl (fun hf => ?_) (fun hf => ?_)
  · refine g_iconst 22 (-1) K dX6_drags_21 rfl (by decide) ?_
    exact g_iret K hr hlk hf dX6_drags_22
  · refine g_aload_n 11 0 K dX6_drags_10 rfl rfl rfl ?_
    refine gf_C_0_0 14 K dX6_drags_11 rfl ?_
    refine g_iload_n 15 1 K dX6_drags_14 rfl rfl rfl ?_
    obtain ⟨r5, S4, hc6, hf⟩ := bd2_some hf
    refine g_callVi 18 1 [] K (Fx_ok adK adV) hs (c_X0_anchorsBelow hc6) km_X6_78 kI_X0_anchorsBelow kS_X0_anchorsBelow ki_X0 kC_X0_anchorsBelow mw_X0_anchorsBelow ⟨by decide, by decide, by decide, by decide⟩ rfl rfl rfl rfl (Nat.le_of_ble_eq_true rfl) dX6_drags_15 rfl ?_
    refine g_goto 22 K dX6_drags_18 (by decide) ?_
    exact g_iret K hr hlk hf dX6_drags_22
def f_X6_cart (N n : Nat) (S : St) (a1 : Int32) (a2 : Int32) : Option (Int32 × St) :=
  bd2 (f_X6_within N n S a1 1 400) fun r2 S1 =>
  if r2 = 0 then
    some ((-1), S1)
  else
    bd2 (f_X0_cartCount N n S1 ) fun r5 S4 =>
    if r5 < 6 then
      bd2 (f_X0_cartCount N n S4 ) fun r8 S7 =>
      lett (fun (S11 : St) =>
        bd2 (f_X0_addCart N n S11 a1 a2) fun r14 S13 =>
        some (r14, S13)) fun j10 =>
      if r8 ≤ 0 then
        j10 S7 
      else
        bd2 (f_X6_within N n S7 a2 1 12) fun r17 S16 =>
        if r17 = 0 then
          some ((-1), S16)
        else
          j10 S16 
    else
      some ((-1), S4)
set_option maxRecDepth 20000 in
set_option maxHeartbeats 4000000 in
theorem c_X6_cart {l : Launch} {D : va_G} {q : Nat → Nat} {n : Nat} {cI cB cZ : ClassId} {adK adV : Nat → Nat} {N : Nat} {S Sz : St} {rz : Int32} {a1 : Int32} {a2 : Int32} (hf : f_X6_cart N n S a1 a2 = some (rz, Sz)) : Cn l yX6_cart cX6_cart 3 (some .int) 1 22 D (tyL cI cB cZ) (Fx adK adV) (wC q n cI cB cZ) [.ref (q 0), .int a1, .int a2] S (some (.int rz)) Sz := by
  refine c_of (by decide) fl_wC (Nat.le_of_ble_eq_true rfl) [(0, .ref (q 0)), (1, .int a1), (2, .int a2)] rfl ?_
  intro p e s m args below meth c K hr hlk hs
  have K : Ok p s m args c cX6_cart 3 RX6 D (tyL cI cB cZ) (Aw (wC q n cI cB cZ) s.heap.size) (wC q n cI cB cZ) := K
  unfold f_X6_cart at hf
  refine g_iload_n 1 1 K dX6_cart_0 rfl rfl rfl ?_
  refine g_iconst 2 1 K dX6_cart_1 rfl (by decide) ?_
  refine g_sipush 5 400 K dX6_cart_2 rfl (by decide) ?_
  obtain ⟨r2, S1, hc3, hf⟩ := bd2_some hf
  refine g_callSi 8 [] K (Fx_ok adK adV) hs (c_X6_within hc3) km_X6_66 kt_X6_within ki_X6 kC_X6_within mw_X6_within ⟨by decide, by decide, by decide, by decide⟩ rfl rfl (Nat.le_of_ble_eq_true rfl) dX6_cart_5 rfl ?_
  refine g_if_eq 23 11 K hf dX6_cart_8 (by decide) rfl (fun hf => ?_) (fun hf => ?_)
  · refine g_iconst 24 (-1) K dX6_cart_23 rfl (by decide) ?_
    exact g_iret K hr hlk hf dX6_cart_24
  · refine g_aload_n 12 0 K dX6_cart_11 rfl rfl rfl ?_
    refine gf_C_0_0 15 K dX6_cart_12 rfl ?_
    obtain ⟨r5, S4, hc6, hf⟩ := bd2_some hf
    refine g_callVi 18 1 [] K (Fx_ok adK adV) hs (c_X0_cartCount hc6) km_X6_82 kI_X0_cartCount kS_X0_cartCount ki_X0 kC_X0_cartCount mw_X0_cartCount ⟨by decide, by decide, by decide, by decide⟩ rfl rfl rfl rfl (Nat.le_of_ble_eq_true rfl) dX6_cart_15 rfl ?_
    refine g_bipush 20 6 K dX6_cart_18 rfl (by decide) ?_
    refine g_icmp_lt 25 23 K hf dX6_cart_20 (by decide) rfl (fun hf => ?_) (fun hf => ?_)
    · refine g_aload_n 26 0 K dX6_cart_25 rfl rfl rfl ?_
      refine gf_C_0_0 29 K dX6_cart_26 rfl ?_
      obtain ⟨r8, S7, hc9, hf⟩ := bd2_some hf
      refine g_callVi 32 1 [] K (Fx_ok adK adV) hs (c_X0_cartCount hc9) km_X6_82 kI_X0_cartCount kS_X0_cartCount ki_X0 kC_X0_cartCount mw_X0_cartCount ⟨by decide, by decide, by decide, by decide⟩ rfl rfl rfl rfl (Nat.le_of_ble_eq_true rfl) dX6_cart_29 rfl ?_
      refine g_join0 47 [(0, .ref (q 0)), (1, .int a1), (2, .int a2)] [] hf (fun S11  hf => ?_) (fun j10 hj12 hf => ?_)
      · refine g_aload_n 48 0 K dX6_cart_47 rfl rfl rfl ?_
        refine gf_C_0_0 51 K dX6_cart_48 rfl ?_
        refine g_iload_n 52 1 K dX6_cart_51 rfl rfl rfl ?_
        refine g_iload_n 53 2 K dX6_cart_52 rfl rfl rfl ?_
        obtain ⟨r14, S13, hc15, hf⟩ := bd2_some hf
        refine g_callVi 56 1 [] K (Fx_ok adK adV) hs (c_X0_addCart hc15) km_X6_86 kI_X0_addCart kS_X0_addCart ki_X0 kC_X0_addCart mw_X0_addCart ⟨by decide, by decide, by decide, by decide⟩ rfl rfl rfl rfl (Nat.le_of_ble_eq_true rfl) dX6_cart_53 rfl ?_
        exact g_iret K hr hlk hf dX6_cart_56
      · refine g_if_le 47 35 K hf dX6_cart_32 (by decide) rfl (fun hf => ?_) (fun hf => ?_)
        · exact g_sub [0, 1, 2] rfl (hj12 _ hf)
        · refine g_iload_n 36 2 K dX6_cart_35 rfl rfl rfl ?_
          refine g_iconst 37 1 K dX6_cart_36 rfl (by decide) ?_
          refine g_bipush 39 12 K dX6_cart_37 rfl (by decide) ?_
          obtain ⟨r17, S16, hc18, hf⟩ := bd2_some hf
          refine g_callSi 42 [] K (Fx_ok adK adV) hs (c_X6_within hc18) km_X6_66 kt_X6_within ki_X6 kC_X6_within mw_X6_within ⟨by decide, by decide, by decide, by decide⟩ rfl rfl (Nat.le_of_ble_eq_true rfl) dX6_cart_39 rfl ?_
          refine g_if_ne 47 45 K hf dX6_cart_42 (by decide) rfl (fun hf => ?_) (fun hf => ?_)
          · refine g_iconst 46 (-1) K dX6_cart_45 rfl (by decide) ?_
            exact g_iret K hr hlk hf dX6_cart_46
          · exact g_sub [0, 1, 2] rfl (hj12 _ hf)
    · refine g_iconst 24 (-1) K dX6_cart_23 rfl (by decide) ?_
      exact g_iret K hr hlk hf dX6_cart_24
def f_X6_clear (N n : Nat) (S : St)  : Option (Int32 × St) :=
  bd2 (f_X0_dropCarts N n S ) fun r2 S1 =>
  some (r2, S1)
set_option maxRecDepth 20000 in
set_option maxHeartbeats 4000000 in
theorem c_X6_clear {l : Launch} {D : va_G} {q : Nat → Nat} {n : Nat} {cI cB cZ : ClassId} {adK adV : Nat → Nat} {N : Nat} {S Sz : St} {rz : Int32}  (hf : f_X6_clear N n S  = some (rz, Sz)) : Cn l yX6_clear cX6_clear 1 (some .int) 1 21 D (tyL cI cB cZ) (Fx adK adV) (wC q n cI cB cZ) [.ref (q 0)] S (some (.int rz)) Sz := by
  refine c_of (by decide) fl_wC (Nat.le_of_ble_eq_true rfl) [(0, .ref (q 0))] rfl ?_
  intro p e s m args below meth c K hr hlk hs
  have K : Ok p s m args c cX6_clear 1 RX6 D (tyL cI cB cZ) (Aw (wC q n cI cB cZ) s.heap.size) (wC q n cI cB cZ) := K
  unfold f_X6_clear at hf
  refine g_aload_n 1 0 K dX6_clear_0 rfl rfl rfl ?_
  refine gf_C_0_0 4 K dX6_clear_1 rfl ?_
  obtain ⟨r2, S1, hc3, hf⟩ := bd2_some hf
  refine g_callVi 7 1 [] K (Fx_ok adK adV) hs (c_X0_dropCarts hc3) km_X6_89 kI_X0_dropCarts kS_X0_dropCarts ki_X0 kC_X0_dropCarts mw_X0_dropCarts ⟨by decide, by decide, by decide, by decide⟩ rfl rfl rfl rfl (Nat.le_of_ble_eq_true rfl) dX6_clear_4 rfl ?_
  exact g_iret K hr hlk hf dX6_clear_7
def f_X6_pressed (N n : Nat) (S : St) (a1 : Int32) (a2 : Int32) : Option (Int32 × St) :=
  bd2 (f_X0_hasHull N n S a1) fun r2 S1 =>
  if r2 = 0 then
    some ((-1), S1)
  else
    bd2 (f_X6_within N n S1 a2 0 100) fun r5 S4 =>
    if r5 = 0 then
      some ((-1), S4)
    else
      bd2 (f_X0_loadOn N n S4 a1 a2) fun r8 S7 =>
      some (r8, S7)
set_option maxRecDepth 20000 in
set_option maxHeartbeats 4000000 in
theorem c_X6_pressed {l : Launch} {D : va_G} {q : Nat → Nat} {n : Nat} {cI cB cZ : ClassId} {adK adV : Nat → Nat} {N : Nat} {S Sz : St} {rz : Int32} {a1 : Int32} {a2 : Int32} (hf : f_X6_pressed N n S a1 a2 = some (rz, Sz)) : Cn l yX6_pressed cX6_pressed 3 (some .int) 5 111 D (tyL cI cB cZ) (Fx adK adV) (wC q n cI cB cZ) [.ref (q 0), .int a1, .int a2] S (some (.int rz)) Sz := by
  refine c_of (by decide) fl_wC (Nat.le_of_ble_eq_true rfl) [(0, .ref (q 0)), (1, .int a1), (2, .int a2)] rfl ?_
  intro p e s m args below meth c K hr hlk hs
  have K : Ok p s m args c cX6_pressed 3 RX6 D (tyL cI cB cZ) (Aw (wC q n cI cB cZ) s.heap.size) (wC q n cI cB cZ) := K
  unfold f_X6_pressed at hf
  refine g_aload_n 1 0 K dX6_pressed_0 rfl rfl rfl ?_
  refine gf_C_0_0 4 K dX6_pressed_1 rfl ?_
  refine g_iload_n 5 1 K dX6_pressed_4 rfl rfl rfl ?_
  obtain ⟨r2, S1, hc3, hf⟩ := bd2_some hf
  refine g_callVi 8 1 [] K (Fx_ok adK adV) hs (c_X0_hasHull hc3) km_X6_62 kI_X0_hasHull kS_X0_hasHull ki_X0 kC_X0_hasHull mw_X0_hasHull ⟨by decide, by decide, by decide, by decide⟩ rfl rfl rfl rfl (Nat.le_of_ble_eq_true rfl) dX6_pressed_5 rfl ?_
  refine g_if_eq 33 11 K hf dX6_pressed_8 (by decide) rfl (fun hf => ?_) (fun hf => ?_)
  · refine g_iconst 34 (-1) K dX6_pressed_33 rfl (by decide) ?_
    exact g_iret K hr hlk hf dX6_pressed_34
  · refine g_iload_n 12 2 K dX6_pressed_11 rfl rfl rfl ?_
    refine g_iconst 13 0 K dX6_pressed_12 rfl (by decide) ?_
    refine g_bipush 15 100 K dX6_pressed_13 rfl (by decide) ?_
    obtain ⟨r5, S4, hc6, hf⟩ := bd2_some hf
    refine g_callSi 18 [] K (Fx_ok adK adV) hs (c_X6_within hc6) km_X6_66 kt_X6_within ki_X6 kC_X6_within mw_X6_within ⟨by decide, by decide, by decide, by decide⟩ rfl rfl (Nat.le_of_ble_eq_true rfl) dX6_pressed_15 rfl ?_
    refine g_if_eq 33 21 K hf dX6_pressed_18 (by decide) rfl (fun hf => ?_) (fun hf => ?_)
    · refine g_iconst 34 (-1) K dX6_pressed_33 rfl (by decide) ?_
      exact g_iret K hr hlk hf dX6_pressed_34
    · refine g_aload_n 22 0 K dX6_pressed_21 rfl rfl rfl ?_
      refine gf_C_0_0 25 K dX6_pressed_22 rfl ?_
      refine g_iload_n 26 1 K dX6_pressed_25 rfl rfl rfl ?_
      refine g_iload_n 27 2 K dX6_pressed_26 rfl rfl rfl ?_
      obtain ⟨r8, S7, hc9, hf⟩ := bd2_some hf
      refine g_callVi 30 1 [] K (Fx_ok adK adV) hs (c_X0_loadOn hc9) km_X6_92 kI_X0_loadOn kS_X0_loadOn ki_X0 kC_X0_loadOn mw_X0_loadOn ⟨by decide, by decide, by decide, by decide⟩ rfl rfl rfl rfl (Nat.le_of_ble_eq_true rfl) dX6_pressed_27 rfl ?_
      refine g_goto 34 K dX6_pressed_30 (by decide) ?_
      exact g_iret K hr hlk hf dX6_pressed_34
def f_X6_worst (N n : Nat) (S : St) (a1 : Int32) : Option (Int32 × St) :=
  bd2 (f_X0_cartCount N n S ) fun r2 S1 =>
  if r2 ≤ 0 then
    some ((-100000), S1)
  else
    bd2 (f_X6_within N n S1 a1 0 2) fun r5 S4 =>
    if r5 = 0 then
      some ((-100000), S4)
    else
      bd2 (f_X0_leastMargin N n S4 a1) fun r8 S7 =>
      some (r8, S7)
set_option maxRecDepth 20000 in
set_option maxHeartbeats 4000000 in
theorem c_X6_worst {l : Launch} {D : va_G} {q : Nat → Nat} {n : Nat} {cI cB cZ : ClassId} {adK adV : Nat → Nat} {N : Nat} {S Sz : St} {rz : Int32} {a1 : Int32} (hf : f_X6_worst N n S a1 = some (rz, Sz)) : Cn l yX6_worst cX6_worst 2 (some .int) 6 135 D (tyL cI cB cZ) (Fx adK adV) (wC q n cI cB cZ) [.ref (q 0), .int a1] S (some (.int rz)) Sz := by
  refine c_of (by decide) fl_wC (Nat.le_of_ble_eq_true rfl) [(0, .ref (q 0)), (1, .int a1)] rfl ?_
  intro p e s m args below meth c K hr hlk hs
  have K : Ok p s m args c cX6_worst 2 RX6 D (tyL cI cB cZ) (Aw (wC q n cI cB cZ) s.heap.size) (wC q n cI cB cZ) := K
  unfold f_X6_worst at hf
  refine g_aload_n 1 0 K dX6_worst_0 rfl rfl rfl ?_
  refine gf_C_0_0 4 K dX6_worst_1 rfl ?_
  obtain ⟨r2, S1, hc3, hf⟩ := bd2_some hf
  refine g_callVi 7 1 [] K (Fx_ok adK adV) hs (c_X0_cartCount hc3) km_X6_82 kI_X0_cartCount kS_X0_cartCount ki_X0 kC_X0_cartCount mw_X0_cartCount ⟨by decide, by decide, by decide, by decide⟩ rfl rfl rfl rfl (Nat.le_of_ble_eq_true rfl) dX6_worst_4 rfl ?_
  refine g_if_le 30 10 K hf dX6_worst_7 (by decide) rfl (fun hf => ?_) (fun hf => ?_)
  · refine g_ldc 32 (-100000) K dX6_worst_30 rfl kc_X6_98 ?_
    exact g_iret K hr hlk hf dX6_worst_32
  · refine g_iload_n 11 1 K dX6_worst_10 rfl rfl rfl ?_
    refine g_iconst 12 0 K dX6_worst_11 rfl (by decide) ?_
    refine g_iconst 13 2 K dX6_worst_12 rfl (by decide) ?_
    obtain ⟨r5, S4, hc6, hf⟩ := bd2_some hf
    refine g_callSi 16 [] K (Fx_ok adK adV) hs (c_X6_within hc6) km_X6_66 kt_X6_within ki_X6 kC_X6_within mw_X6_within ⟨by decide, by decide, by decide, by decide⟩ rfl rfl (Nat.le_of_ble_eq_true rfl) dX6_worst_13 rfl ?_
    refine g_if_eq 30 19 K hf dX6_worst_16 (by decide) rfl (fun hf => ?_) (fun hf => ?_)
    · refine g_ldc 32 (-100000) K dX6_worst_30 rfl kc_X6_98 ?_
      exact g_iret K hr hlk hf dX6_worst_32
    · refine g_aload_n 20 0 K dX6_worst_19 rfl rfl rfl ?_
      refine gf_C_0_0 23 K dX6_worst_20 rfl ?_
      refine g_iload_n 24 1 K dX6_worst_23 rfl rfl rfl ?_
      obtain ⟨r8, S7, hc9, hf⟩ := bd2_some hf
      refine g_callVi 27 1 [] K (Fx_ok adK adV) hs (c_X0_leastMargin hc9) km_X6_95 kI_X0_leastMargin kS_X0_leastMargin ki_X0 kC_X0_leastMargin mw_X0_leastMargin ⟨by decide, by decide, by decide, by decide⟩ rfl rfl rfl rfl (Nat.le_of_ble_eq_true rfl) dX6_worst_24 rfl ?_
      refine g_goto 32 K dX6_worst_27 (by decide) ?_
      exact g_iret K hr hlk hf dX6_worst_32
def f_X6_gap (N n : Nat) (S : St)  : Option (Int32 × St) :=
  bd2 (f_X0_cartCount N n S ) fun r2 S1 =>
  if r2 ≤ 0 then
    some ((-1), S1)
  else
    bd2 (f_X0_leastEvenGap N n S1 ) fun r5 S4 =>
    some (r5, S4)
set_option maxRecDepth 20000 in
set_option maxHeartbeats 4000000 in
theorem c_X6_gap {l : Launch} {D : va_G} {q : Nat → Nat} {n : Nat} {cI cB cZ : ClassId} {adK adV : Nat → Nat} {N : Nat} {S Sz : St} {rz : Int32}  (hf : f_X6_gap N n S  = some (rz, Sz)) : Cn l yX6_gap cX6_gap 1 (some .int) 6 136 D (tyL cI cB cZ) (Fx adK adV) (wC q n cI cB cZ) [.ref (q 0)] S (some (.int rz)) Sz := by
  refine c_of (by decide) fl_wC (Nat.le_of_ble_eq_true rfl) [(0, .ref (q 0))] rfl ?_
  intro p e s m args below meth c K hr hlk hs
  have K : Ok p s m args c cX6_gap 1 RX6 D (tyL cI cB cZ) (Aw (wC q n cI cB cZ) s.heap.size) (wC q n cI cB cZ) := K
  unfold f_X6_gap at hf
  refine g_aload_n 1 0 K dX6_gap_0 rfl rfl rfl ?_
  refine gf_C_0_0 4 K dX6_gap_1 rfl ?_
  obtain ⟨r2, S1, hc3, hf⟩ := bd2_some hf
  refine g_callVi 7 1 [] K (Fx_ok adK adV) hs (c_X0_cartCount hc3) km_X6_82 kI_X0_cartCount kS_X0_cartCount ki_X0 kC_X0_cartCount mw_X0_cartCount ⟨by decide, by decide, by decide, by decide⟩ rfl rfl rfl rfl (Nat.le_of_ble_eq_true rfl) dX6_gap_4 rfl ?_
  refine g_if_le 20 10 K hf dX6_gap_7 (by decide) rfl (fun hf => ?_) (fun hf => ?_)
  · refine g_iconst 21 (-1) K dX6_gap_20 rfl (by decide) ?_
    exact g_iret K hr hlk hf dX6_gap_21
  · refine g_aload_n 11 0 K dX6_gap_10 rfl rfl rfl ?_
    refine gf_C_0_0 14 K dX6_gap_11 rfl ?_
    obtain ⟨r5, S4, hc6, hf⟩ := bd2_some hf
    refine g_callVi 17 1 [] K (Fx_ok adK adV) hs (c_X0_leastEvenGap hc6) km_X6_99 kI_X0_leastEvenGap kS_X0_leastEvenGap ki_X0 kC_X0_leastEvenGap mw_X0_leastEvenGap ⟨by decide, by decide, by decide, by decide⟩ rfl rfl rfl rfl (Nat.le_of_ble_eq_true rfl) dX6_gap_14 rfl ?_
    refine g_goto 21 K dX6_gap_17 (by decide) ?_
    exact g_iret K hr hlk hf dX6_gap_21
def f_X6_ship (N n : Nat) (S : St) (a1 : Int32) : Option (Int32 × St) :=
  bd2 (f_X6_within N n S a1 0 239) fun r2 S1 =>
  if r2 = 0 then
    some ((-1), S1)
  else
    bd2 (f_X1_shipCount N n S1 ) fun r5 S4 =>
    if r5 < 10 then
      bd2 (f_X1_addShip N n S4 a1) fun r8 S7 =>
      some (r8, S7)
    else
      some ((-1), S4)
set_option maxRecDepth 20000 in
set_option maxHeartbeats 4000000 in
theorem c_X6_ship {l : Launch} {D : va_G} {q : Nat → Nat} {n : Nat} {cI cB cZ : ClassId} {adK adV : Nat → Nat} {N : Nat} {S Sz : St} {rz : Int32} {a1 : Int32} (hf : f_X6_ship N n S a1 = some (rz, Sz)) : Cn l yX6_ship cX6_ship 2 (some .int) 1 23 D (tyL cI cB cZ) (Fx adK adV) (wC q n cI cB cZ) [.ref (q 0), .int a1] S (some (.int rz)) Sz := by
  refine c_of (by decide) fl_wC (Nat.le_of_ble_eq_true rfl) [(0, .ref (q 0)), (1, .int a1)] rfl ?_
  intro p e s m args below meth c K hr hlk hs
  have K : Ok p s m args c cX6_ship 2 RX6 D (tyL cI cB cZ) (Aw (wC q n cI cB cZ) s.heap.size) (wC q n cI cB cZ) := K
  unfold f_X6_ship at hf
  refine g_iload_n 1 1 K dX6_ship_0 rfl rfl rfl ?_
  refine g_iconst 2 0 K dX6_ship_1 rfl (by decide) ?_
  refine g_sipush 5 239 K dX6_ship_2 rfl (by decide) ?_
  obtain ⟨r2, S1, hc3, hf⟩ := bd2_some hf
  refine g_callSi 8 [] K (Fx_ok adK adV) hs (c_X6_within hc3) km_X6_66 kt_X6_within ki_X6 kC_X6_within mw_X6_within ⟨by decide, by decide, by decide, by decide⟩ rfl rfl (Nat.le_of_ble_eq_true rfl) dX6_ship_5 rfl ?_
  refine g_if_eq 23 11 K hf dX6_ship_8 (by decide) rfl (fun hf => ?_) (fun hf => ?_)
  · refine g_iconst 24 (-1) K dX6_ship_23 rfl (by decide) ?_
    exact g_iret K hr hlk hf dX6_ship_24
  · refine g_aload_n 12 0 K dX6_ship_11 rfl rfl rfl ?_
    refine gf_C_0_1 15 K dX6_ship_12 rfl ?_
    obtain ⟨r5, S4, hc6, hf⟩ := bd2_some hf
    refine g_callVi 18 9 [] K (Fx_ok adK adV) hs (c_X1_shipCount hc6) km_X6_102 kI_X1_shipCount kS_X1_shipCount ki_X1 kC_X1_shipCount mw_X1_shipCount ⟨by decide, by decide, by decide, by decide⟩ rfl rfl rfl rfl (Nat.le_of_ble_eq_true rfl) dX6_ship_15 rfl ?_
    refine g_bipush 20 10 K dX6_ship_18 rfl (by decide) ?_
    refine g_icmp_lt 25 23 K hf dX6_ship_20 (by decide) rfl (fun hf => ?_) (fun hf => ?_)
    · refine g_aload_n 26 0 K dX6_ship_25 rfl rfl rfl ?_
      refine gf_C_0_1 29 K dX6_ship_26 rfl ?_
      refine g_iload_n 30 1 K dX6_ship_29 rfl rfl rfl ?_
      obtain ⟨r8, S7, hc9, hf⟩ := bd2_some hf
      refine g_callVi 33 9 [] K (Fx_ok adK adV) hs (c_X1_addShip hc9) km_X6_105 kI_X1_addShip kS_X1_addShip ki_X1 kC_X1_addShip mw_X1_addShip ⟨by decide, by decide, by decide, by decide⟩ rfl rfl rfl rfl (Nat.le_of_ble_eq_true rfl) dX6_ship_30 rfl ?_
      exact g_iret K hr hlk hf dX6_ship_33
    · refine g_iconst 24 (-1) K dX6_ship_23 rfl (by decide) ?_
      exact g_iret K hr hlk hf dX6_ship_24
def f_X6_crosser (N n : Nat) (S : St) (a1 : Int32) : Option (Int32 × St) :=
  bd2 (f_X6_within N n S a1 0 239) fun r2 S1 =>
  if r2 = 0 then
    some ((-1), S1)
  else
    bd2 (f_X1_crosserCount N n S1 ) fun r5 S4 =>
    if r5 < 30 then
      bd2 (f_X1_addCrosser N n S4 a1) fun r8 S7 =>
      some (r8, S7)
    else
      some ((-1), S4)
set_option maxRecDepth 20000 in
set_option maxHeartbeats 4000000 in
theorem c_X6_crosser {l : Launch} {D : va_G} {q : Nat → Nat} {n : Nat} {cI cB cZ : ClassId} {adK adV : Nat → Nat} {N : Nat} {S Sz : St} {rz : Int32} {a1 : Int32} (hf : f_X6_crosser N n S a1 = some (rz, Sz)) : Cn l yX6_crosser cX6_crosser 2 (some .int) 1 22 D (tyL cI cB cZ) (Fx adK adV) (wC q n cI cB cZ) [.ref (q 0), .int a1] S (some (.int rz)) Sz := by
  refine c_of (by decide) fl_wC (Nat.le_of_ble_eq_true rfl) [(0, .ref (q 0)), (1, .int a1)] rfl ?_
  intro p e s m args below meth c K hr hlk hs
  have K : Ok p s m args c cX6_crosser 2 RX6 D (tyL cI cB cZ) (Aw (wC q n cI cB cZ) s.heap.size) (wC q n cI cB cZ) := K
  unfold f_X6_crosser at hf
  refine g_iload_n 1 1 K dX6_crosser_0 rfl rfl rfl ?_
  refine g_iconst 2 0 K dX6_crosser_1 rfl (by decide) ?_
  refine g_sipush 5 239 K dX6_crosser_2 rfl (by decide) ?_
  obtain ⟨r2, S1, hc3, hf⟩ := bd2_some hf
  refine g_callSi 8 [] K (Fx_ok adK adV) hs (c_X6_within hc3) km_X6_66 kt_X6_within ki_X6 kC_X6_within mw_X6_within ⟨by decide, by decide, by decide, by decide⟩ rfl rfl (Nat.le_of_ble_eq_true rfl) dX6_crosser_5 rfl ?_
  refine g_if_eq 23 11 K hf dX6_crosser_8 (by decide) rfl (fun hf => ?_) (fun hf => ?_)
  · refine g_iconst 24 (-1) K dX6_crosser_23 rfl (by decide) ?_
    exact g_iret K hr hlk hf dX6_crosser_24
  · refine g_aload_n 12 0 K dX6_crosser_11 rfl rfl rfl ?_
    refine gf_C_0_1 15 K dX6_crosser_12 rfl ?_
    obtain ⟨r5, S4, hc6, hf⟩ := bd2_some hf
    refine g_callVi 18 9 [] K (Fx_ok adK adV) hs (c_X1_crosserCount hc6) km_X6_108 kI_X1_crosserCount kS_X1_crosserCount ki_X1 kC_X1_crosserCount mw_X1_crosserCount ⟨by decide, by decide, by decide, by decide⟩ rfl rfl rfl rfl (Nat.le_of_ble_eq_true rfl) dX6_crosser_15 rfl ?_
    refine g_bipush 20 30 K dX6_crosser_18 rfl (by decide) ?_
    refine g_icmp_lt 25 23 K hf dX6_crosser_20 (by decide) rfl (fun hf => ?_) (fun hf => ?_)
    · refine g_aload_n 26 0 K dX6_crosser_25 rfl rfl rfl ?_
      refine gf_C_0_1 29 K dX6_crosser_26 rfl ?_
      refine g_iload_n 30 1 K dX6_crosser_29 rfl rfl rfl ?_
      obtain ⟨r8, S7, hc9, hf⟩ := bd2_some hf
      refine g_callVi 33 9 [] K (Fx_ok adK adV) hs (c_X1_addCrosser hc9) km_X6_111 kI_X1_addCrosser kS_X1_addCrosser ki_X1 kC_X1_addCrosser mw_X1_addCrosser ⟨by decide, by decide, by decide, by decide⟩ rfl rfl rfl rfl (Nat.le_of_ble_eq_true rfl) dX6_crosser_30 rfl ?_
      exact g_iret K hr hlk hf dX6_crosser_33
    · refine g_iconst 24 (-1) K dX6_crosser_23 rfl (by decide) ?_
      exact g_iret K hr hlk hf dX6_crosser_24
def f_X6_times (N n : Nat) (S : St) (a1 : Int32) (a2 : Int32) (a3 : Int32) (a4 : Int32) : Option (Int32 × St) :=
  bd2 (f_X6_within N n S a1 1 20) fun r2 S1 =>
  if r2 = 0 then
    zr 0 S1
  else
    bd2 (f_X6_within N n S1 a2 1 20) fun r5 S4 =>
    if r5 = 0 then
      zr 0 S4
    else
      bd2 (f_X6_within N n S4 a3 1 20) fun r8 S7 =>
      if r8 = 0 then
        zr 0 S7
      else
        bd2 (f_X6_within N n S7 a4 1 9) fun r11 S10 =>
        if r11 = 0 then
          zr 0 S10
        else
          (f_X1_setTimes N n S10 a1 a2 a3 a4).bind fun S13 =>
          zr 1 S13
set_option maxRecDepth 20000 in
set_option maxHeartbeats 4000000 in
theorem c_X6_times {l : Launch} {D : va_G} {q : Nat → Nat} {n : Nat} {cI cB cZ : ClassId} {adK adV : Nat → Nat} {N : Nat} {S Sz : St} {rz : Int32} {a1 : Int32} {a2 : Int32} {a3 : Int32} {a4 : Int32} (hf : f_X6_times N n S a1 a2 a3 a4 = some (rz, Sz)) : Cn l yX6_times cX6_times 5 (some .boolean) 1 24 D (tyL cI cB cZ) (Fx adK adV) (wC q n cI cB cZ) [.ref (q 0), .int a1, .int a2, .int a3, .int a4] S (some (.int rz)) Sz := by
  refine c_of (by decide) fl_wC (Nat.le_of_ble_eq_true rfl) [(0, .ref (q 0)), (1, .int a1), (2, .int a2), (3, .int a3), (4, .int a4)] rfl ?_
  intro p e s m args below meth c K hr hlk hs
  have K : Ok p s m args c cX6_times 5 RX6 D (tyL cI cB cZ) (Aw (wC q n cI cB cZ) s.heap.size) (wC q n cI cB cZ) := K
  unfold f_X6_times at hf
  refine g_iload_n 1 1 K dX6_times_0 rfl rfl rfl ?_
  refine g_iconst 2 1 K dX6_times_1 rfl (by decide) ?_
  refine g_bipush 4 20 K dX6_times_2 rfl (by decide) ?_
  obtain ⟨r2, S1, hc3, hf⟩ := bd2_some hf
  refine g_callSi 7 [] K (Fx_ok adK adV) hs (c_X6_within hc3) km_X6_66 kt_X6_within ki_X6 kC_X6_within mw_X6_within ⟨by decide, by decide, by decide, by decide⟩ rfl rfl (Nat.le_of_ble_eq_true rfl) dX6_times_4 rfl ?_
  refine g_if_eq 41 10 K hf dX6_times_7 (by decide) rfl (fun hf => ?_) (fun hf => ?_)
  · refine g_iconst 42 0 K dX6_times_41 rfl (by decide) ?_
    exact g_zret K hr hlk hf dX6_times_42
  · refine g_iload_n 11 2 K dX6_times_10 rfl rfl rfl ?_
    refine g_iconst 12 1 K dX6_times_11 rfl (by decide) ?_
    refine g_bipush 14 20 K dX6_times_12 rfl (by decide) ?_
    obtain ⟨r5, S4, hc6, hf⟩ := bd2_some hf
    refine g_callSi 17 [] K (Fx_ok adK adV) hs (c_X6_within hc6) km_X6_66 kt_X6_within ki_X6 kC_X6_within mw_X6_within ⟨by decide, by decide, by decide, by decide⟩ rfl rfl (Nat.le_of_ble_eq_true rfl) dX6_times_14 rfl ?_
    refine g_if_eq 41 20 K hf dX6_times_17 (by decide) rfl (fun hf => ?_) (fun hf => ?_)
    · refine g_iconst 42 0 K dX6_times_41 rfl (by decide) ?_
      exact g_zret K hr hlk hf dX6_times_42
    · refine g_iload_n 21 3 K dX6_times_20 rfl rfl rfl ?_
      refine g_iconst 22 1 K dX6_times_21 rfl (by decide) ?_
      refine g_bipush 24 20 K dX6_times_22 rfl (by decide) ?_
      obtain ⟨r8, S7, hc9, hf⟩ := bd2_some hf
      refine g_callSi 27 [] K (Fx_ok adK adV) hs (c_X6_within hc9) km_X6_66 kt_X6_within ki_X6 kC_X6_within mw_X6_within ⟨by decide, by decide, by decide, by decide⟩ rfl rfl (Nat.le_of_ble_eq_true rfl) dX6_times_24 rfl ?_
      refine g_if_eq 41 30 K hf dX6_times_27 (by decide) rfl (fun hf => ?_) (fun hf => ?_)
      · refine g_iconst 42 0 K dX6_times_41 rfl (by decide) ?_
        exact g_zret K hr hlk hf dX6_times_42
      · refine g_iload 32 4 K dX6_times_30 rfl rfl ?_
        refine g_iconst 33 1 K dX6_times_32 rfl (by decide) ?_
        refine g_bipush 35 9 K dX6_times_33 rfl (by decide) ?_
        obtain ⟨r11, S10, hc12, hf⟩ := bd2_some hf
        refine g_callSi 38 [] K (Fx_ok adK adV) hs (c_X6_within hc12) km_X6_66 kt_X6_within ki_X6 kC_X6_within mw_X6_within ⟨by decide, by decide, by decide, by decide⟩ rfl rfl (Nat.le_of_ble_eq_true rfl) dX6_times_35 rfl ?_
        refine g_if_ne 43 41 K hf dX6_times_38 (by decide) rfl (fun hf => ?_) (fun hf => ?_)
        · refine g_iconst 42 0 K dX6_times_41 rfl (by decide) ?_
          exact g_zret K hr hlk hf dX6_times_42
        · refine g_aload_n 44 0 K dX6_times_43 rfl rfl rfl ?_
          refine gf_C_0_1 47 K dX6_times_44 rfl ?_
          refine g_iload_n 48 1 K dX6_times_47 rfl rfl rfl ?_
          refine g_iload_n 49 2 K dX6_times_48 rfl rfl rfl ?_
          refine g_iload_n 50 3 K dX6_times_49 rfl rfl rfl ?_
          refine g_iload 52 4 K dX6_times_50 rfl rfl ?_
          obtain ⟨S13, hc15, hf⟩ := bd_some hf
          refine g_callVv 55 9 [] K (Fx_ok adK adV) hs (c_X1_setTimes hc15) km_X6_114 kI_X1_setTimes kS_X1_setTimes ki_X1 kC_X1_setTimes mw_X1_setTimes ⟨by decide, by decide, by decide, by decide⟩ rfl rfl rfl rfl (Nat.le_of_ble_eq_true rfl) dX6_times_52 rfl ?_
          refine g_iconst 56 1 K dX6_times_55 rfl (by decide) ?_
          exact g_zret K hr hlk hf dX6_times_56
def f_X6_waits (N n : Nat) (S : St)  : Option (Int32 × St) :=
  bd2 (f_X1_leastWaits N n S ) fun r2 S1 =>
  some (r2, S1)
set_option maxRecDepth 20000 in
set_option maxHeartbeats 4000000 in
theorem c_X6_waits {l : Launch} {D : va_G} {q : Nat → Nat} {n : Nat} {cI cB cZ : ClassId} {adK adV : Nat → Nat} {N : Nat} {S Sz : St} {rz : Int32}  (hf : f_X6_waits N n S  = some (rz, Sz)) : Cn l yX6_waits cX6_waits 1 (some .int) 6 134 D (tyL cI cB cZ) (Fx adK adV) (wC q n cI cB cZ) [.ref (q 0)] S (some (.int rz)) Sz := by
  refine c_of (by decide) fl_wC (Nat.le_of_ble_eq_true rfl) [(0, .ref (q 0))] rfl ?_
  intro p e s m args below meth c K hr hlk hs
  have K : Ok p s m args c cX6_waits 1 RX6 D (tyL cI cB cZ) (Aw (wC q n cI cB cZ) s.heap.size) (wC q n cI cB cZ) := K
  unfold f_X6_waits at hf
  refine g_aload_n 1 0 K dX6_waits_0 rfl rfl rfl ?_
  refine gf_C_0_1 4 K dX6_waits_1 rfl ?_
  obtain ⟨r2, S1, hc3, hf⟩ := bd2_some hf
  refine g_callVi 7 9 [] K (Fx_ok adK adV) hs (c_X1_leastWaits hc3) km_X6_118 kI_X1_leastWaits kS_X1_leastWaits ki_X1 kC_X1_leastWaits mw_X1_leastWaits ⟨by decide, by decide, by decide, by decide⟩ rfl rfl rfl rfl (Nat.le_of_ble_eq_true rfl) dX6_waits_4 rfl ?_
  exact g_iret K hr hlk hf dX6_waits_7
def f_X6_opening (N n : Nat) (S : St) (a1 : Int32) (a2 : Int32) : Option (Int32 × St) :=
  bd2 (f_X1_openingOfBest N n S a1 a2) fun r2 S1 =>
  some (r2, S1)
set_option maxRecDepth 20000 in
set_option maxHeartbeats 4000000 in
theorem c_X6_opening {l : Launch} {D : va_G} {q : Nat → Nat} {n : Nat} {cI cB cZ : ClassId} {adK adV : Nat → Nat} {N : Nat} {S Sz : St} {rz : Int32} {a1 : Int32} {a2 : Int32} (hf : f_X6_opening N n S a1 a2 = some (rz, Sz)) : Cn l yX6_opening cX6_opening 3 (some .int) 6 136 D (tyL cI cB cZ) (Fx adK adV) (wC q n cI cB cZ) [.ref (q 0), .int a1, .int a2] S (some (.int rz)) Sz := by
  refine c_of (by decide) fl_wC (Nat.le_of_ble_eq_true rfl) [(0, .ref (q 0)), (1, .int a1), (2, .int a2)] rfl ?_
  intro p e s m args below meth c K hr hlk hs
  have K : Ok p s m args c cX6_opening 3 RX6 D (tyL cI cB cZ) (Aw (wC q n cI cB cZ) s.heap.size) (wC q n cI cB cZ) := K
  unfold f_X6_opening at hf
  refine g_aload_n 1 0 K dX6_opening_0 rfl rfl rfl ?_
  refine gf_C_0_1 4 K dX6_opening_1 rfl ?_
  refine g_iload_n 5 1 K dX6_opening_4 rfl rfl rfl ?_
  refine g_iload_n 6 2 K dX6_opening_5 rfl rfl rfl ?_
  obtain ⟨r2, S1, hc3, hf⟩ := bd2_some hf
  refine g_callVi 9 9 [] K (Fx_ok adK adV) hs (c_X1_openingOfBest hc3) km_X6_121 kI_X1_openingOfBest kS_X1_openingOfBest ki_X1 kC_X1_openingOfBest mw_X1_openingOfBest ⟨by decide, by decide, by decide, by decide⟩ rfl rfl rfl rfl (Nat.le_of_ble_eq_true rfl) dX6_opening_6 rfl ?_
  exact g_iret K hr hlk hf dX6_opening_9
def f_X6_atOnce (N n : Nat) (S : St)  : Option (Int32 × St) :=
  bd2 (f_X1_earliestWaits N n S ) fun r2 S1 =>
  some (r2, S1)
set_option maxRecDepth 20000 in
set_option maxHeartbeats 4000000 in
theorem c_X6_atOnce {l : Launch} {D : va_G} {q : Nat → Nat} {n : Nat} {cI cB cZ : ClassId} {adK adV : Nat → Nat} {N : Nat} {S Sz : St} {rz : Int32}  (hf : f_X6_atOnce N n S  = some (rz, Sz)) : Cn l yX6_atOnce cX6_atOnce 1 (some .int) 4 89 D (tyL cI cB cZ) (Fx adK adV) (wC q n cI cB cZ) [.ref (q 0)] S (some (.int rz)) Sz := by
  refine c_of (by decide) fl_wC (Nat.le_of_ble_eq_true rfl) [(0, .ref (q 0))] rfl ?_
  intro p e s m args below meth c K hr hlk hs
  have K : Ok p s m args c cX6_atOnce 1 RX6 D (tyL cI cB cZ) (Aw (wC q n cI cB cZ) s.heap.size) (wC q n cI cB cZ) := K
  unfold f_X6_atOnce at hf
  refine g_aload_n 1 0 K dX6_atOnce_0 rfl rfl rfl ?_
  refine gf_C_0_1 4 K dX6_atOnce_1 rfl ?_
  obtain ⟨r2, S1, hc3, hf⟩ := bd2_some hf
  refine g_callVi 7 9 [] K (Fx_ok adK adV) hs (c_X1_earliestWaits hc3) km_X6_124 kI_X1_earliestWaits kS_X1_earliestWaits ki_X1 kC_X1_earliestWaits mw_X1_earliestWaits ⟨by decide, by decide, by decide, by decide⟩ rfl rfl rfl rfl (Nat.le_of_ble_eq_true rfl) dX6_atOnce_4 rfl ?_
  exact g_iret K hr hlk hf dX6_atOnce_7
def f_X6_level (N n : Nat) (S : St) (a1 : Int32) (a2 : Int32) (a3 : Int32) : Option (Int32 × St) :=
  bd2 (f_X6_within N n S a1 0 59) fun r2 S1 =>
  if r2 = 0 then
    zr 0 S1
  else
    if a2 = (-1) then
      (f_X2_foretell N n S1 a1 (-1)).bind fun S13 =>
      zr 1 S13
    else
      bd2 (f_X6_within N n S1 a2 0 99) fun r5 S4 =>
      if r5 = 0 then
        zr 0 S4
      else
        bd2 (f_X6_within N n S4 a3 a2 99) fun r8 S7 =>
        if r8 = 0 then
          zr 0 S7
        else
          (f_X2_foretell N n S7 a1 a3).bind fun S10 =>
          zr 1 S10
set_option maxRecDepth 20000 in
set_option maxHeartbeats 4000000 in
theorem c_X6_level {l : Launch} {D : va_G} {q : Nat → Nat} {n : Nat} {cI cB cZ : ClassId} {adK adV : Nat → Nat} {N : Nat} {S Sz : St} {rz : Int32} {a1 : Int32} {a2 : Int32} {a3 : Int32} (hf : f_X6_level N n S a1 a2 a3 = some (rz, Sz)) : Cn l yX6_level cX6_level 4 (some .boolean) 1 22 D (tyL cI cB cZ) (Fx adK adV) (wC q n cI cB cZ) [.ref (q 0), .int a1, .int a2, .int a3] S (some (.int rz)) Sz := by
  refine c_of (by decide) fl_wC (Nat.le_of_ble_eq_true rfl) [(0, .ref (q 0)), (1, .int a1), (2, .int a2), (3, .int a3)] rfl ?_
  intro p e s m args below meth c K hr hlk hs
  have K : Ok p s m args c cX6_level 4 RX6 D (tyL cI cB cZ) (Aw (wC q n cI cB cZ) s.heap.size) (wC q n cI cB cZ) := K
  unfold f_X6_level at hf
  refine g_iload_n 1 1 K dX6_level_0 rfl rfl rfl ?_
  refine g_iconst 2 0 K dX6_level_1 rfl (by decide) ?_
  refine g_bipush 4 59 K dX6_level_2 rfl (by decide) ?_
  obtain ⟨r2, S1, hc3, hf⟩ := bd2_some hf
  refine g_callSi 7 [] K (Fx_ok adK adV) hs (c_X6_within hc3) km_X6_66 kt_X6_within ki_X6 kC_X6_within mw_X6_within ⟨by decide, by decide, by decide, by decide⟩ rfl rfl (Nat.le_of_ble_eq_true rfl) dX6_level_4 rfl ?_
  refine g_if_ne 12 10 K hf dX6_level_7 (by decide) rfl (fun hf => ?_) (fun hf => ?_)
  · refine g_iconst 11 0 K dX6_level_10 rfl (by decide) ?_
    exact g_zret K hr hlk hf dX6_level_11
  · refine g_iload_n 13 2 K dX6_level_12 rfl rfl rfl ?_
    refine g_iconst 14 (-1) K dX6_level_13 rfl (by decide) ?_
    refine g_icmp_ne 28 17 K hf dX6_level_14 (by decide) rfl (fun hf => ?_) (fun hf => ?_)
    · refine g_aload_n 18 0 K dX6_level_17 rfl rfl rfl ?_
      refine gf_C_0_2 21 K dX6_level_18 rfl ?_
      refine g_iload_n 22 1 K dX6_level_21 rfl rfl rfl ?_
      refine g_iconst 23 (-1) K dX6_level_22 rfl (by decide) ?_
      obtain ⟨S13, hc15, hf⟩ := bd_some hf
      refine g_callVv 26 20 [] K (Fx_ok adK adV) hs (c_X2_foretell hc15) km_X6_127 kI_X2_foretell kS_X2_foretell ki_X2 kC_X2_foretell mw_X2_foretell ⟨by decide, by decide, by decide, by decide⟩ rfl rfl rfl rfl (Nat.le_of_ble_eq_true rfl) dX6_level_23 rfl ?_
      refine g_iconst 27 1 K dX6_level_26 rfl (by decide) ?_
      exact g_zret K hr hlk hf dX6_level_27
    · refine g_iload_n 29 2 K dX6_level_28 rfl rfl rfl ?_
      refine g_iconst 30 0 K dX6_level_29 rfl (by decide) ?_
      refine g_bipush 32 99 K dX6_level_30 rfl (by decide) ?_
      obtain ⟨r5, S4, hc6, hf⟩ := bd2_some hf
      refine g_callSi 35 [] K (Fx_ok adK adV) hs (c_X6_within hc6) km_X6_66 kt_X6_within ki_X6 kC_X6_within mw_X6_within ⟨by decide, by decide, by decide, by decide⟩ rfl rfl (Nat.le_of_ble_eq_true rfl) dX6_level_32 rfl ?_
      refine g_if_eq 48 38 K hf dX6_level_35 (by decide) rfl (fun hf => ?_) (fun hf => ?_)
      · refine g_iconst 49 0 K dX6_level_48 rfl (by decide) ?_
        exact g_zret K hr hlk hf dX6_level_49
      · refine g_iload_n 39 3 K dX6_level_38 rfl rfl rfl ?_
        refine g_iload_n 40 2 K dX6_level_39 rfl rfl rfl ?_
        refine g_bipush 42 99 K dX6_level_40 rfl (by decide) ?_
        obtain ⟨r8, S7, hc9, hf⟩ := bd2_some hf
        refine g_callSi 45 [] K (Fx_ok adK adV) hs (c_X6_within hc9) km_X6_66 kt_X6_within ki_X6 kC_X6_within mw_X6_within ⟨by decide, by decide, by decide, by decide⟩ rfl rfl (Nat.le_of_ble_eq_true rfl) dX6_level_42 rfl ?_
        refine g_if_ne 50 48 K hf dX6_level_45 (by decide) rfl (fun hf => ?_) (fun hf => ?_)
        · refine g_iconst 49 0 K dX6_level_48 rfl (by decide) ?_
          exact g_zret K hr hlk hf dX6_level_49
        · refine g_aload_n 51 0 K dX6_level_50 rfl rfl rfl ?_
          refine gf_C_0_2 54 K dX6_level_51 rfl ?_
          refine g_iload_n 55 1 K dX6_level_54 rfl rfl rfl ?_
          refine g_iload_n 56 3 K dX6_level_55 rfl rfl rfl ?_
          obtain ⟨S10, hc12, hf⟩ := bd_some hf
          refine g_callVv 59 20 [] K (Fx_ok adK adV) hs (c_X2_foretell hc12) km_X6_127 kI_X2_foretell kS_X2_foretell ki_X2 kC_X2_foretell mw_X2_foretell ⟨by decide, by decide, by decide, by decide⟩ rfl rfl rfl rfl (Nat.le_of_ble_eq_true rfl) dX6_level_56 rfl ?_
          refine g_iconst 60 1 K dX6_level_59 rfl (by decide) ?_
          exact g_zret K hr hlk hf dX6_level_60
def f_X6_flood (N n : Nat) (S : St) (a1 : Int32) (a2 : Int32) : Option (Int32 × St) :=
  bd2 (f_X6_within N n S a1 0 99) fun r2 S1 =>
  if r2 = 0 then
    zr 0 S1
  else
    bd2 (f_X6_within N n S1 a2 1 9) fun r5 S4 =>
    if r5 = 0 then
      zr 0 S4
    else
      (f_X2_setLimits N n S4 a1 a2).bind fun S7 =>
      zr 1 S7
set_option maxRecDepth 20000 in
set_option maxHeartbeats 4000000 in
theorem c_X6_flood {l : Launch} {D : va_G} {q : Nat → Nat} {n : Nat} {cI cB cZ : ClassId} {adK adV : Nat → Nat} {N : Nat} {S Sz : St} {rz : Int32} {a1 : Int32} {a2 : Int32} (hf : f_X6_flood N n S a1 a2 = some (rz, Sz)) : Cn l yX6_flood cX6_flood 3 (some .boolean) 1 22 D (tyL cI cB cZ) (Fx adK adV) (wC q n cI cB cZ) [.ref (q 0), .int a1, .int a2] S (some (.int rz)) Sz := by
  refine c_of (by decide) fl_wC (Nat.le_of_ble_eq_true rfl) [(0, .ref (q 0)), (1, .int a1), (2, .int a2)] rfl ?_
  intro p e s m args below meth c K hr hlk hs
  have K : Ok p s m args c cX6_flood 3 RX6 D (tyL cI cB cZ) (Aw (wC q n cI cB cZ) s.heap.size) (wC q n cI cB cZ) := K
  unfold f_X6_flood at hf
  refine g_iload_n 1 1 K dX6_flood_0 rfl rfl rfl ?_
  refine g_iconst 2 0 K dX6_flood_1 rfl (by decide) ?_
  refine g_bipush 4 99 K dX6_flood_2 rfl (by decide) ?_
  obtain ⟨r2, S1, hc3, hf⟩ := bd2_some hf
  refine g_callSi 7 [] K (Fx_ok adK adV) hs (c_X6_within hc3) km_X6_66 kt_X6_within ki_X6 kC_X6_within mw_X6_within ⟨by decide, by decide, by decide, by decide⟩ rfl rfl (Nat.le_of_ble_eq_true rfl) dX6_flood_4 rfl ?_
  refine g_if_eq 20 10 K hf dX6_flood_7 (by decide) rfl (fun hf => ?_) (fun hf => ?_)
  · refine g_iconst 21 0 K dX6_flood_20 rfl (by decide) ?_
    exact g_zret K hr hlk hf dX6_flood_21
  · refine g_iload_n 11 2 K dX6_flood_10 rfl rfl rfl ?_
    refine g_iconst 12 1 K dX6_flood_11 rfl (by decide) ?_
    refine g_bipush 14 9 K dX6_flood_12 rfl (by decide) ?_
    obtain ⟨r5, S4, hc6, hf⟩ := bd2_some hf
    refine g_callSi 17 [] K (Fx_ok adK adV) hs (c_X6_within hc6) km_X6_66 kt_X6_within ki_X6 kC_X6_within mw_X6_within ⟨by decide, by decide, by decide, by decide⟩ rfl rfl (Nat.le_of_ble_eq_true rfl) dX6_flood_14 rfl ?_
    refine g_if_ne 22 20 K hf dX6_flood_17 (by decide) rfl (fun hf => ?_) (fun hf => ?_)
    · refine g_iconst 21 0 K dX6_flood_20 rfl (by decide) ?_
      exact g_zret K hr hlk hf dX6_flood_21
    · refine g_aload_n 23 0 K dX6_flood_22 rfl rfl rfl ?_
      refine gf_C_0_2 26 K dX6_flood_23 rfl ?_
      refine g_iload_n 27 1 K dX6_flood_26 rfl rfl rfl ?_
      refine g_iload_n 28 2 K dX6_flood_27 rfl rfl rfl ?_
      obtain ⟨S7, hc9, hf⟩ := bd_some hf
      refine g_callVv 31 20 [] K (Fx_ok adK adV) hs (c_X2_setLimits hc9) km_X6_130 kI_X2_setLimits kS_X2_setLimits ki_X2 kC_X2_setLimits mw_X2_setLimits ⟨by decide, by decide, by decide, by decide⟩ rfl rfl rfl rfl (Nat.le_of_ble_eq_true rfl) dX6_flood_28 rfl ?_
      refine g_iconst 32 1 K dX6_flood_31 rfl (by decide) ?_
      exact g_zret K hr hlk hf dX6_flood_32
def f_X6_out (N n : Nat) (S : St)  : Option (Int32 × St) :=
  bd2 (f_X2_fewest N n S ) fun r2 S1 =>
  some (r2, S1)
set_option maxRecDepth 20000 in
set_option maxHeartbeats 4000000 in
theorem c_X6_out {l : Launch} {D : va_G} {q : Nat → Nat} {n : Nat} {cI cB cZ : ClassId} {adK adV : Nat → Nat} {N : Nat} {S Sz : St} {rz : Int32}  (hf : f_X6_out N n S  = some (rz, Sz)) : Cn l yX6_out cX6_out 1 (some .int) 5 109 D (tyL cI cB cZ) (Fx adK adV) (wC q n cI cB cZ) [.ref (q 0)] S (some (.int rz)) Sz := by
  refine c_of (by decide) fl_wC (Nat.le_of_ble_eq_true rfl) [(0, .ref (q 0))] rfl ?_
  intro p e s m args below meth c K hr hlk hs
  have K : Ok p s m args c cX6_out 1 RX6 D (tyL cI cB cZ) (Aw (wC q n cI cB cZ) s.heap.size) (wC q n cI cB cZ) := K
  unfold f_X6_out at hf
  refine g_aload_n 1 0 K dX6_out_0 rfl rfl rfl ?_
  refine gf_C_0_2 4 K dX6_out_1 rfl ?_
  obtain ⟨r2, S1, hc3, hf⟩ := bd2_some hf
  refine g_callVi 7 20 [] K (Fx_ok adK adV) hs (c_X2_fewest hc3) km_X6_133 kI_X2_fewest kS_X2_fewest ki_X2 kC_X2_fewest mw_X2_fewest ⟨by decide, by decide, by decide, by decide⟩ rfl rfl rfl rfl (Nat.le_of_ble_eq_true rfl) dX6_out_4 rfl ?_
  exact g_iret K hr hlk hf dX6_out_7
def f_X6_outOn (N n : Nat) (S : St) (a1 : Int32) (a2 : Int32) : Option (Int32 × St) :=
  bd2 (f_X6_within N n S a1 0 59) fun r2 S1 =>
  if r2 = 0 then
    some ((-1), S1)
  else
    bd2 (f_X6_within N n S1 a2 0 1) fun r5 S4 =>
    if r5 = 0 then
      some ((-1), S4)
    else
      lett (fun (S8 : St) (x9 : Int32) =>
        if x9 = 0 then
          some (0, S8)
        else
          some (1, S8)) fun j7 =>
      if a2 = 0 then
        bd2 (f_X2_isOut N n S4 a1) fun r15 S14 =>
        j7 S14 r15
      else
        bd2 (f_X2_isBad N n S4 a1) fun r12 S11 =>
        j7 S11 r12
set_option maxRecDepth 20000 in
set_option maxHeartbeats 4000000 in
theorem c_X6_outOn {l : Launch} {D : va_G} {q : Nat → Nat} {n : Nat} {cI cB cZ : ClassId} {adK adV : Nat → Nat} {N : Nat} {S Sz : St} {rz : Int32} {a1 : Int32} {a2 : Int32} (hf : f_X6_outOn N n S a1 a2 = some (rz, Sz)) : Cn l yX6_outOn cX6_outOn 4 (some .int) 5 110 D (tyL cI cB cZ) (Fx adK adV) (wC q n cI cB cZ) [.ref (q 0), .int a1, .int a2] S (some (.int rz)) Sz := by
  refine c_of (by decide) fl_wC (Nat.le_of_ble_eq_true rfl) [(0, .ref (q 0)), (1, .int a1), (2, .int a2)] rfl ?_
  intro p e s m args below meth c K hr hlk hs
  have K : Ok p s m args c cX6_outOn 4 RX6 D (tyL cI cB cZ) (Aw (wC q n cI cB cZ) s.heap.size) (wC q n cI cB cZ) := K
  unfold f_X6_outOn at hf
  refine g_iload_n 1 1 K dX6_outOn_0 rfl rfl rfl ?_
  refine g_iconst 2 0 K dX6_outOn_1 rfl (by decide) ?_
  refine g_bipush 4 59 K dX6_outOn_2 rfl (by decide) ?_
  obtain ⟨r2, S1, hc3, hf⟩ := bd2_some hf
  refine g_callSi 7 [] K (Fx_ok adK adV) hs (c_X6_within hc3) km_X6_66 kt_X6_within ki_X6 kC_X6_within mw_X6_within ⟨by decide, by decide, by decide, by decide⟩ rfl rfl (Nat.le_of_ble_eq_true rfl) dX6_outOn_4 rfl ?_
  refine g_if_eq 19 10 K hf dX6_outOn_7 (by decide) rfl (fun hf => ?_) (fun hf => ?_)
  · refine g_iconst 20 (-1) K dX6_outOn_19 rfl (by decide) ?_
    exact g_iret K hr hlk hf dX6_outOn_20
  · refine g_iload_n 11 2 K dX6_outOn_10 rfl rfl rfl ?_
    refine g_iconst 12 0 K dX6_outOn_11 rfl (by decide) ?_
    refine g_iconst 13 1 K dX6_outOn_12 rfl (by decide) ?_
    obtain ⟨r5, S4, hc6, hf⟩ := bd2_some hf
    refine g_callSi 16 [] K (Fx_ok adK adV) hs (c_X6_within hc6) km_X6_66 kt_X6_within ki_X6 kC_X6_within mw_X6_within ⟨by decide, by decide, by decide, by decide⟩ rfl rfl (Nat.le_of_ble_eq_true rfl) dX6_outOn_13 rfl ?_
    refine g_if_ne 21 19 K hf dX6_outOn_16 (by decide) rfl (fun hf => ?_) (fun hf => ?_)
    · refine g_iconst 20 (-1) K dX6_outOn_19 rfl (by decide) ?_
      exact g_iret K hr hlk hf dX6_outOn_20
    · refine g_iload_n 22 2 K dX6_outOn_21 rfl rfl rfl ?_
      refine g_join1 44 (fun (x9 : Int32) => [(0, .ref (q 0)), (1, .int a1), (2, .int a2)]) (fun (x9 : Int32) => [.int x9]) hf (fun S8 x9 hf => ?_) (fun j7 hj10 hf => ?_)
      · refine g_istore_n (lv' := [(3, .int x9), (0, .ref (q 0)), (1, .int a1), (2, .int a2)]) 45 3 K dX6_outOn_44 rfl rfl (by decide) rfl ?_
        refine g_iload_n 46 0 K dX6_outOn_45 rfl rfl rfl ?_
        refine g_if_eq 53 49 K hf dX6_outOn_46 (by decide) rfl (fun hf => ?_) (fun hf => ?_)
        · refine g_iconst 54 0 K dX6_outOn_53 rfl (by decide) ?_
          exact g_iret K hr hlk hf dX6_outOn_54
        · refine g_iconst 50 1 K dX6_outOn_49 rfl (by decide) ?_
          refine g_goto 54 K dX6_outOn_50 (by decide) ?_
          exact g_iret K hr hlk hf dX6_outOn_54
      · refine g_if_ne 36 25 K hf dX6_outOn_22 (by decide) rfl (fun hf => ?_) (fun hf => ?_)
        · refine g_aload_n 26 0 K dX6_outOn_25 rfl rfl rfl ?_
          refine gf_C_0_2 29 K dX6_outOn_26 rfl ?_
          refine g_iload_n 30 1 K dX6_outOn_29 rfl rfl rfl ?_
          obtain ⟨r15, S14, hc16, hf⟩ := bd2_some hf
          refine g_callVi 33 20 [] K (Fx_ok adK adV) hs (c_X2_isOut hc16) km_X6_136 kI_X2_isOut kS_X2_isOut ki_X2 kC_X2_isOut mw_X2_isOut ⟨by decide, by decide, by decide, by decide⟩ rfl rfl rfl rfl (Nat.le_of_ble_eq_true rfl) dX6_outOn_30 rfl ?_
          refine g_goto 44 K dX6_outOn_33 (by decide) ?_
          exact g_sub [0, 1, 2] rfl (hj10 _ _ hf)
        · refine g_aload_n 37 0 K dX6_outOn_36 rfl rfl rfl ?_
          refine gf_C_0_2 40 K dX6_outOn_37 rfl ?_
          refine g_iload_n 41 1 K dX6_outOn_40 rfl rfl rfl ?_
          obtain ⟨r12, S11, hc13, hf⟩ := bd2_some hf
          refine g_callVi 44 20 [] K (Fx_ok adK adV) hs (c_X2_isBad hc13) km_X6_139 kI_X2_isBad kS_X2_isBad ki_X2 kC_X2_isBad mw_X2_isBad ⟨by decide, by decide, by decide, by decide⟩ rfl rfl rfl rfl (Nat.le_of_ble_eq_true rfl) dX6_outOn_41 rfl ?_
          exact g_sub [0, 1, 2] rfl (hj10 _ _ hf)
def f_X6_feed (N n : Nat) (S : St) (a1 : Int32) (a2 : Int32) (a3 : Int32) (a4 : Int32) (a5 : Int32) : Option (Int32 × St) :=
  bd2 (f_X3_size N n S ) fun r2 S1 =>
  if (r2 + 20) ≤ 200 then
    (f_X3_addWord N n S1 a1).bind fun S4 =>
    (f_X3_addWord N n S4 a2).bind fun S7 =>
    (f_X3_addWord N n S7 a3).bind fun S10 =>
    (f_X3_addWord N n S10 a4).bind fun S13 =>
    (f_X3_addWord N n S13 a5).bind fun S16 =>
    bd2 (f_X3_size N n S16 ) fun r20 S19 =>
    some (r20, S19)
  else
    some ((-1), S1)
set_option maxRecDepth 20000 in
set_option maxHeartbeats 4000000 in
theorem c_X6_feed {l : Launch} {D : va_G} {q : Nat → Nat} {n : Nat} {cI cB cZ : ClassId} {adK adV : Nat → Nat} {N : Nat} {S Sz : St} {rz : Int32} {a1 : Int32} {a2 : Int32} {a3 : Int32} {a4 : Int32} {a5 : Int32} (hf : f_X6_feed N n S a1 a2 a3 a4 a5 = some (rz, Sz)) : Cn l yX6_feed cX6_feed 6 (some .int) 1 22 D (tyL cI cB cZ) (Fx adK adV) (wC q n cI cB cZ) [.ref (q 0), .int a1, .int a2, .int a3, .int a4, .int a5] S (some (.int rz)) Sz := by
  refine c_of (by decide) fl_wC (Nat.le_of_ble_eq_true rfl) [(0, .ref (q 0)), (1, .int a1), (2, .int a2), (3, .int a3), (4, .int a4), (5, .int a5)] rfl ?_
  intro p e s m args below meth c K hr hlk hs
  have K : Ok p s m args c cX6_feed 6 RX6 D (tyL cI cB cZ) (Aw (wC q n cI cB cZ) s.heap.size) (wC q n cI cB cZ) := K
  unfold f_X6_feed at hf
  refine g_aload_n 1 0 K dX6_feed_0 rfl rfl rfl ?_
  refine gf_C_0_3 4 K dX6_feed_1 rfl ?_
  obtain ⟨r2, S1, hc3, hf⟩ := bd2_some hf
  refine g_callVi 7 24 [] K (Fx_ok adK adV) hs (c_X3_size hc3) km_X6_142 kI_X3_size kS_X3_size ki_X3 kC_X3_size mw_X3_size ⟨by decide, by decide, by decide, by decide⟩ rfl rfl rfl rfl (Nat.le_of_ble_eq_true rfl) dX6_feed_4 rfl ?_
  refine g_bipush 9 20 K dX6_feed_7 rfl (by decide) ?_
  refine g_iadd 10 K dX6_feed_9 rfl ?_
  refine g_sipush 13 200 K dX6_feed_10 rfl (by decide) ?_
  refine g_icmp_le 18 16 K hf dX6_feed_13 (by decide) rfl (fun hf => ?_) (fun hf => ?_)
  · refine g_aload_n 19 0 K dX6_feed_18 rfl rfl rfl ?_
    refine gf_C_0_3 22 K dX6_feed_19 rfl ?_
    refine g_iload_n 23 1 K dX6_feed_22 rfl rfl rfl ?_
    obtain ⟨S4, hc6, hf⟩ := bd_some hf
    refine g_callVv 26 24 [] K (Fx_ok adK adV) hs (c_X3_addWord hc6) km_X6_145 kI_X3_addWord kS_X3_addWord ki_X3 kC_X3_addWord mw_X3_addWord ⟨by decide, by decide, by decide, by decide⟩ rfl rfl rfl rfl (Nat.le_of_ble_eq_true rfl) dX6_feed_23 rfl ?_
    refine g_aload_n 27 0 K dX6_feed_26 rfl rfl rfl ?_
    refine gf_C_0_3 30 K dX6_feed_27 rfl ?_
    refine g_iload_n 31 2 K dX6_feed_30 rfl rfl rfl ?_
    obtain ⟨S7, hc9, hf⟩ := bd_some hf
    refine g_callVv 34 24 [] K (Fx_ok adK adV) hs (c_X3_addWord hc9) km_X6_145 kI_X3_addWord kS_X3_addWord ki_X3 kC_X3_addWord mw_X3_addWord ⟨by decide, by decide, by decide, by decide⟩ rfl rfl rfl rfl (Nat.le_of_ble_eq_true rfl) dX6_feed_31 rfl ?_
    refine g_aload_n 35 0 K dX6_feed_34 rfl rfl rfl ?_
    refine gf_C_0_3 38 K dX6_feed_35 rfl ?_
    refine g_iload_n 39 3 K dX6_feed_38 rfl rfl rfl ?_
    obtain ⟨S10, hc12, hf⟩ := bd_some hf
    refine g_callVv 42 24 [] K (Fx_ok adK adV) hs (c_X3_addWord hc12) km_X6_145 kI_X3_addWord kS_X3_addWord ki_X3 kC_X3_addWord mw_X3_addWord ⟨by decide, by decide, by decide, by decide⟩ rfl rfl rfl rfl (Nat.le_of_ble_eq_true rfl) dX6_feed_39 rfl ?_
    refine g_aload_n 43 0 K dX6_feed_42 rfl rfl rfl ?_
    refine gf_C_0_3 46 K dX6_feed_43 rfl ?_
    refine g_iload 48 4 K dX6_feed_46 rfl rfl ?_
    obtain ⟨S13, hc15, hf⟩ := bd_some hf
    refine g_callVv 51 24 [] K (Fx_ok adK adV) hs (c_X3_addWord hc15) km_X6_145 kI_X3_addWord kS_X3_addWord ki_X3 kC_X3_addWord mw_X3_addWord ⟨by decide, by decide, by decide, by decide⟩ rfl rfl rfl rfl (Nat.le_of_ble_eq_true rfl) dX6_feed_48 rfl ?_
    refine g_aload_n 52 0 K dX6_feed_51 rfl rfl rfl ?_
    refine gf_C_0_3 55 K dX6_feed_52 rfl ?_
    refine g_iload 57 5 K dX6_feed_55 rfl rfl ?_
    obtain ⟨S16, hc18, hf⟩ := bd_some hf
    refine g_callVv 60 24 [] K (Fx_ok adK adV) hs (c_X3_addWord hc18) km_X6_145 kI_X3_addWord kS_X3_addWord ki_X3 kC_X3_addWord mw_X3_addWord ⟨by decide, by decide, by decide, by decide⟩ rfl rfl rfl rfl (Nat.le_of_ble_eq_true rfl) dX6_feed_57 rfl ?_
    refine g_aload_n 61 0 K dX6_feed_60 rfl rfl rfl ?_
    refine gf_C_0_3 64 K dX6_feed_61 rfl ?_
    obtain ⟨r20, S19, hc21, hf⟩ := bd2_some hf
    refine g_callVi 67 24 [] K (Fx_ok adK adV) hs (c_X3_size hc21) km_X6_142 kI_X3_size kS_X3_size ki_X3 kC_X3_size mw_X3_size ⟨by decide, by decide, by decide, by decide⟩ rfl rfl rfl rfl (Nat.le_of_ble_eq_true rfl) dX6_feed_64 rfl ?_
    exact g_iret K hr hlk hf dX6_feed_67
  · refine g_iconst 17 (-1) K dX6_feed_16 rfl (by decide) ?_
    exact g_iret K hr hlk hf dX6_feed_17
def f_X6_end (N n : Nat) (S : St) (a1 : Int32) : Option (Int32 × St) :=
  bd2 (f_X3_size N n S ) fun r2 S1 =>
  bd2 (f_X6_within N n S1 a1 0 r2) fun r5 S4 =>
  if r5 = 0 then
    some ((-1), S4)
  else
    (f_X3_cutTo N n S4 a1).bind fun S7 =>
    some (a1, S7)
set_option maxRecDepth 20000 in
set_option maxHeartbeats 4000000 in
theorem c_X6_end {l : Launch} {D : va_G} {q : Nat → Nat} {n : Nat} {cI cB cZ : ClassId} {adK adV : Nat → Nat} {N : Nat} {S Sz : St} {rz : Int32} {a1 : Int32} (hf : f_X6_end N n S a1 = some (rz, Sz)) : Cn l yX6_end cX6_end 2 (some .int) 1 22 D (tyL cI cB cZ) (Fx adK adV) (wC q n cI cB cZ) [.ref (q 0), .int a1] S (some (.int rz)) Sz := by
  refine c_of (by decide) fl_wC (Nat.le_of_ble_eq_true rfl) [(0, .ref (q 0)), (1, .int a1)] rfl ?_
  intro p e s m args below meth c K hr hlk hs
  have K : Ok p s m args c cX6_end 2 RX6 D (tyL cI cB cZ) (Aw (wC q n cI cB cZ) s.heap.size) (wC q n cI cB cZ) := K
  unfold f_X6_end at hf
  refine g_iload_n 1 1 K dX6_end_0 rfl rfl rfl ?_
  refine g_iconst 2 0 K dX6_end_1 rfl (by decide) ?_
  refine g_aload_n 3 0 K dX6_end_2 rfl rfl rfl ?_
  refine gf_C_0_3 6 K dX6_end_3 rfl ?_
  obtain ⟨r2, S1, hc3, hf⟩ := bd2_some hf
  refine g_callVi 9 24 [.int 0, .int a1] K (Fx_ok adK adV) hs (c_X3_size hc3) km_X6_142 kI_X3_size kS_X3_size ki_X3 kC_X3_size mw_X3_size ⟨by decide, by decide, by decide, by decide⟩ rfl rfl rfl rfl (Nat.le_of_ble_eq_true rfl) dX6_end_6 rfl ?_
  obtain ⟨r5, S4, hc6, hf⟩ := bd2_some hf
  refine g_callSi 12 [] K (Fx_ok adK adV) hs (c_X6_within hc6) km_X6_66 kt_X6_within ki_X6 kC_X6_within mw_X6_within ⟨by decide, by decide, by decide, by decide⟩ rfl rfl (Nat.le_of_ble_eq_true rfl) dX6_end_9 rfl ?_
  refine g_if_ne 17 15 K hf dX6_end_12 (by decide) rfl (fun hf => ?_) (fun hf => ?_)
  · refine g_iconst 16 (-1) K dX6_end_15 rfl (by decide) ?_
    exact g_iret K hr hlk hf dX6_end_16
  · refine g_aload_n 18 0 K dX6_end_17 rfl rfl rfl ?_
    refine gf_C_0_3 21 K dX6_end_18 rfl ?_
    refine g_iload_n 22 1 K dX6_end_21 rfl rfl rfl ?_
    obtain ⟨S7, hc9, hf⟩ := bd_some hf
    refine g_callVv 25 24 [] K (Fx_ok adK adV) hs (c_X3_cutTo hc9) km_X6_148 kI_X3_cutTo kS_X3_cutTo ki_X3 kC_X3_cutTo mw_X3_cutTo ⟨by decide, by decide, by decide, by decide⟩ rfl rfl rfl rfl (Nat.le_of_ble_eq_true rfl) dX6_end_22 rfl ?_
    refine g_iload_n 26 1 K dX6_end_25 rfl rfl rfl ?_
    exact g_iret K hr hlk hf dX6_end_26
def f_X5_tokenIs_24_0 (N n : Nat) (S : St)  : Option (Int32 × St) :=
  if ((S.1 2605) - (S.1 2607)) = 4 then
    loop1 (fun (k1 : St → Int32 → Option (Int32 × St)) (S2 : St) (x3 : Int32) =>
      if 4 ≤ x3 then
        zr 1 S2
      else
        bd2 (f_X3_byteAt N n S2 ((S2.1 2607) + x3)) fun r6 S5 =>
        (rd (txc 0) (txl 0) x3).bind fun x8 =>
        if r6 = x8 then
          k1 S5 (x3 + 1)
        else
          zr 0 S5) N S 0
  else
    zr 0 S
set_option maxRecDepth 20000 in
set_option maxHeartbeats 4000000 in
theorem c_X5_tokenIs_24_0 {l : Launch} {D : va_G} {q : Nat → Nat} {n : Nat} {cI cB cZ : ClassId} {adK adV : Nat → Nat} {N : Nat} {S Sz : St} {rz : Int32}  (hf : f_X5_tokenIs_24_0 N n S  = some (rz, Sz)) : Cn l yX5_tokenIs cX5_tokenIs 4 (some .boolean) 4 85 D (tyL cI cB cZ) (Fx adK adV) (wC q n cI cB cZ) [.ref (q 26), .ref (q 24), .ref (adK 0)] S (some (.int rz)) Sz := by
  refine c_of (by decide) fl_wC (Nat.le_of_ble_eq_true rfl) [(0, .ref (q 26)), (1, .ref (q 24)), (2, .ref (adK 0))] rfl ?_
  intro p e s m args below meth c K hr hlk hs
  have K : Ok p s m args c cX5_tokenIs 4 RX5 D (tyL cI cB cZ) (Aw (wC q n cI cB cZ) s.heap.size) (wC q n cI cB cZ) := K
  unfold f_X5_tokenIs_24_0 at hf
  refine g_aload_n 1 0 K dX5_tokenIs_0 rfl rfl rfl ?_
  refine gf_C_26_5 4 K dX5_tokenIs_1 rfl ?_
  refine g_aload_n 5 0 K dX5_tokenIs_4 rfl rfl rfl ?_
  refine gf_C_26_7 8 K dX5_tokenIs_5 rfl ?_
  refine g_isub 9 K dX5_tokenIs_8 rfl ?_
  refine g_aload_n 10 2 K dX5_tokenIs_9 rfl rfl rfl ?_
  refine g_slen 13 0 4 [.int ((S.1 2605) - (S.1 2607))] fl_wC (by decide) (by decide) K hs ⟨by decide, by decide, by decide, by decide⟩ (Nat.le_of_ble_eq_true rfl) dX5_tokenIs_10 rfl ?_
  refine g_icmp_eq 18 16 K hf dX5_tokenIs_13 (by decide) rfl (fun hf => ?_) (fun hf => ?_)
  · refine g_iconst 19 0 K dX5_tokenIs_18 rfl (by decide) ?_
    refine g_istore_n (lv' := [(3, .int 0), (0, .ref (q 26)), (1, .ref (q 24)), (2, .ref (adK 0))]) 20 3 K dX5_tokenIs_19 rfl rfl (by decide) rfl ?_
    refine g_sub [1, 2, 3, 0] rfl ?_
    refine g_loop1 (fun (x3 : Int32) => [(0, .ref (q 26)), (1, .ref (q 24)), (2, .ref (adK 0)), (3, .int x3)]) hf ?_
    intro k1 S2 x3 hk4 hf
    refine g_iload_n 21 3 K dX5_tokenIs_20 rfl rfl rfl ?_
    refine g_aload_n 22 2 K dX5_tokenIs_21 rfl rfl rfl ?_
    refine g_slen 25 0 4 [.int x3] fl_wC (by decide) (by decide) K hs ⟨by decide, by decide, by decide, by decide⟩ (Nat.le_of_ble_eq_true rfl) dX5_tokenIs_22 rfl ?_
    refine g_icmp_ge 54 28 K hf dX5_tokenIs_25 (by decide) rfl (fun hf => ?_) (fun hf => ?_)
    · refine g_iconst 55 1 K dX5_tokenIs_54 rfl (by decide) ?_
      exact g_zret K hr hlk hf dX5_tokenIs_55
    · refine g_aload_n 29 1 K dX5_tokenIs_28 rfl rfl rfl ?_
      refine g_aload_n 30 0 K dX5_tokenIs_29 rfl rfl rfl ?_
      refine gf_C_26_7 33 K dX5_tokenIs_30 rfl ?_
      refine g_iload_n 34 3 K dX5_tokenIs_33 rfl rfl rfl ?_
      refine g_iadd 35 K dX5_tokenIs_34 rfl ?_
      obtain ⟨r6, S5, hc7, hf⟩ := bd2_some hf
      refine g_callVi 38 24 [] K (Fx_ok adK adV) hs (c_X3_byteAt hc7) km_X5_68 kI_X3_byteAt kS_X3_byteAt ki_X3 kC_X3_byteAt mw_X3_byteAt ⟨by decide, by decide, by decide, by decide⟩ rfl rfl rfl rfl (Nat.le_of_ble_eq_true rfl) dX5_tokenIs_35 rfl ?_
      refine g_aload_n 39 2 K dX5_tokenIs_38 rfl rfl rfl ?_
      refine g_iload_n 40 3 K dX5_tokenIs_39 rfl rfl rfl ?_
      refine g_schar 43 0 [.int r6] fl_wC (by decide) K hs hf ⟨by decide, by decide, by decide, by decide⟩ (Nat.le_of_ble_eq_true rfl) dX5_tokenIs_40 rfl (fun x8 hf => ?_)
      refine g_icmp_eq 48 46 K hf dX5_tokenIs_43 (by decide) rfl (fun hf => ?_) (fun hf => ?_)
      · refine g_iinc (lv' := [(3, .int (x3 + 1)), (0, .ref (q 26)), (1, .ref (q 24)), (2, .ref (adK 0))]) 51 3 1 K dX5_tokenIs_48 rfl rfl (by decide) (by decide) rfl ?_
        refine g_goto 20 K dX5_tokenIs_51 (by decide) ?_
        exact g_sub [1, 2, 3, 0] rfl (hk4 _ _ hf)
      · refine g_iconst 47 0 K dX5_tokenIs_46 rfl (by decide) ?_
        exact g_zret K hr hlk hf dX5_tokenIs_47
  · refine g_iconst 17 0 K dX5_tokenIs_16 rfl (by decide) ?_
    exact g_zret K hr hlk hf dX5_tokenIs_17
def f_X5_tokenIs_24_1 (N n : Nat) (S : St)  : Option (Int32 × St) :=
  if ((S.1 2605) - (S.1 2607)) = 5 then
    loop1 (fun (k1 : St → Int32 → Option (Int32 × St)) (S2 : St) (x3 : Int32) =>
      if 5 ≤ x3 then
        zr 1 S2
      else
        bd2 (f_X3_byteAt N n S2 ((S2.1 2607) + x3)) fun r6 S5 =>
        (rd (txc 1) (txl 1) x3).bind fun x8 =>
        if r6 = x8 then
          k1 S5 (x3 + 1)
        else
          zr 0 S5) N S 0
  else
    zr 0 S
set_option maxRecDepth 20000 in
set_option maxHeartbeats 4000000 in
theorem c_X5_tokenIs_24_1 {l : Launch} {D : va_G} {q : Nat → Nat} {n : Nat} {cI cB cZ : ClassId} {adK adV : Nat → Nat} {N : Nat} {S Sz : St} {rz : Int32}  (hf : f_X5_tokenIs_24_1 N n S  = some (rz, Sz)) : Cn l yX5_tokenIs cX5_tokenIs 4 (some .boolean) 4 85 D (tyL cI cB cZ) (Fx adK adV) (wC q n cI cB cZ) [.ref (q 26), .ref (q 24), .ref (adK 1)] S (some (.int rz)) Sz := by
  refine c_of (by decide) fl_wC (Nat.le_of_ble_eq_true rfl) [(0, .ref (q 26)), (1, .ref (q 24)), (2, .ref (adK 1))] rfl ?_
  intro p e s m args below meth c K hr hlk hs
  have K : Ok p s m args c cX5_tokenIs 4 RX5 D (tyL cI cB cZ) (Aw (wC q n cI cB cZ) s.heap.size) (wC q n cI cB cZ) := K
  unfold f_X5_tokenIs_24_1 at hf
  refine g_aload_n 1 0 K dX5_tokenIs_0 rfl rfl rfl ?_
  refine gf_C_26_5 4 K dX5_tokenIs_1 rfl ?_
  refine g_aload_n 5 0 K dX5_tokenIs_4 rfl rfl rfl ?_
  refine gf_C_26_7 8 K dX5_tokenIs_5 rfl ?_
  refine g_isub 9 K dX5_tokenIs_8 rfl ?_
  refine g_aload_n 10 2 K dX5_tokenIs_9 rfl rfl rfl ?_
  refine g_slen 13 1 5 [.int ((S.1 2605) - (S.1 2607))] fl_wC (by decide) (by decide) K hs ⟨by decide, by decide, by decide, by decide⟩ (Nat.le_of_ble_eq_true rfl) dX5_tokenIs_10 rfl ?_
  refine g_icmp_eq 18 16 K hf dX5_tokenIs_13 (by decide) rfl (fun hf => ?_) (fun hf => ?_)
  · refine g_iconst 19 0 K dX5_tokenIs_18 rfl (by decide) ?_
    refine g_istore_n (lv' := [(3, .int 0), (0, .ref (q 26)), (1, .ref (q 24)), (2, .ref (adK 1))]) 20 3 K dX5_tokenIs_19 rfl rfl (by decide) rfl ?_
    refine g_sub [1, 2, 3, 0] rfl ?_
    refine g_loop1 (fun (x3 : Int32) => [(0, .ref (q 26)), (1, .ref (q 24)), (2, .ref (adK 1)), (3, .int x3)]) hf ?_
    intro k1 S2 x3 hk4 hf
    refine g_iload_n 21 3 K dX5_tokenIs_20 rfl rfl rfl ?_
    refine g_aload_n 22 2 K dX5_tokenIs_21 rfl rfl rfl ?_
    refine g_slen 25 1 5 [.int x3] fl_wC (by decide) (by decide) K hs ⟨by decide, by decide, by decide, by decide⟩ (Nat.le_of_ble_eq_true rfl) dX5_tokenIs_22 rfl ?_
    refine g_icmp_ge 54 28 K hf dX5_tokenIs_25 (by decide) rfl (fun hf => ?_) (fun hf => ?_)
    · refine g_iconst 55 1 K dX5_tokenIs_54 rfl (by decide) ?_
      exact g_zret K hr hlk hf dX5_tokenIs_55
    · refine g_aload_n 29 1 K dX5_tokenIs_28 rfl rfl rfl ?_
      refine g_aload_n 30 0 K dX5_tokenIs_29 rfl rfl rfl ?_
      refine gf_C_26_7 33 K dX5_tokenIs_30 rfl ?_
      refine g_iload_n 34 3 K dX5_tokenIs_33 rfl rfl rfl ?_
      refine g_iadd 35 K dX5_tokenIs_34 rfl ?_
      obtain ⟨r6, S5, hc7, hf⟩ := bd2_some hf
      refine g_callVi 38 24 [] K (Fx_ok adK adV) hs (c_X3_byteAt hc7) km_X5_68 kI_X3_byteAt kS_X3_byteAt ki_X3 kC_X3_byteAt mw_X3_byteAt ⟨by decide, by decide, by decide, by decide⟩ rfl rfl rfl rfl (Nat.le_of_ble_eq_true rfl) dX5_tokenIs_35 rfl ?_
      refine g_aload_n 39 2 K dX5_tokenIs_38 rfl rfl rfl ?_
      refine g_iload_n 40 3 K dX5_tokenIs_39 rfl rfl rfl ?_
      refine g_schar 43 1 [.int r6] fl_wC (by decide) K hs hf ⟨by decide, by decide, by decide, by decide⟩ (Nat.le_of_ble_eq_true rfl) dX5_tokenIs_40 rfl (fun x8 hf => ?_)
      refine g_icmp_eq 48 46 K hf dX5_tokenIs_43 (by decide) rfl (fun hf => ?_) (fun hf => ?_)
      · refine g_iinc (lv' := [(3, .int (x3 + 1)), (0, .ref (q 26)), (1, .ref (q 24)), (2, .ref (adK 1))]) 51 3 1 K dX5_tokenIs_48 rfl rfl (by decide) (by decide) rfl ?_
        refine g_goto 20 K dX5_tokenIs_51 (by decide) ?_
        exact g_sub [1, 2, 3, 0] rfl (hk4 _ _ hf)
      · refine g_iconst 47 0 K dX5_tokenIs_46 rfl (by decide) ?_
        exact g_zret K hr hlk hf dX5_tokenIs_47
  · refine g_iconst 17 0 K dX5_tokenIs_16 rfl (by decide) ?_
    exact g_zret K hr hlk hf dX5_tokenIs_17
def f_X5_takeLetters_24 (N n : Nat) (S : St)  : Option St :=
  loop0 (fun (k1 : St → Option St) (S2 : St) =>
    bd2 (f_X3_size N n S2 ) fun r5 S4 =>
    lett (fun (S8 : St) =>
      bd2 (f_X5_tokenIs_24_0 N n S8 ) fun r11 S10 =>
      if r11 = 0 then
        bd2 (f_X5_tokenIs_24_1 N n S10 ) fun r14 S13 =>
        if r14 = 0 then
          lett (pF S13 2606 5) fun S16 =>
          some S16
        else
          lett (pF S13 2606 2) fun S17 =>
          some S17
      else
        lett (pF S10 2606 1) fun S18 =>
        some S18) fun j7 =>
    if r5 ≤ (S2.1 2605) then
      j7 S4 
    else
      bd2 (f_X3_byteAt N n S4 (S4.1 2605)) fun r20 S19 =>
      bd2 (f_X5_isLetter N n S19 r20) fun r23 S22 =>
      if r23 = 0 then
        j7 S22 
      else
        lett (pF S22 2605 ((S22.1 2605) + 1)) fun S25 =>
        k1 S25 ) N S 
set_option maxRecDepth 20000 in
set_option maxHeartbeats 4000000 in
theorem c_X5_takeLetters_24 {l : Launch} {D : va_G} {q : Nat → Nat} {n : Nat} {cI cB cZ : ClassId} {adK adV : Nat → Nat} {N : Nat} {S Sz : St}  (hf : f_X5_takeLetters_24 N n S  = some Sz) : Cn l yX5_takeLetters cX5_takeLetters 2 none 5 108 D (tyL cI cB cZ) (Fx adK adV) (wC q n cI cB cZ) [.ref (q 26), .ref (q 24)] S none Sz := by
  refine c_of (by decide) fl_wC (Nat.le_of_ble_eq_true rfl) [(0, .ref (q 26)), (1, .ref (q 24))] rfl ?_
  intro p e s m args below meth c K hr hlk hs
  have K : Ok p s m args c cX5_takeLetters 2 RX5 D (tyL cI cB cZ) (Aw (wC q n cI cB cZ) s.heap.size) (wC q n cI cB cZ) := K
  unfold f_X5_takeLetters_24 at hf
  refine g_sub [0, 1] rfl ?_
  refine g_loop0 [(0, .ref (q 26)), (1, .ref (q 24))] hf ?_
  intro k1 S2  hk3 hf
  refine g_aload_n 1 0 K dX5_takeLetters_0 rfl rfl rfl ?_
  refine gf_C_26_5 4 K dX5_takeLetters_1 rfl ?_
  refine g_aload_n 5 1 K dX5_takeLetters_4 rfl rfl rfl ?_
  obtain ⟨r5, S4, hc6, hf⟩ := bd2_some hf
  refine g_callVi 8 24 [.int (S2.1 2605)] K (Fx_ok adK adV) hs (c_X3_size hc6) km_X5_37 kI_X3_size kS_X3_size ki_X3 kC_X3_size mw_X3_size ⟨by decide, by decide, by decide, by decide⟩ rfl rfl rfl rfl (Nat.le_of_ble_eq_true rfl) dX5_takeLetters_5 rfl ?_
  refine g_join0 38 [(0, .ref (q 26)), (1, .ref (q 24))] [] hf (fun S8  hf => ?_) (fun j7 hj9 hf => ?_)
  · refine g_aload_n 39 0 K dX5_takeLetters_38 rfl rfl rfl ?_
    refine g_aload_n 40 1 K dX5_takeLetters_39 rfl rfl rfl ?_
    refine g_ldcS 42 K hs.2.1.1 dX5_takeLetters_40 rfl ?_
    obtain ⟨r11, S10, hc12, hf⟩ := bd2_some hf
    refine g_callVi 45 26 [] K (Fx_ok adK adV) hs (c_X5_tokenIs_24_0 hc12) km_X5_93 kI_X5_tokenIs kS_X5_tokenIs ki_X5 kC_X5_tokenIs mw_X5_tokenIs ⟨by decide, by decide, by decide, by decide⟩ rfl rfl rfl rfl (Nat.le_of_ble_eq_true rfl) dX5_takeLetters_42 rfl ?_
    refine g_if_eq 56 48 K hf dX5_takeLetters_45 (by decide) rfl (fun hf => ?_) (fun hf => ?_)
    · refine g_aload_n 57 0 K dX5_takeLetters_56 rfl rfl rfl ?_
      refine g_aload_n 58 0 K dX5_takeLetters_57 rfl rfl rfl ?_
      refine g_aload_n 59 1 K dX5_takeLetters_58 rfl rfl rfl ?_
      refine g_ldcS 61 K hs.2.1.2 dX5_takeLetters_59 rfl ?_
      obtain ⟨r14, S13, hc15, hf⟩ := bd2_some hf
      refine g_callVi 64 26 [.ref (q 26)] K (Fx_ok adK adV) hs (c_X5_tokenIs_24_1 hc15) km_X5_93 kI_X5_tokenIs kS_X5_tokenIs ki_X5 kC_X5_tokenIs mw_X5_tokenIs ⟨by decide, by decide, by decide, by decide⟩ rfl rfl rfl rfl (Nat.le_of_ble_eq_true rfl) dX5_takeLetters_61 rfl ?_
      refine g_if_eq 71 67 K hf dX5_takeLetters_64 (by decide) rfl (fun hf => ?_) (fun hf => ?_)
      · refine g_iconst 72 5 K dX5_takeLetters_71 rfl (by decide) ?_
        refine pf_C_26_6 75 K hf dX5_takeLetters_72 rfl (fun S16 hf => ?_)
        exact g_vret K hr hlk hf dX5_takeLetters_75
      · refine g_iconst 68 2 K dX5_takeLetters_67 rfl (by decide) ?_
        refine g_goto 72 K dX5_takeLetters_68 (by decide) ?_
        refine pf_C_26_6 75 K hf dX5_takeLetters_72 rfl (fun S17 hf => ?_)
        exact g_vret K hr hlk hf dX5_takeLetters_75
    · refine g_aload_n 49 0 K dX5_takeLetters_48 rfl rfl rfl ?_
      refine g_iconst 50 1 K dX5_takeLetters_49 rfl (by decide) ?_
      refine pf_C_26_6 53 K hf dX5_takeLetters_50 rfl (fun S18 hf => ?_)
      refine g_goto 75 K dX5_takeLetters_53 (by decide) ?_
      exact g_vret K hr hlk hf dX5_takeLetters_75
  · refine g_icmp_ge 38 11 K hf dX5_takeLetters_8 (by decide) rfl (fun hf => ?_) (fun hf => ?_)
    · exact g_sub [0, 1] rfl (hj9 _ hf)
    · refine g_aload_n 12 1 K dX5_takeLetters_11 rfl rfl rfl ?_
      refine g_aload_n 13 0 K dX5_takeLetters_12 rfl rfl rfl ?_
      refine gf_C_26_5 16 K dX5_takeLetters_13 rfl ?_
      obtain ⟨r20, S19, hc21, hf⟩ := bd2_some hf
      refine g_callVi 19 24 [] K (Fx_ok adK adV) hs (c_X3_byteAt hc21) km_X5_68 kI_X3_byteAt kS_X3_byteAt ki_X3 kC_X3_byteAt mw_X3_byteAt ⟨by decide, by decide, by decide, by decide⟩ rfl rfl rfl rfl (Nat.le_of_ble_eq_true rfl) dX5_takeLetters_16 rfl ?_
      obtain ⟨r23, S22, hc24, hf⟩ := bd2_some hf
      refine g_callSi 22 [] K (Fx_ok adK adV) hs (c_X5_isLetter hc24) km_X5_79 kt_X5_isLetter ki_X5 kC_X5_isLetter mw_X5_isLetter ⟨by decide, by decide, by decide, by decide⟩ rfl rfl (Nat.le_of_ble_eq_true rfl) dX5_takeLetters_19 rfl ?_
      refine g_if_eq 38 25 K hf dX5_takeLetters_22 (by decide) rfl (fun hf => ?_) (fun hf => ?_)
      · exact g_sub [0, 1] rfl (hj9 _ hf)
      · refine g_aload_n 26 0 K dX5_takeLetters_25 rfl rfl rfl ?_
        refine g_dup 27 K dX5_takeLetters_26 rfl rfl ?_
        refine gf_C_26_5 30 K dX5_takeLetters_27 rfl ?_
        refine g_iconst 31 1 K dX5_takeLetters_30 rfl (by decide) ?_
        refine g_iadd 32 K dX5_takeLetters_31 rfl ?_
        refine pf_C_26_5 35 K hf dX5_takeLetters_32 rfl (fun S25 hf => ?_)
        refine g_goto 0 K dX5_takeLetters_35 (by decide) ?_
        exact g_sub [0, 1] rfl (hk3 _ hf)
def f_X5_takeDigits_24 (N n : Nat) (S : St)  : Option St :=
  lett (pF S 2606 3) fun S1 =>
  lett (pF S1 2608 0) fun S2 =>
  loop0 (fun (k3 : St → Option St) (S4 : St) =>
    bd2 (f_X3_size N n S4 ) fun r7 S6 =>
    if r7 ≤ (S4.1 2605) then
      some S6
    else
      bd2 (f_X3_byteAt N n S6 (S6.1 2605)) fun r10 S9 =>
      bd2 (f_X5_isDigit N n S9 r10) fun r13 S12 =>
      if r13 = 0 then
        some S12
      else
        bd2 (f_X3_byteAt N n S12 (S12.1 2605)) fun r16 S15 =>
        lett (pF S15 2608 (if (1000 : Int32) < ((((S12.1 2608) * 10) + r16) - 48) then 1000 else ((((S12.1 2608) * 10) + r16) - 48))) fun S18 =>
        lett (pF S18 2605 ((S18.1 2605) + 1)) fun S19 =>
        k3 S19 ) N S2 
set_option maxRecDepth 20000 in
set_option maxHeartbeats 4000000 in
theorem c_X5_takeDigits_24 {l : Launch} {D : va_G} {q : Nat → Nat} {n : Nat} {cI cB cZ : ClassId} {adK adV : Nat → Nat} {N : Nat} {S Sz : St}  (hf : f_X5_takeDigits_24 N n S  = some Sz) : Cn l yX5_takeDigits cX5_takeDigits 3 none 2 43 D (tyL cI cB cZ) (Fx adK adV) (wC q n cI cB cZ) [.ref (q 26), .ref (q 24)] S none Sz := by
  refine c_of (by decide) fl_wC (Nat.le_of_ble_eq_true rfl) [(0, .ref (q 26)), (1, .ref (q 24))] rfl ?_
  intro p e s m args below meth c K hr hlk hs
  have K : Ok p s m args c cX5_takeDigits 3 RX5 D (tyL cI cB cZ) (Aw (wC q n cI cB cZ) s.heap.size) (wC q n cI cB cZ) := K
  unfold f_X5_takeDigits_24 at hf
  refine g_aload_n 1 0 K dX5_takeDigits_0 rfl rfl rfl ?_
  refine g_iconst 2 3 K dX5_takeDigits_1 rfl (by decide) ?_
  refine pf_C_26_6 5 K hf dX5_takeDigits_2 rfl (fun S1 hf => ?_)
  refine g_aload_n 6 0 K dX5_takeDigits_5 rfl rfl rfl ?_
  refine g_iconst 7 0 K dX5_takeDigits_6 rfl (by decide) ?_
  refine pf_C_26_8 10 K hf dX5_takeDigits_7 rfl (fun S2 hf => ?_)
  refine g_sub [0, 1] rfl ?_
  refine g_loop0 [(0, .ref (q 26)), (1, .ref (q 24))] hf ?_
  intro k3 S4  hk5 hf
  refine g_aload_n 11 0 K dX5_takeDigits_10 rfl rfl rfl ?_
  refine gf_C_26_5 14 K dX5_takeDigits_11 rfl ?_
  refine g_aload_n 15 1 K dX5_takeDigits_14 rfl rfl rfl ?_
  obtain ⟨r7, S6, hc8, hf⟩ := bd2_some hf
  refine g_callVi 18 24 [.int (S4.1 2605)] K (Fx_ok adK adV) hs (c_X3_size hc8) km_X5_37 kI_X3_size kS_X3_size ki_X3 kC_X3_size mw_X3_size ⟨by decide, by decide, by decide, by decide⟩ rfl rfl rfl rfl (Nat.le_of_ble_eq_true rfl) dX5_takeDigits_15 rfl ?_
  refine g_icmp_ge 79 21 K hf dX5_takeDigits_18 (by decide) rfl (fun hf => ?_) (fun hf => ?_)
  · exact g_vret K hr hlk hf dX5_takeDigits_79
  · refine g_aload_n 22 1 K dX5_takeDigits_21 rfl rfl rfl ?_
    refine g_aload_n 23 0 K dX5_takeDigits_22 rfl rfl rfl ?_
    refine gf_C_26_5 26 K dX5_takeDigits_23 rfl ?_
    obtain ⟨r10, S9, hc11, hf⟩ := bd2_some hf
    refine g_callVi 29 24 [] K (Fx_ok adK adV) hs (c_X3_byteAt hc11) km_X5_68 kI_X3_byteAt kS_X3_byteAt ki_X3 kC_X3_byteAt mw_X3_byteAt ⟨by decide, by decide, by decide, by decide⟩ rfl rfl rfl rfl (Nat.le_of_ble_eq_true rfl) dX5_takeDigits_26 rfl ?_
    obtain ⟨r13, S12, hc14, hf⟩ := bd2_some hf
    refine g_callSi 32 [] K (Fx_ok adK adV) hs (c_X5_isDigit hc14) km_X5_72 kt_X5_isDigit ki_X5 kC_X5_isDigit mw_X5_isDigit ⟨by decide, by decide, by decide, by decide⟩ rfl rfl (Nat.le_of_ble_eq_true rfl) dX5_takeDigits_29 rfl ?_
    refine g_if_eq 79 35 K hf dX5_takeDigits_32 (by decide) rfl (fun hf => ?_) (fun hf => ?_)
    · exact g_vret K hr hlk hf dX5_takeDigits_79
    · refine g_aload_n 36 0 K dX5_takeDigits_35 rfl rfl rfl ?_
      refine gf_C_26_8 39 K dX5_takeDigits_36 rfl ?_
      refine g_bipush 41 10 K dX5_takeDigits_39 rfl (by decide) ?_
      refine g_imul 42 K dX5_takeDigits_41 rfl ?_
      refine g_aload_n 43 1 K dX5_takeDigits_42 rfl rfl rfl ?_
      refine g_aload_n 44 0 K dX5_takeDigits_43 rfl rfl rfl ?_
      refine gf_C_26_5 47 K dX5_takeDigits_44 rfl ?_
      obtain ⟨r16, S15, hc17, hf⟩ := bd2_some hf
      refine g_callVi 50 24 [.int ((S12.1 2608) * 10)] K (Fx_ok adK adV) hs (c_X3_byteAt hc17) km_X5_68 kI_X3_byteAt kS_X3_byteAt ki_X3 kC_X3_byteAt mw_X3_byteAt ⟨by decide, by decide, by decide, by decide⟩ rfl rfl rfl rfl (Nat.le_of_ble_eq_true rfl) dX5_takeDigits_47 rfl ?_
      refine g_iadd 51 K dX5_takeDigits_50 rfl ?_
      refine g_bipush 53 48 K dX5_takeDigits_51 rfl (by decide) ?_
      refine g_isub 54 K dX5_takeDigits_53 rfl ?_
      refine g_istore_n (lv' := [(2, .int ((((S12.1 2608) * 10) + r16) - 48)), (0, .ref (q 26)), (1, .ref (q 24))]) 55 2 K dX5_takeDigits_54 rfl rfl (by decide) rfl ?_
      refine g_aload_n 56 1 K dX5_takeDigits_55 rfl rfl rfl ?_
      refine g_iload_n 57 0 K dX5_takeDigits_56 rfl rfl rfl ?_
      refine g_sipush 60 1000 K dX5_takeDigits_57 rfl (by decide) ?_
      refine g_mmin 63 K km_X5_88 kt_J9_min_7cf53 ki_J9 kC_J9_min_7cf53 ⟨by decide, Nat.le_of_ble_eq_true rfl, by decide, by decide⟩ dX5_takeDigits_60 rfl ?_
      refine pf_C_26_8 66 K hf dX5_takeDigits_63 rfl (fun S18 hf => ?_)
      refine g_aload_n 67 1 K dX5_takeDigits_66 rfl rfl rfl ?_
      refine g_dup 68 K dX5_takeDigits_67 rfl rfl ?_
      refine gf_C_26_5 71 K dX5_takeDigits_68 rfl ?_
      refine g_iconst 72 1 K dX5_takeDigits_71 rfl (by decide) ?_
      refine g_iadd 73 K dX5_takeDigits_72 rfl ?_
      refine pf_C_26_5 76 K hf dX5_takeDigits_73 rfl (fun S19 hf => ?_)
      refine g_goto 10 K dX5_takeDigits_76 (by decide) ?_
      exact g_sub [1, 2] rfl (hk5 _ hf)
def f_X5_nextToken_24 (N n : Nat) (S : St)  : Option St :=
  loop0 (fun (k1 : St → Option St) (S2 : St) =>
    bd2 (f_X3_size N n S2 ) fun r5 S4 =>
    lett (fun (S8 : St) =>
      lett (pF S8 2607 (S8.1 2605)) fun S10 =>
      bd2 (f_X3_byteAt N n S10 (S10.1 2605)) fun r12 S11 =>
      bd2 (f_X3_size N n S11 ) fun r15 S14 =>
      if (S11.1 2605) < r15 then
        bd2 (f_X5_isDigit N n S14 r12) fun r18 S17 =>
        if r18 = 0 then
          bd2 (f_X5_isLetter N n S17 r12) fun r21 S20 =>
          if r21 = 0 then
            lett (pF S20 2605 ((S20.1 2605) + 1)) fun S23 =>
            if r12 = 59 then
              lett (pF S23 2606 4) fun S25 =>
              some S25
            else
              lett (pF S23 2606 5) fun S24 =>
              some S24
          else
            (f_X5_takeLetters_24 N n S20 ).bind fun S26 =>
            some S26
        else
          (f_X5_takeDigits_24 N n S17 ).bind fun S29 =>
          some S29
      else
        lett (pF S14 2606 0) fun S32 =>
        some S32) fun j7 =>
    if r5 ≤ (S2.1 2605) then
      j7 S4 
    else
      bd2 (f_X3_byteAt N n S4 (S4.1 2605)) fun r34 S33 =>
      if r34 = 32 then
        lett (pF S33 2605 ((S33.1 2605) + 1)) fun S36 =>
        k1 S36 
      else
        j7 S33 ) N S 
set_option maxRecDepth 20000 in
set_option maxHeartbeats 4000000 in
theorem c_X5_nextToken_24 {l : Launch} {D : va_G} {q : Nat → Nat} {n : Nat} {cI cB cZ : ClassId} {adK adV : Nat → Nat} {N : Nat} {S Sz : St}  (hf : f_X5_nextToken_24 N n S  = some Sz) : Cn l yX5_nextToken cX5_nextToken 3 none 6 129 D (tyL cI cB cZ) (Fx adK adV) (wC q n cI cB cZ) [.ref (q 26), .ref (q 24)] S none Sz := by
  refine c_of (by decide) fl_wC (Nat.le_of_ble_eq_true rfl) [(0, .ref (q 26)), (1, .ref (q 24))] rfl ?_
  intro p e s m args below meth c K hr hlk hs
  have K : Ok p s m args c cX5_nextToken 3 RX5 D (tyL cI cB cZ) (Aw (wC q n cI cB cZ) s.heap.size) (wC q n cI cB cZ) := K
  unfold f_X5_nextToken_24 at hf
  refine g_sub [0, 1] rfl ?_
  refine g_loop0 [(0, .ref (q 26)), (1, .ref (q 24))] hf ?_
  intro k1 S2  hk3 hf
  refine g_aload_n 1 0 K dX5_nextToken_0 rfl rfl rfl ?_
  refine gf_C_26_5 4 K dX5_nextToken_1 rfl ?_
  refine g_aload_n 5 1 K dX5_nextToken_4 rfl rfl rfl ?_
  obtain ⟨r5, S4, hc6, hf⟩ := bd2_some hf
  refine g_callVi 8 24 [.int (S2.1 2605)] K (Fx_ok adK adV) hs (c_X3_size hc6) km_X5_37 kI_X3_size kS_X3_size ki_X3 kC_X3_size mw_X3_size ⟨by decide, by decide, by decide, by decide⟩ rfl rfl rfl rfl (Nat.le_of_ble_eq_true rfl) dX5_nextToken_5 rfl ?_
  refine g_join0 37 [(0, .ref (q 26)), (1, .ref (q 24))] [] hf (fun S8  hf => ?_) (fun j7 hj9 hf => ?_)
  · refine g_aload_n 38 0 K dX5_nextToken_37 rfl rfl rfl ?_
    refine g_aload_n 39 0 K dX5_nextToken_38 rfl rfl rfl ?_
    refine gf_C_26_5 42 K dX5_nextToken_39 rfl ?_
    refine pf_C_26_7 45 K hf dX5_nextToken_42 rfl (fun S10 hf => ?_)
    refine g_aload_n 46 1 K dX5_nextToken_45 rfl rfl rfl ?_
    refine g_aload_n 47 0 K dX5_nextToken_46 rfl rfl rfl ?_
    refine gf_C_26_5 50 K dX5_nextToken_47 rfl ?_
    obtain ⟨r12, S11, hc13, hf⟩ := bd2_some hf
    refine g_callVi 53 24 [] K (Fx_ok adK adV) hs (c_X3_byteAt hc13) km_X5_68 kI_X3_byteAt kS_X3_byteAt ki_X3 kC_X3_byteAt mw_X3_byteAt ⟨by decide, by decide, by decide, by decide⟩ rfl rfl rfl rfl (Nat.le_of_ble_eq_true rfl) dX5_nextToken_50 rfl ?_
    refine g_istore_n (lv' := [(2, .int r12), (0, .ref (q 26)), (1, .ref (q 24))]) 54 2 K dX5_nextToken_53 rfl rfl (by decide) rfl ?_
    refine g_aload_n 55 1 K dX5_nextToken_54 rfl rfl rfl ?_
    refine gf_C_26_5 58 K dX5_nextToken_55 rfl ?_
    refine g_aload_n 59 2 K dX5_nextToken_58 rfl rfl rfl ?_
    obtain ⟨r15, S14, hc16, hf⟩ := bd2_some hf
    refine g_callVi 62 24 [.int (S11.1 2605)] K (Fx_ok adK adV) hs (c_X3_size hc16) km_X5_37 kI_X3_size kS_X3_size ki_X3 kC_X3_size mw_X3_size ⟨by decide, by decide, by decide, by decide⟩ rfl rfl rfl rfl (Nat.le_of_ble_eq_true rfl) dX5_nextToken_59 rfl ?_
    refine g_icmp_lt 73 65 K hf dX5_nextToken_62 (by decide) rfl (fun hf => ?_) (fun hf => ?_)
    · refine g_iload_n 74 0 K dX5_nextToken_73 rfl rfl rfl ?_
      obtain ⟨r18, S17, hc19, hf⟩ := bd2_some hf
      refine g_callSi 77 [] K (Fx_ok adK adV) hs (c_X5_isDigit hc19) km_X5_72 kt_X5_isDigit ki_X5 kC_X5_isDigit mw_X5_isDigit ⟨by decide, by decide, by decide, by decide⟩ rfl rfl (Nat.le_of_ble_eq_true rfl) dX5_nextToken_74 rfl ?_
      refine g_if_eq 88 80 K hf dX5_nextToken_77 (by decide) rfl (fun hf => ?_) (fun hf => ?_)
      · refine g_iload_n 89 0 K dX5_nextToken_88 rfl rfl rfl ?_
        obtain ⟨r21, S20, hc22, hf⟩ := bd2_some hf
        refine g_callSi 92 [] K (Fx_ok adK adV) hs (c_X5_isLetter hc22) km_X5_79 kt_X5_isLetter ki_X5 kC_X5_isLetter mw_X5_isLetter ⟨by decide, by decide, by decide, by decide⟩ rfl rfl (Nat.le_of_ble_eq_true rfl) dX5_nextToken_89 rfl ?_
        refine g_if_eq 103 95 K hf dX5_nextToken_92 (by decide) rfl (fun hf => ?_) (fun hf => ?_)
        · refine g_aload_n 104 1 K dX5_nextToken_103 rfl rfl rfl ?_
          refine g_dup 105 K dX5_nextToken_104 rfl rfl ?_
          refine gf_C_26_5 108 K dX5_nextToken_105 rfl ?_
          refine g_iconst 109 1 K dX5_nextToken_108 rfl (by decide) ?_
          refine g_iadd 110 K dX5_nextToken_109 rfl ?_
          refine pf_C_26_5 113 K hf dX5_nextToken_110 rfl (fun S23 hf => ?_)
          refine g_aload_n 114 1 K dX5_nextToken_113 rfl rfl rfl ?_
          refine g_iload_n 115 0 K dX5_nextToken_114 rfl rfl rfl ?_
          refine g_bipush 117 59 K dX5_nextToken_115 rfl (by decide) ?_
          refine g_icmp_ne 124 120 K hf dX5_nextToken_117 (by decide) rfl (fun hf => ?_) (fun hf => ?_)
          · refine g_iconst 121 4 K dX5_nextToken_120 rfl (by decide) ?_
            refine g_goto 125 K dX5_nextToken_121 (by decide) ?_
            refine pf_C_26_6 128 K hf dX5_nextToken_125 rfl (fun S25 hf => ?_)
            exact g_vret K hr hlk hf dX5_nextToken_128
          · refine g_iconst 125 5 K dX5_nextToken_124 rfl (by decide) ?_
            refine pf_C_26_6 128 K hf dX5_nextToken_125 rfl (fun S24 hf => ?_)
            exact g_vret K hr hlk hf dX5_nextToken_128
        · refine g_aload_n 96 1 K dX5_nextToken_95 rfl rfl rfl ?_
          refine g_aload_n 97 2 K dX5_nextToken_96 rfl rfl rfl ?_
          obtain ⟨S26, hc28, hf⟩ := bd_some hf
          refine g_callVv 100 26 [] K (Fx_ok adK adV) hs (c_X5_takeLetters_24 hc28) km_X5_82 kI_X5_takeLetters kS_X5_takeLetters ki_X5 kC_X5_takeLetters mw_X5_takeLetters ⟨by decide, by decide, by decide, by decide⟩ rfl rfl rfl rfl (Nat.le_of_ble_eq_true rfl) dX5_nextToken_97 rfl ?_
          refine g_goto 128 K dX5_nextToken_100 (by decide) ?_
          exact g_vret K hr hlk hf dX5_nextToken_128
      · refine g_aload_n 81 1 K dX5_nextToken_80 rfl rfl rfl ?_
        refine g_aload_n 82 2 K dX5_nextToken_81 rfl rfl rfl ?_
        obtain ⟨S29, hc31, hf⟩ := bd_some hf
        refine g_callVv 85 26 [] K (Fx_ok adK adV) hs (c_X5_takeDigits_24 hc31) km_X5_76 kI_X5_takeDigits kS_X5_takeDigits ki_X5 kC_X5_takeDigits mw_X5_takeDigits ⟨by decide, by decide, by decide, by decide⟩ rfl rfl rfl rfl (Nat.le_of_ble_eq_true rfl) dX5_nextToken_82 rfl ?_
        refine g_goto 128 K dX5_nextToken_85 (by decide) ?_
        exact g_vret K hr hlk hf dX5_nextToken_128
    · refine g_aload_n 66 1 K dX5_nextToken_65 rfl rfl rfl ?_
      refine g_iconst 67 0 K dX5_nextToken_66 rfl (by decide) ?_
      refine pf_C_26_6 70 K hf dX5_nextToken_67 rfl (fun S32 hf => ?_)
      refine g_goto 128 K dX5_nextToken_70 (by decide) ?_
      exact g_vret K hr hlk hf dX5_nextToken_128
  · refine g_icmp_ge 37 11 K hf dX5_nextToken_8 (by decide) rfl (fun hf => ?_) (fun hf => ?_)
    · exact g_sub [0, 1] rfl (hj9 _ hf)
    · refine g_aload_n 12 1 K dX5_nextToken_11 rfl rfl rfl ?_
      refine g_aload_n 13 0 K dX5_nextToken_12 rfl rfl rfl ?_
      refine gf_C_26_5 16 K dX5_nextToken_13 rfl ?_
      obtain ⟨r34, S33, hc35, hf⟩ := bd2_some hf
      refine g_callVi 19 24 [] K (Fx_ok adK adV) hs (c_X3_byteAt hc35) km_X5_68 kI_X3_byteAt kS_X3_byteAt ki_X3 kC_X3_byteAt mw_X3_byteAt ⟨by decide, by decide, by decide, by decide⟩ rfl rfl rfl rfl (Nat.le_of_ble_eq_true rfl) dX5_nextToken_16 rfl ?_
      refine g_bipush 21 32 K dX5_nextToken_19 rfl (by decide) ?_
      refine g_icmp_ne 37 24 K hf dX5_nextToken_21 (by decide) rfl (fun hf => ?_) (fun hf => ?_)
      · refine g_aload_n 25 0 K dX5_nextToken_24 rfl rfl rfl ?_
        refine g_dup 26 K dX5_nextToken_25 rfl rfl ?_
        refine gf_C_26_5 29 K dX5_nextToken_26 rfl ?_
        refine g_iconst 30 1 K dX5_nextToken_29 rfl (by decide) ?_
        refine g_iadd 31 K dX5_nextToken_30 rfl ?_
        refine pf_C_26_5 34 K hf dX5_nextToken_31 rfl (fun S36 hf => ?_)
        refine g_goto 0 K dX5_nextToken_34 (by decide) ?_
        exact g_sub [0, 1] rfl (hk3 _ hf)
      · exact g_sub [0, 1] rfl (hj9 _ hf)
def f_X5_read_24 (N n : Nat) (S : St)  : Option (Int32 × St) :=
  (f_X5_begin N n S ).bind fun S1 =>
  loop1 (fun (k4 : St → Int32 → Option (Int32 × St)) (S5 : St) (x6 : Int32) =>
    bd2 (f_X3_size N n S5 ) fun r9 S8 =>
    if r9 < x6 then
      zr 1 S8
    else
      (f_X5_nextToken_24 N n S8 ).bind fun S11 =>
      lett (fun (S15 : St) =>
        bd2 (f_X5_takeToken N n S15 ) fun r18 S17 =>
        if r18 = 0 then
          k4 S17 (x6 + 1)
        else
          lett (pF S17 2603 r18) fun S20 =>
          lett (pF S20 2604 (S20.1 2607)) fun S21 =>
          zr 0 S21) fun j14 =>
      if (S11.1 2606) = 0 then
        if (S11.1 2609) = 0 then
          zr 1 S11
        else
          j14 S11 
      else
        j14 S11 ) N S1 0
set_option maxRecDepth 20000 in
set_option maxHeartbeats 4000000 in
theorem c_X5_read_24 {l : Launch} {D : va_G} {q : Nat → Nat} {n : Nat} {cI cB cZ : ClassId} {adK adV : Nat → Nat} {N : Nat} {S Sz : St} {rz : Int32}  (hf : f_X5_read_24 N n S  = some (rz, Sz)) : Cn l yX5_read cX5_read 4 (some .boolean) 7 151 D (tyL cI cB cZ) (Fx adK adV) (wC q n cI cB cZ) [.ref (q 26), .ref (q 24)] S (some (.int rz)) Sz := by
  refine c_of (by decide) fl_wC (Nat.le_of_ble_eq_true rfl) [(0, .ref (q 26)), (1, .ref (q 24))] rfl ?_
  intro p e s m args below meth c K hr hlk hs
  have K : Ok p s m args c cX5_read 4 RX5 D (tyL cI cB cZ) (Aw (wC q n cI cB cZ) s.heap.size) (wC q n cI cB cZ) := K
  unfold f_X5_read_24 at hf
  refine g_aload_n 1 0 K dX5_read_0 rfl rfl rfl ?_
  obtain ⟨S1, hc3, hf⟩ := bd_some hf
  refine g_callVv 4 26 [] K (Fx_ok adK adV) hs (c_X5_begin hc3) km_X5_34 kI_X5_begin kS_X5_begin ki_X5 kC_X5_begin mw_X5_begin ⟨by decide, by decide, by decide, by decide⟩ rfl rfl rfl rfl (Nat.le_of_ble_eq_true rfl) dX5_read_1 rfl ?_
  refine g_iconst 5 0 K dX5_read_4 rfl (by decide) ?_
  refine g_istore_n (lv' := [(2, .int 0), (0, .ref (q 26)), (1, .ref (q 24))]) 6 2 K dX5_read_5 rfl rfl (by decide) rfl ?_
  refine g_sub [1, 2, 0] rfl ?_
  refine g_loop1 (fun (x6 : Int32) => [(0, .ref (q 26)), (1, .ref (q 24)), (2, .int x6)]) hf ?_
  intro k4 S5 x6 hk7 hf
  refine g_iload_n 7 2 K dX5_read_6 rfl rfl rfl ?_
  refine g_aload_n 8 1 K dX5_read_7 rfl rfl rfl ?_
  obtain ⟨r9, S8, hc10, hf⟩ := bd2_some hf
  refine g_callVi 11 24 [.int x6] K (Fx_ok adK adV) hs (c_X3_size hc10) km_X5_37 kI_X3_size kS_X3_size ki_X3 kC_X3_size mw_X3_size ⟨by decide, by decide, by decide, by decide⟩ rfl rfl rfl rfl (Nat.le_of_ble_eq_true rfl) dX5_read_8 rfl ?_
  refine g_icmp_gt 65 14 K hf dX5_read_11 (by decide) rfl (fun hf => ?_) (fun hf => ?_)
  · refine g_iconst 66 1 K dX5_read_65 rfl (by decide) ?_
    exact g_zret K hr hlk hf dX5_read_66
  · refine g_aload_n 15 0 K dX5_read_14 rfl rfl rfl ?_
    refine g_aload_n 16 1 K dX5_read_15 rfl rfl rfl ?_
    obtain ⟨S11, hc13, hf⟩ := bd_some hf
    refine g_callVv 19 26 [] K (Fx_ok adK adV) hs (c_X5_nextToken_24 hc13) km_X5_43 kI_X5_nextToken kS_X5_nextToken ki_X5 kC_X5_nextToken mw_X5_nextToken ⟨by decide, by decide, by decide, by decide⟩ rfl rfl rfl rfl (Nat.le_of_ble_eq_true rfl) dX5_read_16 rfl ?_
    refine g_aload_n 20 0 K dX5_read_19 rfl rfl rfl ?_
    refine gf_C_26_6 23 K dX5_read_20 rfl ?_
    refine g_join0 35 [(0, .ref (q 26)), (1, .ref (q 24)), (2, .int x6)] [] hf (fun S15  hf => ?_) (fun j14 hj16 hf => ?_)
    · refine g_aload_n 36 0 K dX5_read_35 rfl rfl rfl ?_
      obtain ⟨r18, S17, hc19, hf⟩ := bd2_some hf
      refine g_callVi 39 26 [] K (Fx_ok adK adV) hs (c_X5_takeToken hc19) km_X5_53 kI_X5_takeToken kS_X5_takeToken ki_X5 kC_X5_takeToken mw_X5_takeToken ⟨by decide, by decide, by decide, by decide⟩ rfl rfl rfl rfl (Nat.le_of_ble_eq_true rfl) dX5_read_36 rfl ?_
      refine g_istore_n (lv' := [(3, .int r18), (0, .ref (q 26)), (1, .ref (q 24)), (2, .int x6)]) 40 3 K dX5_read_39 rfl rfl (by decide) rfl ?_
      refine g_iload_n 41 0 K dX5_read_40 rfl rfl rfl ?_
      refine g_if_eq 59 44 K hf dX5_read_41 (by decide) rfl (fun hf => ?_) (fun hf => ?_)
      · refine g_iinc (lv' := [(2, .int (x6 + 1)), (3, .int r18), (0, .ref (q 26)), (1, .ref (q 24))]) 62 3 1 K dX5_read_59 rfl rfl (by decide) (by decide) rfl ?_
        refine g_goto 6 K dX5_read_62 (by decide) ?_
        exact g_sub [2, 3, 0] rfl (hk7 _ _ hf)
      · refine g_aload_n 45 1 K dX5_read_44 rfl rfl rfl ?_
        refine g_iload_n 46 0 K dX5_read_45 rfl rfl rfl ?_
        refine pf_C_26_3 49 K hf dX5_read_46 rfl (fun S20 hf => ?_)
        refine g_aload_n 50 1 K dX5_read_49 rfl rfl rfl ?_
        refine g_aload_n 51 1 K dX5_read_50 rfl rfl rfl ?_
        refine gf_C_26_7 54 K dX5_read_51 rfl ?_
        refine pf_C_26_4 57 K hf dX5_read_54 rfl (fun S21 hf => ?_)
        refine g_iconst 58 0 K dX5_read_57 rfl (by decide) ?_
        exact g_zret K hr hlk hf dX5_read_58
    · refine g_if_ne 35 26 K hf dX5_read_23 (by decide) rfl (fun hf => ?_) (fun hf => ?_)
      · refine g_aload_n 27 0 K dX5_read_26 rfl rfl rfl ?_
        refine gf_C_26_9 30 K dX5_read_27 rfl ?_
        refine g_if_ne 35 33 K hf dX5_read_30 (by decide) rfl (fun hf => ?_) (fun hf => ?_)
        · refine g_iconst 34 1 K dX5_read_33 rfl (by decide) ?_
          exact g_zret K hr hlk hf dX5_read_34
        · exact g_sub [0, 1, 2] rfl (hj16 _ hf)
      · exact g_sub [0, 1, 2] rfl (hj16 _ hf)
def f_X4_adopt_26 (N n : Nat) (S : St)  : Option St :=
  loop1 (fun (k1 : St → Int32 → Option St) (S2 : St) (x3 : Int32) =>
    if 6 ≤ x3 then
      some S2
    else
      bd2 (f_X5_readToll N n S2 x3) fun r6 S5 =>
      (wr S5 30 6 x3 r6).bind fun S8 =>
      bd2 (f_X5_readAgain N n S8 x3) fun r10 S9 =>
      (wr S9 31 6 x3 r10).bind fun S12 =>
      k1 S12 (x3 + 1)) N S 0
set_option maxRecDepth 20000 in
set_option maxHeartbeats 4000000 in
theorem c_X4_adopt_26 {l : Launch} {D : va_G} {q : Nat → Nat} {n : Nat} {cI cB cZ : ClassId} {adK adV : Nat → Nat} {N : Nat} {S Sz : St}  (hf : f_X4_adopt_26 N n S  = some Sz) : Cn l yX4_adopt cX4_adopt 3 none 2 34 D (tyL cI cB cZ) (Fx adK adV) (wC q n cI cB cZ) [.ref (q 29), .ref (q 26)] S none Sz := by
  refine c_of (by decide) fl_wC (Nat.le_of_ble_eq_true rfl) [(0, .ref (q 29)), (1, .ref (q 26))] rfl ?_
  intro p e s m args below meth c K hr hlk hs
  have K : Ok p s m args c cX4_adopt 3 RX4 D (tyL cI cB cZ) (Aw (wC q n cI cB cZ) s.heap.size) (wC q n cI cB cZ) := K
  unfold f_X4_adopt_26 at hf
  refine g_iconst 1 0 K dX4_adopt_0 rfl (by decide) ?_
  refine g_istore_n (lv' := [(2, .int 0), (0, .ref (q 29)), (1, .ref (q 26))]) 2 2 K dX4_adopt_1 rfl rfl (by decide) rfl ?_
  refine g_sub [1, 2, 0] rfl ?_
  refine g_loop1 (fun (x3 : Int32) => [(0, .ref (q 29)), (1, .ref (q 26)), (2, .int x3)]) hf ?_
  intro k1 S2 x3 hk4 hf
  refine g_iload_n 3 2 K dX4_adopt_2 rfl rfl rfl ?_
  refine g_bipush 5 6 K dX4_adopt_3 rfl (by decide) ?_
  refine g_icmp_ge 36 8 K hf dX4_adopt_5 (by decide) rfl (fun hf => ?_) (fun hf => ?_)
  · exact g_vret K hr hlk hf dX4_adopt_36
  · refine g_aload_n 9 0 K dX4_adopt_8 rfl rfl rfl ?_
    refine gf_C_29_0 12 K dX4_adopt_9 rfl ?_
    refine g_iload_n 13 2 K dX4_adopt_12 rfl rfl rfl ?_
    refine g_aload_n 14 1 K dX4_adopt_13 rfl rfl rfl ?_
    refine g_iload_n 15 2 K dX4_adopt_14 rfl rfl rfl ?_
    obtain ⟨r6, S5, hc7, hf⟩ := bd2_some hf
    refine g_callVi 18 26 [.int x3, .ref (q 30)] K (Fx_ok adK adV) hs (c_X5_readToll hc7) km_X4_37 kI_X5_readToll kS_X5_readToll ki_X5 kC_X5_readToll mw_X5_readToll ⟨by decide, by decide, by decide, by decide⟩ rfl rfl rfl rfl (Nat.le_of_ble_eq_true rfl) dX4_adopt_15 rfl ?_
    refine as_C_30 19 K hf dX4_adopt_18 rfl (fun S8 hf => ?_)
    refine g_aload_n 20 0 K dX4_adopt_19 rfl rfl rfl ?_
    refine gf_C_29_1 23 K dX4_adopt_20 rfl ?_
    refine g_iload_n 24 2 K dX4_adopt_23 rfl rfl rfl ?_
    refine g_aload_n 25 1 K dX4_adopt_24 rfl rfl rfl ?_
    refine g_iload_n 26 2 K dX4_adopt_25 rfl rfl rfl ?_
    obtain ⟨r10, S9, hc11, hf⟩ := bd2_some hf
    refine g_callVi 29 26 [.int x3, .ref (q 31)] K (Fx_ok adK adV) hs (c_X5_readAgain hc11) km_X4_43 kI_X5_readAgain kS_X5_readAgain ki_X5 kC_X5_readAgain mw_X5_readAgain ⟨by decide, by decide, by decide, by decide⟩ rfl rfl rfl rfl (Nat.le_of_ble_eq_true rfl) dX4_adopt_26 rfl ?_
    refine as_C_31 30 K hf dX4_adopt_29 rfl (fun S12 hf => ?_)
    refine g_iinc (lv' := [(2, .int (x3 + 1)), (0, .ref (q 29)), (1, .ref (q 26))]) 33 2 1 K dX4_adopt_30 rfl rfl (by decide) (by decide) rfl ?_
    refine g_goto 2 K dX4_adopt_33 (by decide) ?_
    exact g_sub [1, 2, 0] rfl (hk4 _ _ hf)
def f_X6_tolls (N n : Nat) (S : St)  : Option (Int32 × St) :=
  bd2 (f_X5_read_24 N n S ) fun r2 S1 =>
  (f_X3_cutTo N n S1 0).bind fun S4 =>
  if r2 = 0 then
    some ((-1), S4)
  else
    (f_X4_adopt_26 N n S4 ).bind fun S7 =>
    bd2 (f_X5_clauseCount N n S7 ) fun r11 S10 =>
    some (r11, S10)
set_option maxRecDepth 20000 in
set_option maxHeartbeats 4000000 in
theorem c_X6_tolls {l : Launch} {D : va_G} {q : Nat → Nat} {n : Nat} {cI cB cZ : ClassId} {adK adV : Nat → Nat} {N : Nat} {S Sz : St} {rz : Int32}  (hf : f_X6_tolls N n S  = some (rz, Sz)) : Cn l yX6_tolls cX6_tolls 2 (some .int) 8 174 D (tyL cI cB cZ) (Fx adK adV) (wC q n cI cB cZ) [.ref (q 0)] S (some (.int rz)) Sz := by
  refine c_of (by decide) fl_wC (Nat.le_of_ble_eq_true rfl) [(0, .ref (q 0))] rfl ?_
  intro p e s m args below meth c K hr hlk hs
  have K : Ok p s m args c cX6_tolls 2 RX6 D (tyL cI cB cZ) (Aw (wC q n cI cB cZ) s.heap.size) (wC q n cI cB cZ) := K
  unfold f_X6_tolls at hf
  refine g_aload_n 1 0 K dX6_tolls_0 rfl rfl rfl ?_
  refine gf_C_0_4 4 K dX6_tolls_1 rfl ?_
  refine g_aload_n 5 0 K dX6_tolls_4 rfl rfl rfl ?_
  refine gf_C_0_3 8 K dX6_tolls_5 rfl ?_
  obtain ⟨r2, S1, hc3, hf⟩ := bd2_some hf
  refine g_callVi 11 26 [] K (Fx_ok adK adV) hs (c_X5_read_24 hc3) km_X6_151 kI_X5_read kS_X5_read ki_X5 kC_X5_read mw_X5_read ⟨by decide, by decide, by decide, by decide⟩ rfl rfl rfl rfl (Nat.le_of_ble_eq_true rfl) dX6_tolls_8 rfl ?_
  refine g_istore_n (lv' := [(1, .int r2), (0, .ref (q 0))]) 12 1 K dX6_tolls_11 rfl rfl (by decide) rfl ?_
  refine g_aload_n 13 1 K dX6_tolls_12 rfl rfl rfl ?_
  refine gf_C_0_3 16 K dX6_tolls_13 rfl ?_
  refine g_iconst 17 0 K dX6_tolls_16 rfl (by decide) ?_
  obtain ⟨S4, hc6, hf⟩ := bd_some hf
  refine g_callVv 20 24 [] K (Fx_ok adK adV) hs (c_X3_cutTo hc6) km_X6_148 kI_X3_cutTo kS_X3_cutTo ki_X3 kC_X3_cutTo mw_X3_cutTo ⟨by decide, by decide, by decide, by decide⟩ rfl rfl rfl rfl (Nat.le_of_ble_eq_true rfl) dX6_tolls_17 rfl ?_
  refine g_iload_n 21 0 K dX6_tolls_20 rfl rfl rfl ?_
  refine g_if_ne 26 24 K hf dX6_tolls_21 (by decide) rfl (fun hf => ?_) (fun hf => ?_)
  · refine g_iconst 25 (-1) K dX6_tolls_24 rfl (by decide) ?_
    exact g_iret K hr hlk hf dX6_tolls_25
  · refine g_aload_n 27 1 K dX6_tolls_26 rfl rfl rfl ?_
    refine gf_C_0_5 30 K dX6_tolls_27 rfl ?_
    refine g_aload_n 31 1 K dX6_tolls_30 rfl rfl rfl ?_
    refine gf_C_0_4 34 K dX6_tolls_31 rfl ?_
    obtain ⟨S7, hc9, hf⟩ := bd_some hf
    refine g_callVv 37 29 [] K (Fx_ok adK adV) hs (c_X4_adopt_26 hc9) km_X6_155 kI_X4_adopt kS_X4_adopt ki_X4 kC_X4_adopt mw_X4_adopt ⟨by decide, by decide, by decide, by decide⟩ rfl rfl rfl rfl (Nat.le_of_ble_eq_true rfl) dX6_tolls_34 rfl ?_
    refine g_aload_n 38 1 K dX6_tolls_37 rfl rfl rfl ?_
    refine gf_C_0_4 41 K dX6_tolls_38 rfl ?_
    obtain ⟨r11, S10, hc12, hf⟩ := bd2_some hf
    refine g_callVi 44 26 [] K (Fx_ok adK adV) hs (c_X5_clauseCount hc12) km_X6_159 kI_X5_clauseCount kS_X5_clauseCount ki_X5 kC_X5_clauseCount mw_X5_clauseCount ⟨by decide, by decide, by decide, by decide⟩ rfl rfl rfl rfl (Nat.le_of_ble_eq_true rfl) dX6_tolls_41 rfl ?_
    exact g_iret K hr hlk hf dX6_tolls_44
def f_X6_fault (N n : Nat) (S : St) (a1 : Int32) : Option (Int32 × St) :=
  if a1 = 0 then
    bd2 (f_X5_faultNumber N n S ) fun r5 S4 =>
    some (r5, S4)
  else
    if a1 = 1 then
      bd2 (f_X5_faultAt N n S ) fun r2 S1 =>
      some (r2, S1)
    else
      some ((-1), S)
set_option maxRecDepth 20000 in
set_option maxHeartbeats 4000000 in
theorem c_X6_fault {l : Launch} {D : va_G} {q : Nat → Nat} {n : Nat} {cI cB cZ : ClassId} {adK adV : Nat → Nat} {N : Nat} {S Sz : St} {rz : Int32} {a1 : Int32} (hf : f_X6_fault N n S a1 = some (rz, Sz)) : Cn l yX6_fault cX6_fault 2 (some .int) 1 20 D (tyL cI cB cZ) (Fx adK adV) (wC q n cI cB cZ) [.ref (q 0), .int a1] S (some (.int rz)) Sz := by
  refine c_of (by decide) fl_wC (Nat.le_of_ble_eq_true rfl) [(0, .ref (q 0)), (1, .int a1)] rfl ?_
  intro p e s m args below meth c K hr hlk hs
  have K : Ok p s m args c cX6_fault 2 RX6 D (tyL cI cB cZ) (Aw (wC q n cI cB cZ) s.heap.size) (wC q n cI cB cZ) := K
  unfold f_X6_fault at hf
  refine g_iload_n 1 1 K dX6_fault_0 rfl rfl rfl ?_
  refine g_if_ne 12 4 K hf dX6_fault_1 (by decide) rfl (fun hf => ?_) (fun hf => ?_)
  · refine g_aload_n 5 0 K dX6_fault_4 rfl rfl rfl ?_
    refine gf_C_0_4 8 K dX6_fault_5 rfl ?_
    obtain ⟨r5, S4, hc6, hf⟩ := bd2_some hf
    refine g_callVi 11 26 [] K (Fx_ok adK adV) hs (c_X5_faultNumber hc6) km_X6_162 kI_X5_faultNumber kS_X5_faultNumber ki_X5 kC_X5_faultNumber mw_X5_faultNumber ⟨by decide, by decide, by decide, by decide⟩ rfl rfl rfl rfl (Nat.le_of_ble_eq_true rfl) dX6_fault_8 rfl ?_
    exact g_iret K hr hlk hf dX6_fault_11
  · refine g_iload_n 13 1 K dX6_fault_12 rfl rfl rfl ?_
    refine g_iconst 14 1 K dX6_fault_13 rfl (by decide) ?_
    refine g_icmp_ne 27 17 K hf dX6_fault_14 (by decide) rfl (fun hf => ?_) (fun hf => ?_)
    · refine g_aload_n 18 0 K dX6_fault_17 rfl rfl rfl ?_
      refine gf_C_0_4 21 K dX6_fault_18 rfl ?_
      obtain ⟨r2, S1, hc3, hf⟩ := bd2_some hf
      refine g_callVi 24 26 [] K (Fx_ok adK adV) hs (c_X5_faultAt hc3) km_X6_165 kI_X5_faultAt kS_X5_faultAt ki_X5 kC_X5_faultAt mw_X5_faultAt ⟨by decide, by decide, by decide, by decide⟩ rfl rfl rfl rfl (Nat.le_of_ble_eq_true rfl) dX6_fault_21 rfl ?_
      refine g_goto 28 K dX6_fault_24 (by decide) ?_
      exact g_iret K hr hlk hf dX6_fault_28
    · refine g_iconst 28 (-1) K dX6_fault_27 rfl (by decide) ?_
      exact g_iret K hr hlk hf dX6_fault_28
def f_X6_pass (N n : Nat) (S : St) (a1 : Int32) (a2 : Int32) (a3 : Int32) : Option (Int32 × St) :=
  bd2 (f_X6_within N n S a1 0 5) fun r2 S1 =>
  if r2 = 0 then
    some ((-1), S1)
  else
    bd2 (f_X6_within N n S1 a2 0 19) fun r5 S4 =>
    if r5 = 0 then
      some ((-1), S4)
    else
      bd2 (f_X4_latestMinute N n S4 ) fun r8 S7 =>
      bd2 (f_X6_within N n S7 a3 r8 9999) fun r11 S10 =>
      if r11 = 0 then
        some ((-1), S10)
      else
        bd2 (f_X4_charge N n S10 a1 a2 a3) fun r14 S13 =>
        some (r14, S13)
set_option maxRecDepth 20000 in
set_option maxHeartbeats 4000000 in
theorem c_X6_pass {l : Launch} {D : va_G} {q : Nat → Nat} {n : Nat} {cI cB cZ : ClassId} {adK adV : Nat → Nat} {N : Nat} {S Sz : St} {rz : Int32} {a1 : Int32} {a2 : Int32} {a3 : Int32} (hf : f_X6_pass N n S a1 a2 a3 = some (rz, Sz)) : Cn l yX6_pass cX6_pass 4 (some .int) 2 47 D (tyL cI cB cZ) (Fx adK adV) (wC q n cI cB cZ) [.ref (q 0), .int a1, .int a2, .int a3] S (some (.int rz)) Sz := by
  refine c_of (by decide) fl_wC (Nat.le_of_ble_eq_true rfl) [(0, .ref (q 0)), (1, .int a1), (2, .int a2), (3, .int a3)] rfl ?_
  intro p e s m args below meth c K hr hlk hs
  have K : Ok p s m args c cX6_pass 4 RX6 D (tyL cI cB cZ) (Aw (wC q n cI cB cZ) s.heap.size) (wC q n cI cB cZ) := K
  unfold f_X6_pass at hf
  refine g_iload_n 1 1 K dX6_pass_0 rfl rfl rfl ?_
  refine g_iconst 2 0 K dX6_pass_1 rfl (by decide) ?_
  refine g_iconst 3 5 K dX6_pass_2 rfl (by decide) ?_
  obtain ⟨r2, S1, hc3, hf⟩ := bd2_some hf
  refine g_callSi 6 [] K (Fx_ok adK adV) hs (c_X6_within hc3) km_X6_66 kt_X6_within ki_X6 kC_X6_within mw_X6_within ⟨by decide, by decide, by decide, by decide⟩ rfl rfl (Nat.le_of_ble_eq_true rfl) dX6_pass_3 rfl ?_
  refine g_if_eq 36 9 K hf dX6_pass_6 (by decide) rfl (fun hf => ?_) (fun hf => ?_)
  · refine g_iconst 37 (-1) K dX6_pass_36 rfl (by decide) ?_
    exact g_iret K hr hlk hf dX6_pass_37
  · refine g_iload_n 10 2 K dX6_pass_9 rfl rfl rfl ?_
    refine g_iconst 11 0 K dX6_pass_10 rfl (by decide) ?_
    refine g_bipush 13 19 K dX6_pass_11 rfl (by decide) ?_
    obtain ⟨r5, S4, hc6, hf⟩ := bd2_some hf
    refine g_callSi 16 [] K (Fx_ok adK adV) hs (c_X6_within hc6) km_X6_66 kt_X6_within ki_X6 kC_X6_within mw_X6_within ⟨by decide, by decide, by decide, by decide⟩ rfl rfl (Nat.le_of_ble_eq_true rfl) dX6_pass_13 rfl ?_
    refine g_if_eq 36 19 K hf dX6_pass_16 (by decide) rfl (fun hf => ?_) (fun hf => ?_)
    · refine g_iconst 37 (-1) K dX6_pass_36 rfl (by decide) ?_
      exact g_iret K hr hlk hf dX6_pass_37
    · refine g_iload_n 20 3 K dX6_pass_19 rfl rfl rfl ?_
      refine g_aload_n 21 0 K dX6_pass_20 rfl rfl rfl ?_
      refine gf_C_0_5 24 K dX6_pass_21 rfl ?_
      obtain ⟨r8, S7, hc9, hf⟩ := bd2_some hf
      refine g_callVi 27 29 [.int a3] K (Fx_ok adK adV) hs (c_X4_latestMinute hc9) km_X6_168 kI_X4_latestMinute kS_X4_latestMinute ki_X4 kC_X4_latestMinute mw_X4_latestMinute ⟨by decide, by decide, by decide, by decide⟩ rfl rfl rfl rfl (Nat.le_of_ble_eq_true rfl) dX6_pass_24 rfl ?_
      refine g_sipush 30 9999 K dX6_pass_27 rfl (by decide) ?_
      obtain ⟨r11, S10, hc12, hf⟩ := bd2_some hf
      refine g_callSi 33 [] K (Fx_ok adK adV) hs (c_X6_within hc12) km_X6_66 kt_X6_within ki_X6 kC_X6_within mw_X6_within ⟨by decide, by decide, by decide, by decide⟩ rfl rfl (Nat.le_of_ble_eq_true rfl) dX6_pass_30 rfl ?_
      refine g_if_ne 38 36 K hf dX6_pass_33 (by decide) rfl (fun hf => ?_) (fun hf => ?_)
      · refine g_iconst 37 (-1) K dX6_pass_36 rfl (by decide) ?_
        exact g_iret K hr hlk hf dX6_pass_37
      · refine g_aload_n 39 0 K dX6_pass_38 rfl rfl rfl ?_
        refine gf_C_0_5 42 K dX6_pass_39 rfl ?_
        refine g_iload_n 43 1 K dX6_pass_42 rfl rfl rfl ?_
        refine g_iload_n 44 2 K dX6_pass_43 rfl rfl rfl ?_
        refine g_iload_n 45 3 K dX6_pass_44 rfl rfl rfl ?_
        obtain ⟨r14, S13, hc15, hf⟩ := bd2_some hf
        refine g_callVi 48 29 [] K (Fx_ok adK adV) hs (c_X4_charge hc15) km_X6_171 kI_X4_charge kS_X4_charge ki_X4 kC_X4_charge mw_X4_charge ⟨by decide, by decide, by decide, by decide⟩ rfl rfl rfl rfl (Nat.le_of_ble_eq_true rfl) dX6_pass_45 rfl ?_
        exact g_iret K hr hlk hf dX6_pass_48
def f_X6_about (N n : Nat) (S : St) (a1 : Int32) : Option (Int32 × St) :=
  bd2 (f_X6_within N n S a1 20 25) fun r2 S1 =>
  if r2 = 0 then
    bd2 (f_X6_within N n S1 a1 30 35) fun r5 S4 =>
    if r5 = 0 then
      if a1 = 0 then
        bd2 (f_X0_hullCount N n S4 ) fun r8 S7 =>
        some (r8, S7)
      else
      if a1 = 1 then
        bd2 (f_X0_cartCount N n S4 ) fun r11 S10 =>
        some (r11, S10)
      else
      if a1 = 2 then
        bd2 (f_X1_shipCount N n S4 ) fun r14 S13 =>
        some (r14, S13)
      else
      if a1 = 3 then
        bd2 (f_X1_crosserCount N n S4 ) fun r17 S16 =>
        some (r17, S16)
      else
      if a1 = 4 then
        bd2 (f_X4_paidTogether N n S4 ) fun r20 S19 =>
        some (r20, S19)
      else
      if a1 = 5 then
        bd2 (f_X4_wentFree N n S4 ) fun r23 S22 =>
        some (r23, S22)
      else
      if a1 = 6 then
        bd2 (f_X3_size N n S4 ) fun r26 S25 =>
        some (r26, S25)
      else
      some ((-1), S4)
    else
      bd2 (f_X4_againOf N n S4 (a1 - 30)) fun r29 S28 =>
      some (r29, S28)
  else
    bd2 (f_X4_tollOf N n S1 (a1 - 20)) fun r32 S31 =>
    some (r32, S31)
set_option maxRecDepth 20000 in
set_option maxHeartbeats 4000000 in
theorem c_X6_about {l : Launch} {D : va_G} {q : Nat → Nat} {n : Nat} {cI cB cZ : ClassId} {adK adV : Nat → Nat} {N : Nat} {S Sz : St} {rz : Int32} {a1 : Int32} (hf : f_X6_about N n S a1 = some (rz, Sz)) : Cn l yX6_about cX6_about 2 (some .int) 1 22 D (tyL cI cB cZ) (Fx adK adV) (wC q n cI cB cZ) [.ref (q 0), .int a1] S (some (.int rz)) Sz := by
  refine c_of (by decide) fl_wC (Nat.le_of_ble_eq_true rfl) [(0, .ref (q 0)), (1, .int a1)] rfl ?_
  intro p e s m args below meth c K hr hlk hs
  have K : Ok p s m args c cX6_about 2 RX6 D (tyL cI cB cZ) (Aw (wC q n cI cB cZ) s.heap.size) (wC q n cI cB cZ) := K
  unfold f_X6_about at hf
  refine g_iload_n 1 1 K dX6_about_0 rfl rfl rfl ?_
  refine g_bipush 3 20 K dX6_about_1 rfl (by decide) ?_
  refine g_bipush 5 25 K dX6_about_3 rfl (by decide) ?_
  obtain ⟨r2, S1, hc3, hf⟩ := bd2_some hf
  refine g_callSi 8 [] K (Fx_ok adK adV) hs (c_X6_within hc3) km_X6_66 kt_X6_within ki_X6 kC_X6_within mw_X6_within ⟨by decide, by decide, by decide, by decide⟩ rfl rfl (Nat.le_of_ble_eq_true rfl) dX6_about_5 rfl ?_
  refine g_if_eq 23 11 K hf dX6_about_8 (by decide) rfl (fun hf => ?_) (fun hf => ?_)
  · refine g_iload_n 24 1 K dX6_about_23 rfl rfl rfl ?_
    refine g_bipush 26 30 K dX6_about_24 rfl (by decide) ?_
    refine g_bipush 28 35 K dX6_about_26 rfl (by decide) ?_
    obtain ⟨r5, S4, hc6, hf⟩ := bd2_some hf
    refine g_callSi 31 [] K (Fx_ok adK adV) hs (c_X6_within hc6) km_X6_66 kt_X6_within ki_X6 kC_X6_within mw_X6_within ⟨by decide, by decide, by decide, by decide⟩ rfl rfl (Nat.le_of_ble_eq_true rfl) dX6_about_28 rfl ?_
    refine g_if_eq 46 34 K hf dX6_about_31 (by decide) rfl (fun hf => ?_) (fun hf => ?_)
    · refine g_iload_n 47 1 K dX6_about_46 rfl rfl rfl ?_
      refine g_ite hf (fun hsw0 hf => ?_) (fun hsw0 hf => ?_)
      · refine g_tabIn 88 0 K hsw0 dX6_about_47 (by decide) (by decide) rfl (by decide) ?_
        refine g_aload_n 89 0 K dX6_about_88 rfl rfl rfl ?_
        refine gf_C_0_0 92 K dX6_about_89 rfl ?_
        obtain ⟨r8, S7, hc9, hf⟩ := bd2_some hf
        refine g_callVi 95 1 [] K (Fx_ok adK adV) hs (c_X0_hullCount hc9) km_X6_181 kI_X0_hullCount kS_X0_hullCount ki_X0 kC_X0_hullCount mw_X0_hullCount ⟨by decide, by decide, by decide, by decide⟩ rfl rfl rfl rfl (Nat.le_of_ble_eq_true rfl) dX6_about_92 rfl ?_
        exact g_iret K hr hlk hf dX6_about_95
      refine g_ite hf (fun hsw1 hf => ?_) (fun hsw1 hf => ?_)
      · refine g_tabIn 96 1 K hsw1 dX6_about_47 (by decide) (by decide) rfl (by decide) ?_
        refine g_aload_n 97 0 K dX6_about_96 rfl rfl rfl ?_
        refine gf_C_0_0 100 K dX6_about_97 rfl ?_
        obtain ⟨r11, S10, hc12, hf⟩ := bd2_some hf
        refine g_callVi 103 1 [] K (Fx_ok adK adV) hs (c_X0_cartCount hc12) km_X6_82 kI_X0_cartCount kS_X0_cartCount ki_X0 kC_X0_cartCount mw_X0_cartCount ⟨by decide, by decide, by decide, by decide⟩ rfl rfl rfl rfl (Nat.le_of_ble_eq_true rfl) dX6_about_100 rfl ?_
        exact g_iret K hr hlk hf dX6_about_103
      refine g_ite hf (fun hsw2 hf => ?_) (fun hsw2 hf => ?_)
      · refine g_tabIn 104 2 K hsw2 dX6_about_47 (by decide) (by decide) rfl (by decide) ?_
        refine g_aload_n 105 0 K dX6_about_104 rfl rfl rfl ?_
        refine gf_C_0_1 108 K dX6_about_105 rfl ?_
        obtain ⟨r14, S13, hc15, hf⟩ := bd2_some hf
        refine g_callVi 111 9 [] K (Fx_ok adK adV) hs (c_X1_shipCount hc15) km_X6_102 kI_X1_shipCount kS_X1_shipCount ki_X1 kC_X1_shipCount mw_X1_shipCount ⟨by decide, by decide, by decide, by decide⟩ rfl rfl rfl rfl (Nat.le_of_ble_eq_true rfl) dX6_about_108 rfl ?_
        exact g_iret K hr hlk hf dX6_about_111
      refine g_ite hf (fun hsw3 hf => ?_) (fun hsw3 hf => ?_)
      · refine g_tabIn 112 3 K hsw3 dX6_about_47 (by decide) (by decide) rfl (by decide) ?_
        refine g_aload_n 113 0 K dX6_about_112 rfl rfl rfl ?_
        refine gf_C_0_1 116 K dX6_about_113 rfl ?_
        obtain ⟨r17, S16, hc18, hf⟩ := bd2_some hf
        refine g_callVi 119 9 [] K (Fx_ok adK adV) hs (c_X1_crosserCount hc18) km_X6_108 kI_X1_crosserCount kS_X1_crosserCount ki_X1 kC_X1_crosserCount mw_X1_crosserCount ⟨by decide, by decide, by decide, by decide⟩ rfl rfl rfl rfl (Nat.le_of_ble_eq_true rfl) dX6_about_116 rfl ?_
        exact g_iret K hr hlk hf dX6_about_119
      refine g_ite hf (fun hsw4 hf => ?_) (fun hsw4 hf => ?_)
      · refine g_tabIn 120 4 K hsw4 dX6_about_47 (by decide) (by decide) rfl (by decide) ?_
        refine g_aload_n 121 0 K dX6_about_120 rfl rfl rfl ?_
        refine gf_C_0_5 124 K dX6_about_121 rfl ?_
        obtain ⟨r20, S19, hc21, hf⟩ := bd2_some hf
        refine g_callVi 127 29 [] K (Fx_ok adK adV) hs (c_X4_paidTogether hc21) km_X6_184 kI_X4_paidTogether kS_X4_paidTogether ki_X4 kC_X4_paidTogether mw_X4_paidTogether ⟨by decide, by decide, by decide, by decide⟩ rfl rfl rfl rfl (Nat.le_of_ble_eq_true rfl) dX6_about_124 rfl ?_
        exact g_iret K hr hlk hf dX6_about_127
      refine g_ite hf (fun hsw5 hf => ?_) (fun hsw5 hf => ?_)
      · refine g_tabIn 128 5 K hsw5 dX6_about_47 (by decide) (by decide) rfl (by decide) ?_
        refine g_aload_n 129 0 K dX6_about_128 rfl rfl rfl ?_
        refine gf_C_0_5 132 K dX6_about_129 rfl ?_
        obtain ⟨r23, S22, hc24, hf⟩ := bd2_some hf
        refine g_callVi 135 29 [] K (Fx_ok adK adV) hs (c_X4_wentFree hc24) km_X6_187 kI_X4_wentFree kS_X4_wentFree ki_X4 kC_X4_wentFree mw_X4_wentFree ⟨by decide, by decide, by decide, by decide⟩ rfl rfl rfl rfl (Nat.le_of_ble_eq_true rfl) dX6_about_132 rfl ?_
        exact g_iret K hr hlk hf dX6_about_135
      refine g_ite hf (fun hsw6 hf => ?_) (fun hsw6 hf => ?_)
      · refine g_tabIn 136 6 K hsw6 dX6_about_47 (by decide) (by decide) rfl (by decide) ?_
        refine g_aload_n 137 0 K dX6_about_136 rfl rfl rfl ?_
        refine gf_C_0_3 140 K dX6_about_137 rfl ?_
        obtain ⟨r26, S25, hc27, hf⟩ := bd2_some hf
        refine g_callVi 143 24 [] K (Fx_ok adK adV) hs (c_X3_size hc27) km_X6_142 kI_X3_size kS_X3_size ki_X3 kC_X3_size mw_X3_size ⟨by decide, by decide, by decide, by decide⟩ rfl rfl rfl rfl (Nat.le_of_ble_eq_true rfl) dX6_about_140 rfl ?_
        exact g_iret K hr hlk hf dX6_about_143
      refine g_tabOut 144 K (sw_out6 hsw0 hsw1 hsw2 hsw3 hsw4 hsw5 hsw6) dX6_about_47 (by decide) ?_
      refine g_iconst 145 (-1) K dX6_about_144 rfl (by decide) ?_
      exact g_iret K hr hlk hf dX6_about_145
    · refine g_aload_n 35 0 K dX6_about_34 rfl rfl rfl ?_
      refine gf_C_0_5 38 K dX6_about_35 rfl ?_
      refine g_iload_n 39 1 K dX6_about_38 rfl rfl rfl ?_
      refine g_bipush 41 30 K dX6_about_39 rfl (by decide) ?_
      refine g_isub 42 K dX6_about_41 rfl ?_
      obtain ⟨r29, S28, hc30, hf⟩ := bd2_some hf
      refine g_callVi 45 29 [] K (Fx_ok adK adV) hs (c_X4_againOf hc30) km_X6_178 kI_X4_againOf kS_X4_againOf ki_X4 kC_X4_againOf mw_X4_againOf ⟨by decide, by decide, by decide, by decide⟩ rfl rfl rfl rfl (Nat.le_of_ble_eq_true rfl) dX6_about_42 rfl ?_
      exact g_iret K hr hlk hf dX6_about_45
  · refine g_aload_n 12 0 K dX6_about_11 rfl rfl rfl ?_
    refine gf_C_0_5 15 K dX6_about_12 rfl ?_
    refine g_iload_n 16 1 K dX6_about_15 rfl rfl rfl ?_
    refine g_bipush 18 20 K dX6_about_16 rfl (by decide) ?_
    refine g_isub 19 K dX6_about_18 rfl ?_
    obtain ⟨r32, S31, hc33, hf⟩ := bd2_some hf
    refine g_callVi 22 29 [] K (Fx_ok adK adV) hs (c_X4_tollOf hc33) km_X6_175 kI_X4_tollOf kS_X4_tollOf ki_X4 kC_X4_tollOf mw_X4_tollOf ⟨by decide, by decide, by decide, by decide⟩ rfl rfl rfl rfl (Nat.le_of_ble_eq_true rfl) dX6_about_19 rfl ?_
    exact g_iret K hr hlk hf dX6_about_22