def f_J7_fill_53178_0 (N n : Nat) (S : St) (a2 : Int32) : Option St :=
  loop1 (fun (k1 : St → Int32 → Option St) (S2 : St) (x3 : Int32) =>
    if (nI n) ≤ x3 then
      some S2
    else
      (wr S2 0 n x3 a2).bind fun S5 =>
      k1 S5 (x3 + 1)) N S 0
set_option maxRecDepth 20000 in
set_option maxHeartbeats 4000000 in
theorem c_J7_fill_53178_0 {l : Launch} {D : va_G} {q : Nat → Nat} {n : Nat} {cI cB cZ : ClassId} {adK adV : Nat → Nat} {N : Nat} {S Sz : St} {a2 : Int32} (hf : f_J7_fill_53178_0 N n S a2 = some Sz) : Cn l yJ7_fill_53178 cJ7_fill_53178 4 none 0 0 D (tyL cI cB cZ) (Fx adK adV) (wA q n cI cB cZ) [.ref (q 0), .int a2] S none Sz := by
  refine c_of (by decide) fl_wA (Nat.le_of_ble_eq_true rfl) [(0, .ref (q 0)), (1, .int a2)] rfl ?_
  intro p e s m args below meth c K hr hlk hs
  have K : Ok p s m args c cJ7_fill_53178 4 RJ7 D (tyL cI cB cZ) (Aw (wA q n cI cB cZ) s.heap.size) (wA q n cI cB cZ) := K
  unfold f_J7_fill_53178_0 at hf
  refine g_iconst 1 0 K dJ7_fill_53178_0 rfl (by decide) ?_
  refine g_istore_n (lv' := [(2, .int 0), (0, .ref (q 0)), (1, .int a2)]) 2 2 K dJ7_fill_53178_1 rfl rfl (by decide) rfl ?_
  refine g_aload_n 3 1 K dJ7_fill_53178_2 rfl rfl rfl ?_
  refine an_A_0 4 K dJ7_fill_53178_3 rfl ?_
  refine g_istore_n (lv' := [(3, .int (nI n)), (2, .int 0), (0, .ref (q 0)), (1, .int a2)]) 5 3 K dJ7_fill_53178_4 rfl rfl (by decide) rfl ?_
  refine g_sub [2, 3, 1, 0] rfl ?_
  refine g_loop1 (fun (x3 : Int32) => [(0, .ref (q 0)), (1, .int a2), (2, .int x3), (3, .int (nI n))]) hf ?_
  intro k1 S2 x3 hk4 hf
  refine g_iload_n 6 2 K dJ7_fill_53178_5 rfl rfl rfl ?_
  refine g_iload_n 7 3 K dJ7_fill_53178_6 rfl rfl rfl ?_
  refine g_icmp_ge 20 10 K hf dJ7_fill_53178_7 (by decide) rfl (fun hf => ?_) (fun hf => ?_)
  · exact g_vret K hr hlk hf dJ7_fill_53178_20
  · refine g_aload_n 11 0 K dJ7_fill_53178_10 rfl rfl rfl ?_
    refine g_iload_n 12 2 K dJ7_fill_53178_11 rfl rfl rfl ?_
    refine g_iload_n 13 1 K dJ7_fill_53178_12 rfl rfl rfl ?_
    refine as_A_0 14 K hf dJ7_fill_53178_13 rfl (fun S5 hf => ?_)
    refine g_iinc (lv' := [(2, .int (x3 + 1)), (0, .ref (q 0)), (1, .int a2), (3, .int (nI n))]) 17 2 1 K dJ7_fill_53178_14 rfl rfl (by decide) (by decide) rfl ?_
    refine g_goto 5 K dJ7_fill_53178_17 (by decide) ?_
    exact g_sub [1, 2, 0, 3] rfl (hk4 _ _ hf)
def f_X7_in (N n : Nat) (S : St) (a1 : Int64) (a2 : Int64) (a3 : Int64) : Option (Int32 × St) :=
  if (lg_cmp a1 a2) < 0 then
    zr 0 S
  else
    if 0 < (lg_cmp a1 a3) then
      zr 0 S
    else
      zr 1 S
set_option maxRecDepth 20000 in
set_option maxHeartbeats 4000000 in
theorem c_X7_in {l : Launch} {D : va_G} {q : Nat → Nat} {n : Nat} {cI cB cZ : ClassId} {adK adV : Nat → Nat} {N : Nat} {S Sz : St} {rz : Int32} {a1 : Int64} {a2 : Int64} {a3 : Int64} (hf : f_X7_in N n S a1 a2 a3 = some (rz, Sz)) : Cn l yX7_in cX7_in 6 (some .boolean) 0 0 D (tyL cI cB cZ) (Fx adK adV) (wM q n cI cB cZ) [.long a1, .long a2, .long a3] S (some (.int rz)) Sz := by
  refine c_of (by decide) fl_wM (Nat.le_of_ble_eq_true rfl) [(0, .long a1), (2, .long a2), (4, .long a3)] rfl ?_
  intro p e s m args below meth c K hr hlk hs
  have K : Ok p s m args c cX7_in 6 RX7 D (tyL cI cB cZ) (Aw (wM q n cI cB cZ) s.heap.size) (wM q n cI cB cZ) := K
  unfold f_X7_in at hf
  refine g_lload_n 1 0 K dX7_in_0 rfl rfl rfl ?_
  refine g_lload_n 2 1 K dX7_in_1 rfl rfl rfl ?_
  refine g_lcmp 3 K dX7_in_2 rfl ?_
  refine g_if_lt 17 6 K hf dX7_in_3 (by decide) rfl (fun hf => ?_) (fun hf => ?_)
  · refine g_iconst 18 0 K dX7_in_17 rfl (by decide) ?_
    exact g_zret K hr hlk hf dX7_in_18
  · refine g_lload_n 7 0 K dX7_in_6 rfl rfl rfl ?_
    refine g_lload 9 2 K dX7_in_7 rfl rfl ?_
    refine g_lcmp 10 K dX7_in_9 rfl ?_
    refine g_if_gt 17 13 K hf dX7_in_10 (by decide) rfl (fun hf => ?_) (fun hf => ?_)
    · refine g_iconst 18 0 K dX7_in_17 rfl (by decide) ?_
      exact g_zret K hr hlk hf dX7_in_18
    · refine g_iconst 14 1 K dX7_in_13 rfl (by decide) ?_
      refine g_goto 18 K dX7_in_14 (by decide) ?_
      exact g_zret K hr hlk hf dX7_in_18
def f_X7_isHull (N n : Nat) (S : St) (a1 : Int32) : Option (Int32 × St) :=
  bd2 (f_X7_in N n S (Int32.toInt64 a1) 0 (Int32.toInt64 ((S.1 0) - 1))) fun r2 S1 =>
  zr r2 S1
set_option maxRecDepth 20000 in
set_option maxHeartbeats 4000000 in
theorem c_X7_isHull {l : Launch} {D : va_G} {q : Nat → Nat} {n : Nat} {cI cB cZ : ClassId} {adK adV : Nat → Nat} {N : Nat} {S Sz : St} {rz : Int32} {a1 : Int32} (hf : f_X7_isHull N n S a1 = some (rz, Sz)) : Cn l yX7_isHull cX7_isHull 2 (some .boolean) 1 25 D (tyL cI cB cZ) (Fx adK adV) (wM q n cI cB cZ) [.ref (q 0), .int a1] S (some (.int rz)) Sz := by
  refine c_of (by decide) fl_wM (Nat.le_of_ble_eq_true rfl) [(0, .ref (q 0)), (1, .int a1)] rfl ?_
  intro p e s m args below meth c K hr hlk hs
  have K : Ok p s m args c cX7_isHull 2 RX7 D (tyL cI cB cZ) (Aw (wM q n cI cB cZ) s.heap.size) (wM q n cI cB cZ) := K
  unfold f_X7_isHull at hf
  refine g_iload_n 1 1 K dX7_isHull_0 rfl rfl rfl ?_
  refine g_i2l 2 K dX7_isHull_1 rfl ?_
  refine g_lconst 3 0 K dX7_isHull_2 rfl (by decide) ?_
  refine g_aload_n 4 0 K dX7_isHull_3 rfl rfl rfl ?_
  refine gf_M_0_0 7 K dX7_isHull_4 rfl ?_
  refine g_iconst 8 1 K dX7_isHull_7 rfl (by decide) ?_
  refine g_isub 9 K dX7_isHull_8 rfl ?_
  refine g_i2l 10 K dX7_isHull_9 rfl ?_
  obtain ⟨r2, S1, hc3, hf⟩ := bd2_some hf
  refine g_callSi 13 [] K (Fx_ok adK adV) hs (c_X7_in hc3) km_X7_84 kt_X7_in ki_X7 kC_X7_in mw_X7_in ⟨by decide, by decide, by decide, by decide⟩ rfl rfl (Nat.le_of_ble_eq_true rfl) dX7_isHull_10 rfl ?_
  exact g_zret K hr hlk hf dX7_isHull_13
def f_X7_hull (N n : Nat) (S : St) (a1 : Int32) (a2 : Int32) (a3 : Int32) : Option (Int32 × St) :=
  bd2 (f_X7_isHull N n S a1) fun r2 S1 =>
  if r2 = 0 then
    zr 0 S1
  else
    bd2 (f_X7_in N n S1 (Int32.toInt64 a2) 1 1000) fun r5 S4 =>
    if r5 = 0 then
      zr 0 S4
    else
      bd2 (f_X7_in N n S4 (Int32.toInt64 a3) 0 1000) fun r8 S7 =>
      if r8 = 0 then
        zr 0 S7
      else
        (wr S7 1 12 a1 a2).bind fun S10 =>
        (wr S10 2 12 a1 a3).bind fun S11 =>
        zr 1 S11
set_option maxRecDepth 20000 in
set_option maxHeartbeats 4000000 in
theorem c_X7_hull {l : Launch} {D : va_G} {q : Nat → Nat} {n : Nat} {cI cB cZ : ClassId} {adK adV : Nat → Nat} {N : Nat} {S Sz : St} {rz : Int32} {a1 : Int32} {a2 : Int32} {a3 : Int32} (hf : f_X7_hull N n S a1 a2 a3 = some (rz, Sz)) : Cn l yX7_hull cX7_hull 4 (some .boolean) 2 46 D (tyL cI cB cZ) (Fx adK adV) (wM q n cI cB cZ) [.ref (q 0), .int a1, .int a2, .int a3] S (some (.int rz)) Sz := by
  refine c_of (by decide) fl_wM (Nat.le_of_ble_eq_true rfl) [(0, .ref (q 0)), (1, .int a1), (2, .int a2), (3, .int a3)] rfl ?_
  intro p e s m args below meth c K hr hlk hs
  have K : Ok p s m args c cX7_hull 4 RX7 D (tyL cI cB cZ) (Aw (wM q n cI cB cZ) s.heap.size) (wM q n cI cB cZ) := K
  unfold f_X7_hull at hf
  refine g_aload_n 1 0 K dX7_hull_0 rfl rfl rfl ?_
  refine g_iload_n 2 1 K dX7_hull_1 rfl rfl rfl ?_
  obtain ⟨r2, S1, hc3, hf⟩ := bd2_some hf
  refine g_callVi 5 0 [] K (Fx_ok adK adV) hs (c_X7_isHull hc3) km_X7_88 kI_X7_isHull kS_X7_isHull ki_X7 kC_X7_isHull mw_X7_isHull ⟨by decide, by decide, by decide, by decide⟩ rfl rfl rfl rfl (Nat.le_of_ble_eq_true rfl) dX7_hull_2 rfl ?_
  refine g_if_eq 32 8 K hf dX7_hull_5 (by decide) rfl (fun hf => ?_) (fun hf => ?_)
  · refine g_iconst 33 0 K dX7_hull_32 rfl (by decide) ?_
    exact g_zret K hr hlk hf dX7_hull_33
  · refine g_iload_n 9 2 K dX7_hull_8 rfl rfl rfl ?_
    refine g_i2l 10 K dX7_hull_9 rfl ?_
    refine g_lconst 11 1 K dX7_hull_10 rfl (by decide) ?_
    refine g_ldc2 14 1000 K dX7_hull_11 rfl kc_X7_92 ?_
    obtain ⟨r5, S4, hc6, hf⟩ := bd2_some hf
    refine g_callSi 17 [] K (Fx_ok adK adV) hs (c_X7_in hc6) km_X7_84 kt_X7_in ki_X7 kC_X7_in mw_X7_in ⟨by decide, by decide, by decide, by decide⟩ rfl rfl (Nat.le_of_ble_eq_true rfl) dX7_hull_14 rfl ?_
    refine g_if_eq 32 20 K hf dX7_hull_17 (by decide) rfl (fun hf => ?_) (fun hf => ?_)
    · refine g_iconst 33 0 K dX7_hull_32 rfl (by decide) ?_
      exact g_zret K hr hlk hf dX7_hull_33
    · refine g_iload_n 21 3 K dX7_hull_20 rfl rfl rfl ?_
      refine g_i2l 22 K dX7_hull_21 rfl ?_
      refine g_lconst 23 0 K dX7_hull_22 rfl (by decide) ?_
      refine g_ldc2 26 1000 K dX7_hull_23 rfl kc_X7_92 ?_
      obtain ⟨r8, S7, hc9, hf⟩ := bd2_some hf
      refine g_callSi 29 [] K (Fx_ok adK adV) hs (c_X7_in hc9) km_X7_84 kt_X7_in ki_X7 kC_X7_in mw_X7_in ⟨by decide, by decide, by decide, by decide⟩ rfl rfl (Nat.le_of_ble_eq_true rfl) dX7_hull_26 rfl ?_
      refine g_if_ne 34 32 K hf dX7_hull_29 (by decide) rfl (fun hf => ?_) (fun hf => ?_)
      · refine g_iconst 33 0 K dX7_hull_32 rfl (by decide) ?_
        exact g_zret K hr hlk hf dX7_hull_33
      · refine g_aload_n 35 0 K dX7_hull_34 rfl rfl rfl ?_
        refine gf_M_0_1 38 K dX7_hull_35 rfl ?_
        refine g_iload_n 39 1 K dX7_hull_38 rfl rfl rfl ?_
        refine g_iload_n 40 2 K dX7_hull_39 rfl rfl rfl ?_
        refine as_M_1 41 K hf dX7_hull_40 rfl (fun S10 hf => ?_)
        refine g_aload_n 42 0 K dX7_hull_41 rfl rfl rfl ?_
        refine gf_M_0_2 45 K dX7_hull_42 rfl ?_
        refine g_iload_n 46 1 K dX7_hull_45 rfl rfl rfl ?_
        refine g_iload_n 47 3 K dX7_hull_46 rfl rfl rfl ?_
        refine as_M_2 48 K hf dX7_hull_47 rfl (fun S11 hf => ?_)
        refine g_iconst 49 1 K dX7_hull_48 rfl (by decide) ?_
        exact g_zret K hr hlk hf dX7_hull_49
def f_X7_pull (N n : Nat) (S : St) (a1 : Int32) (a2 : Int32) : Option (Int32 × St) :=
  bd2 (f_X7_in N n S (Int32.toInt64 a1) 0 9) fun r2 S1 =>
  if r2 = 0 then
    zr 0 S1
  else
    bd2 (f_X7_in N n S1 (Int32.toInt64 a2) 0 1000) fun r5 S4 =>
    if r5 = 0 then
      zr 0 S4
    else
      (wr S4 3 10 a1 a2).bind fun S7 =>
      zr 1 S7
set_option maxRecDepth 20000 in
set_option maxHeartbeats 4000000 in
theorem c_X7_pull {l : Launch} {D : va_G} {q : Nat → Nat} {n : Nat} {cI cB cZ : ClassId} {adK adV : Nat → Nat} {N : Nat} {S Sz : St} {rz : Int32} {a1 : Int32} {a2 : Int32} (hf : f_X7_pull N n S a1 a2 = some (rz, Sz)) : Cn l yX7_pull cX7_pull 3 (some .boolean) 1 25 D (tyL cI cB cZ) (Fx adK adV) (wM q n cI cB cZ) [.ref (q 0), .int a1, .int a2] S (some (.int rz)) Sz := by
  refine c_of (by decide) fl_wM (Nat.le_of_ble_eq_true rfl) [(0, .ref (q 0)), (1, .int a1), (2, .int a2)] rfl ?_
  intro p e s m args below meth c K hr hlk hs
  have K : Ok p s m args c cX7_pull 3 RX7 D (tyL cI cB cZ) (Aw (wM q n cI cB cZ) s.heap.size) (wM q n cI cB cZ) := K
  unfold f_X7_pull at hf
  refine g_iload_n 1 1 K dX7_pull_0 rfl rfl rfl ?_
  refine g_i2l 2 K dX7_pull_1 rfl ?_
  refine g_lconst 3 0 K dX7_pull_2 rfl (by decide) ?_
  refine g_ldc2 6 9 K dX7_pull_3 rfl kc_X7_94 ?_
  obtain ⟨r2, S1, hc3, hf⟩ := bd2_some hf
  refine g_callSi 9 [] K (Fx_ok adK adV) hs (c_X7_in hc3) km_X7_84 kt_X7_in ki_X7 kC_X7_in mw_X7_in ⟨by decide, by decide, by decide, by decide⟩ rfl rfl (Nat.le_of_ble_eq_true rfl) dX7_pull_6 rfl ?_
  refine g_if_eq 24 12 K hf dX7_pull_9 (by decide) rfl (fun hf => ?_) (fun hf => ?_)
  · refine g_iconst 25 0 K dX7_pull_24 rfl (by decide) ?_
    exact g_zret K hr hlk hf dX7_pull_25
  · refine g_iload_n 13 2 K dX7_pull_12 rfl rfl rfl ?_
    refine g_i2l 14 K dX7_pull_13 rfl ?_
    refine g_lconst 15 0 K dX7_pull_14 rfl (by decide) ?_
    refine g_ldc2 18 1000 K dX7_pull_15 rfl kc_X7_92 ?_
    obtain ⟨r5, S4, hc6, hf⟩ := bd2_some hf
    refine g_callSi 21 [] K (Fx_ok adK adV) hs (c_X7_in hc6) km_X7_84 kt_X7_in ki_X7 kC_X7_in mw_X7_in ⟨by decide, by decide, by decide, by decide⟩ rfl rfl (Nat.le_of_ble_eq_true rfl) dX7_pull_18 rfl ?_
    refine g_if_ne 26 24 K hf dX7_pull_21 (by decide) rfl (fun hf => ?_) (fun hf => ?_)
    · refine g_iconst 25 0 K dX7_pull_24 rfl (by decide) ?_
      exact g_zret K hr hlk hf dX7_pull_25
    · refine g_aload_n 27 0 K dX7_pull_26 rfl rfl rfl ?_
      refine gf_M_0_3 30 K dX7_pull_27 rfl ?_
      refine g_iload_n 31 1 K dX7_pull_30 rfl rfl rfl ?_
      refine g_iload_n 32 2 K dX7_pull_31 rfl rfl rfl ?_
      refine as_M_3 33 K hf dX7_pull_32 rfl (fun S7 hf => ?_)
      refine g_iconst 34 1 K dX7_pull_33 rfl (by decide) ?_
      exact g_zret K hr hlk hf dX7_pull_34
def f_X7_drags (N n : Nat) (S : St) (a1 : Int32) : Option (Int32 × St) :=
  bd2 (f_X7_in N n S (Int32.toInt64 a1) 0 9) fun r2 S1 =>
  if r2 = 0 then
    some ((-1), S1)
  else
    loop2 (fun (k4 : St → Int32 → Int32 → Option (Int32 × St)) (S5 : St) (x6 : Int32) (x7 : Int32) =>
      if (S5.1 0) ≤ x7 then
        some (x6, S5)
      else
        (rd (S5.2 2) 12 x7).bind fun x9 =>
        (rd (S5.2 3) 10 a1).bind fun x10 =>
        if x10 ≤ x9 then
          k4 S5 (x6 + 0) (x7 + 1)
        else
          k4 S5 (x6 + 1) (x7 + 1)) N S1 0 0
set_option maxRecDepth 20000 in
set_option maxHeartbeats 4000000 in
theorem c_X7_drags {l : Launch} {D : va_G} {q : Nat → Nat} {n : Nat} {cI cB cZ : ClassId} {adK adV : Nat → Nat} {N : Nat} {S Sz : St} {rz : Int32} {a1 : Int32} (hf : f_X7_drags N n S a1 = some (rz, Sz)) : Cn l yX7_drags cX7_drags 4 (some .int) 1 25 D (tyL cI cB cZ) (Fx adK adV) (wM q n cI cB cZ) [.ref (q 0), .int a1] S (some (.int rz)) Sz := by
  refine c_of (by decide) fl_wM (Nat.le_of_ble_eq_true rfl) [(0, .ref (q 0)), (1, .int a1)] rfl ?_
  intro p e s m args below meth c K hr hlk hs
  have K : Ok p s m args c cX7_drags 4 RX7 D (tyL cI cB cZ) (Aw (wM q n cI cB cZ) s.heap.size) (wM q n cI cB cZ) := K
  unfold f_X7_drags at hf
  refine g_iload_n 1 1 K dX7_drags_0 rfl rfl rfl ?_
  refine g_i2l 2 K dX7_drags_1 rfl ?_
  refine g_lconst 3 0 K dX7_drags_2 rfl (by decide) ?_
  refine g_ldc2 6 9 K dX7_drags_3 rfl kc_X7_94 ?_
  obtain ⟨r2, S1, hc3, hf⟩ := bd2_some hf
  refine g_callSi 9 [] K (Fx_ok adK adV) hs (c_X7_in hc3) km_X7_84 kt_X7_in ki_X7 kC_X7_in mw_X7_in ⟨by decide, by decide, by decide, by decide⟩ rfl rfl (Nat.le_of_ble_eq_true rfl) dX7_drags_6 rfl ?_
  refine g_if_ne 14 12 K hf dX7_drags_9 (by decide) rfl (fun hf => ?_) (fun hf => ?_)
  · refine g_iconst 13 (-1) K dX7_drags_12 rfl (by decide) ?_
    exact g_iret K hr hlk hf dX7_drags_13
  · refine g_iconst 15 0 K dX7_drags_14 rfl (by decide) ?_
    refine g_istore_n (lv' := [(2, .int 0), (0, .ref (q 0)), (1, .int a1)]) 16 2 K dX7_drags_15 rfl rfl (by decide) rfl ?_
    refine g_iconst 17 0 K dX7_drags_16 rfl (by decide) ?_
    refine g_istore_n (lv' := [(3, .int 0), (2, .int 0), (0, .ref (q 0)), (1, .int a1)]) 18 3 K dX7_drags_17 rfl rfl (by decide) rfl ?_
    refine g_sub [2, 3, 1, 0] rfl ?_
    refine g_loop2 (fun (x6 : Int32) (x7 : Int32) => [(0, .ref (q 0)), (1, .int a1), (2, .int x6), (3, .int x7)]) hf ?_
    intro k4 S5 x6 x7 hk8 hf
    refine g_iload_n 19 3 K dX7_drags_18 rfl rfl rfl ?_
    refine g_aload_n 20 0 K dX7_drags_19 rfl rfl rfl ?_
    refine gf_M_0_0 23 K dX7_drags_20 rfl ?_
    refine g_icmp_ge 55 26 K hf dX7_drags_23 (by decide) rfl (fun hf => ?_) (fun hf => ?_)
    · refine g_iload_n 56 2 K dX7_drags_55 rfl rfl rfl ?_
      exact g_iret K hr hlk hf dX7_drags_56
    · refine g_iload_n 27 2 K dX7_drags_26 rfl rfl rfl ?_
      refine g_aload_n 28 0 K dX7_drags_27 rfl rfl rfl ?_
      refine gf_M_0_2 31 K dX7_drags_28 rfl ?_
      refine g_iload_n 32 3 K dX7_drags_31 rfl rfl rfl ?_
      refine al_M_2 33 K hf dX7_drags_32 rfl (fun x9 hf => ?_)
      refine g_aload_n 34 0 K dX7_drags_33 rfl rfl rfl ?_
      refine gf_M_0_3 37 K dX7_drags_34 rfl ?_
      refine g_iload_n 38 1 K dX7_drags_37 rfl rfl rfl ?_
      refine al_M_3 39 K hf dX7_drags_38 rfl (fun x10 hf => ?_)
      refine g_icmp_ge 46 42 K hf dX7_drags_39 (by decide) rfl (fun hf => ?_) (fun hf => ?_)
      · refine g_iconst 47 0 K dX7_drags_46 rfl (by decide) ?_
        refine g_iadd 48 K dX7_drags_47 rfl ?_
        refine g_istore_n (lv' := [(2, .int (x6 + 0)), (0, .ref (q 0)), (1, .int a1), (3, .int x7)]) 49 2 K dX7_drags_48 rfl rfl (by decide) rfl ?_
        refine g_iinc (lv' := [(3, .int (x7 + 1)), (2, .int (x6 + 0)), (0, .ref (q 0)), (1, .int a1)]) 52 3 1 K dX7_drags_49 rfl rfl (by decide) (by decide) rfl ?_
        refine g_goto 18 K dX7_drags_52 (by decide) ?_
        exact g_sub [2, 3, 1, 0] rfl (hk8 _ _ _ hf)
      · refine g_iconst 43 1 K dX7_drags_42 rfl (by decide) ?_
        refine g_goto 47 K dX7_drags_43 (by decide) ?_
        refine g_iadd 48 K dX7_drags_47 rfl ?_
        refine g_istore_n (lv' := [(2, .int (x6 + 1)), (0, .ref (q 0)), (1, .int a1), (3, .int x7)]) 49 2 K dX7_drags_48 rfl rfl (by decide) rfl ?_
        refine g_iinc (lv' := [(3, .int (x7 + 1)), (2, .int (x6 + 1)), (0, .ref (q 0)), (1, .int a1)]) 52 3 1 K dX7_drags_49 rfl rfl (by decide) (by decide) rfl ?_
        refine g_goto 18 K dX7_drags_52 (by decide) ?_
        exact g_sub [2, 3, 1, 0] rfl (hk8 _ _ _ hf)
def f_X7_cart (N n : Nat) (S : St) (a1 : Int32) (a2 : Int32) : Option (Int32 × St) :=
  bd2 (f_X7_in N n S (Int32.toInt64 a1) 1 400) fun r2 S1 =>
  if r2 = 0 then
    some ((-1), S1)
  else
    lett (fun (S5 : St) =>
      if (S5.1 4) = 6 then
        some ((-1), S5)
      else
        (wr S5 4 6 (S5.1 4) a1).bind fun S7 =>
        (wr S7 5 6 (S7.1 4) a2).bind fun S8 =>
        lett (pF S8 4 ((S8.1 4) + 1)) fun S9 =>
        some (S9.1 4, S9)) fun j4 =>
    if (S1.1 4) ≤ 0 then
      j4 S1 
    else
      bd2 (f_X7_in N n S1 (Int32.toInt64 a2) 1 12) fun r11 S10 =>
      if r11 = 0 then
        some ((-1), S10)
      else
        j4 S10 
set_option maxRecDepth 20000 in
set_option maxHeartbeats 4000000 in
theorem c_X7_cart {l : Launch} {D : va_G} {q : Nat → Nat} {n : Nat} {cI cB cZ : ClassId} {adK adV : Nat → Nat} {N : Nat} {S Sz : St} {rz : Int32} {a1 : Int32} {a2 : Int32} (hf : f_X7_cart N n S a1 a2 = some (rz, Sz)) : Cn l yX7_cart cX7_cart 3 (some .int) 1 25 D (tyL cI cB cZ) (Fx adK adV) (wM q n cI cB cZ) [.ref (q 0), .int a1, .int a2] S (some (.int rz)) Sz := by
  refine c_of (by decide) fl_wM (Nat.le_of_ble_eq_true rfl) [(0, .ref (q 0)), (1, .int a1), (2, .int a2)] rfl ?_
  intro p e s m args below meth c K hr hlk hs
  have K : Ok p s m args c cX7_cart 3 RX7 D (tyL cI cB cZ) (Aw (wM q n cI cB cZ) s.heap.size) (wM q n cI cB cZ) := K
  unfold f_X7_cart at hf
  refine g_iload_n 1 1 K dX7_cart_0 rfl rfl rfl ?_
  refine g_i2l 2 K dX7_cart_1 rfl ?_
  refine g_lconst 3 1 K dX7_cart_2 rfl (by decide) ?_
  refine g_ldc2 6 400 K dX7_cart_3 rfl kc_X7_96 ?_
  obtain ⟨r2, S1, hc3, hf⟩ := bd2_some hf
  refine g_callSi 9 [] K (Fx_ok adK adV) hs (c_X7_in hc3) km_X7_84 kt_X7_in ki_X7 kC_X7_in mw_X7_in ⟨by decide, by decide, by decide, by decide⟩ rfl rfl (Nat.le_of_ble_eq_true rfl) dX7_cart_6 rfl ?_
  refine g_if_eq 40 12 K hf dX7_cart_9 (by decide) rfl (fun hf => ?_) (fun hf => ?_)
  · refine g_iconst 41 (-1) K dX7_cart_40 rfl (by decide) ?_
    exact g_iret K hr hlk hf dX7_cart_41
  · refine g_aload_n 13 0 K dX7_cart_12 rfl rfl rfl ?_
    refine gf_M_0_4 16 K dX7_cart_13 rfl ?_
    refine g_join0 31 [(0, .ref (q 0)), (1, .int a1), (2, .int a2)] [] hf (fun S5  hf => ?_) (fun j4 hj6 hf => ?_)
    · refine g_aload_n 32 0 K dX7_cart_31 rfl rfl rfl ?_
      refine gf_M_0_4 35 K dX7_cart_32 rfl ?_
      refine g_bipush 37 6 K dX7_cart_35 rfl (by decide) ?_
      refine g_icmp_ne 42 40 K hf dX7_cart_37 (by decide) rfl (fun hf => ?_) (fun hf => ?_)
      · refine g_iconst 41 (-1) K dX7_cart_40 rfl (by decide) ?_
        exact g_iret K hr hlk hf dX7_cart_41
      · refine g_aload_n 43 0 K dX7_cart_42 rfl rfl rfl ?_
        refine gf_M_0_5 46 K dX7_cart_43 rfl ?_
        refine g_aload_n 47 0 K dX7_cart_46 rfl rfl rfl ?_
        refine gf_M_0_4 50 K dX7_cart_47 rfl ?_
        refine g_iload_n 51 1 K dX7_cart_50 rfl rfl rfl ?_
        refine as_M_4 52 K hf dX7_cart_51 rfl (fun S7 hf => ?_)
        refine g_aload_n 53 0 K dX7_cart_52 rfl rfl rfl ?_
        refine gf_M_0_6 56 K dX7_cart_53 rfl ?_
        refine g_aload_n 57 0 K dX7_cart_56 rfl rfl rfl ?_
        refine gf_M_0_4 60 K dX7_cart_57 rfl ?_
        refine g_iload_n 61 2 K dX7_cart_60 rfl rfl rfl ?_
        refine as_M_5 62 K hf dX7_cart_61 rfl (fun S8 hf => ?_)
        refine g_aload_n 63 0 K dX7_cart_62 rfl rfl rfl ?_
        refine g_dup 64 K dX7_cart_63 rfl rfl ?_
        refine gf_M_0_4 67 K dX7_cart_64 rfl ?_
        refine g_iconst 68 1 K dX7_cart_67 rfl (by decide) ?_
        refine g_iadd 69 K dX7_cart_68 rfl ?_
        refine pf_M_0_4 72 K hf dX7_cart_69 rfl (fun S9 hf => ?_)
        refine g_aload_n 73 0 K dX7_cart_72 rfl rfl rfl ?_
        refine gf_M_0_4 76 K dX7_cart_73 rfl ?_
        exact g_iret K hr hlk hf dX7_cart_76
    · refine g_if_le 31 19 K hf dX7_cart_16 (by decide) rfl (fun hf => ?_) (fun hf => ?_)
      · exact g_sub [0, 1, 2] rfl (hj6 _ hf)
      · refine g_iload_n 20 2 K dX7_cart_19 rfl rfl rfl ?_
        refine g_i2l 21 K dX7_cart_20 rfl ?_
        refine g_lconst 22 1 K dX7_cart_21 rfl (by decide) ?_
        refine g_ldc2 25 12 K dX7_cart_22 rfl kc_X7_101 ?_
        obtain ⟨r11, S10, hc12, hf⟩ := bd2_some hf
        refine g_callSi 28 [] K (Fx_ok adK adV) hs (c_X7_in hc12) km_X7_84 kt_X7_in ki_X7 kC_X7_in mw_X7_in ⟨by decide, by decide, by decide, by decide⟩ rfl rfl (Nat.le_of_ble_eq_true rfl) dX7_cart_25 rfl ?_
        refine g_if_eq 40 31 K hf dX7_cart_28 (by decide) rfl (fun hf => ?_) (fun hf => ?_)
        · refine g_iconst 41 (-1) K dX7_cart_40 rfl (by decide) ?_
          exact g_iret K hr hlk hf dX7_cart_41
        · exact g_sub [0, 1, 2] rfl (hj6 _ hf)
def f_X7_clear (N n : Nat) (S : St)  : Option (Int32 × St) :=
  lett (pF S 4 0) fun S1 =>
  some (S.1 4, S1)
set_option maxRecDepth 20000 in
set_option maxHeartbeats 4000000 in
theorem c_X7_clear {l : Launch} {D : va_G} {q : Nat → Nat} {n : Nat} {cI cB cZ : ClassId} {adK adV : Nat → Nat} {N : Nat} {S Sz : St} {rz : Int32}  (hf : f_X7_clear N n S  = some (rz, Sz)) : Cn l yX7_clear cX7_clear 2 (some .int) 0 0 D (tyL cI cB cZ) (Fx adK adV) (wM q n cI cB cZ) [.ref (q 0)] S (some (.int rz)) Sz := by
  refine c_of (by decide) fl_wM (Nat.le_of_ble_eq_true rfl) [(0, .ref (q 0))] rfl ?_
  intro p e s m args below meth c K hr hlk hs
  have K : Ok p s m args c cX7_clear 2 RX7 D (tyL cI cB cZ) (Aw (wM q n cI cB cZ) s.heap.size) (wM q n cI cB cZ) := K
  unfold f_X7_clear at hf
  refine g_aload_n 1 0 K dX7_clear_0 rfl rfl rfl ?_
  refine gf_M_0_4 4 K dX7_clear_1 rfl ?_
  refine g_istore_n (lv' := [(1, .int (S.1 4)), (0, .ref (q 0))]) 5 1 K dX7_clear_4 rfl rfl (by decide) rfl ?_
  refine g_aload_n 6 1 K dX7_clear_5 rfl rfl rfl ?_
  refine g_iconst 7 0 K dX7_clear_6 rfl (by decide) ?_
  refine pf_M_0_4 10 K hf dX7_clear_7 rfl (fun S1 hf => ?_)
  refine g_iload_n 11 0 K dX7_clear_10 rfl rfl rfl ?_
  exact g_iret K hr hlk hf dX7_clear_11
def f_X7_placeOf (N n : Nat) (S : St) (a1 : Int32) (a2 : Int32) (a3 : Int32) : Option (Int32 × St) :=
  loop2 (fun (k1 : St → Int32 → Int32 → Option (Int32 × St)) (S2 : St) (x3 : Int32) (x4 : Int32) =>
    if a1 < x4 then
      some (x3, S2)
    else
      if a3 ≤ 0 then
        (rd (S2.2 5) 6 x4).bind fun x6 =>
        k1 S2 (x3 - x6) (x4 + 1)
      else
        k1 S2 (x3 - a3) (x4 + 1)) N S a2 1
set_option maxRecDepth 20000 in
set_option maxHeartbeats 4000000 in
theorem c_X7_placeOf {l : Launch} {D : va_G} {q : Nat → Nat} {n : Nat} {cI cB cZ : ClassId} {adK adV : Nat → Nat} {N : Nat} {S Sz : St} {rz : Int32} {a1 : Int32} {a2 : Int32} {a3 : Int32} (hf : f_X7_placeOf N n S a1 a2 a3 = some (rz, Sz)) : Cn l yX7_placeOf cX7_placeOf 6 (some .int) 0 0 D (tyL cI cB cZ) (Fx adK adV) (wM q n cI cB cZ) [.ref (q 0), .int a1, .int a2, .int a3] S (some (.int rz)) Sz := by
  refine c_of (by decide) fl_wM (Nat.le_of_ble_eq_true rfl) [(0, .ref (q 0)), (1, .int a1), (2, .int a2), (3, .int a3)] rfl ?_
  intro p e s m args below meth c K hr hlk hs
  have K : Ok p s m args c cX7_placeOf 6 RX7 D (tyL cI cB cZ) (Aw (wM q n cI cB cZ) s.heap.size) (wM q n cI cB cZ) := K
  unfold f_X7_placeOf at hf
  refine g_iload_n 1 2 K dX7_placeOf_0 rfl rfl rfl ?_
  refine g_istore (lv' := [(4, .int a2), (0, .ref (q 0)), (1, .int a1), (2, .int a2), (3, .int a3)]) 3 4 K dX7_placeOf_1 rfl (by decide) rfl ?_
  refine g_iconst 4 1 K dX7_placeOf_3 rfl (by decide) ?_
  refine g_istore (lv' := [(5, .int 1), (4, .int a2), (0, .ref (q 0)), (1, .int a1), (2, .int a2), (3, .int a3)]) 6 5 K dX7_placeOf_4 rfl (by decide) rfl ?_
  refine g_sub [2, 3, 4, 5, 1, 0] rfl ?_
  refine g_loop2 (fun (x3 : Int32) (x4 : Int32) => [(0, .ref (q 0)), (1, .int a1), (2, .int a2), (3, .int a3), (4, .int x3), (5, .int x4)]) hf ?_
  intro k1 S2 x3 x4 hk5 hf
  refine g_iload 8 5 K dX7_placeOf_6 rfl rfl ?_
  refine g_iload_n 9 1 K dX7_placeOf_8 rfl rfl rfl ?_
  refine g_icmp_gt 38 12 K hf dX7_placeOf_9 (by decide) rfl (fun hf => ?_) (fun hf => ?_)
  · refine g_iload 40 4 K dX7_placeOf_38 rfl rfl ?_
    exact g_iret K hr hlk hf dX7_placeOf_40
  · refine g_iload 14 4 K dX7_placeOf_12 rfl rfl ?_
    refine g_iload_n 15 3 K dX7_placeOf_14 rfl rfl rfl ?_
    refine g_if_le 22 18 K hf dX7_placeOf_15 (by decide) rfl (fun hf => ?_) (fun hf => ?_)
    · refine g_aload_n 23 0 K dX7_placeOf_22 rfl rfl rfl ?_
      refine gf_M_0_6 26 K dX7_placeOf_23 rfl ?_
      refine g_iload 28 5 K dX7_placeOf_26 rfl rfl ?_
      refine al_M_5 29 K hf dX7_placeOf_28 rfl (fun x6 hf => ?_)
      refine g_isub 30 K dX7_placeOf_29 rfl ?_
      refine g_istore (lv' := [(4, .int (x3 - x6)), (0, .ref (q 0)), (1, .int a1), (2, .int a2), (3, .int a3), (5, .int x4)]) 32 4 K dX7_placeOf_30 rfl (by decide) rfl ?_
      refine g_iinc (lv' := [(5, .int (x4 + 1)), (4, .int (x3 - x6)), (0, .ref (q 0)), (1, .int a1), (2, .int a2), (3, .int a3)]) 35 5 1 K dX7_placeOf_32 rfl rfl (by decide) (by decide) rfl ?_
      refine g_goto 6 K dX7_placeOf_35 (by decide) ?_
      exact g_sub [2, 3, 4, 5, 1, 0] rfl (hk5 _ _ _ hf)
    · refine g_iload_n 19 3 K dX7_placeOf_18 rfl rfl rfl ?_
      refine g_goto 29 K dX7_placeOf_19 (by decide) ?_
      refine g_isub 30 K dX7_placeOf_29 rfl ?_
      refine g_istore (lv' := [(4, .int (x3 - a3)), (0, .ref (q 0)), (1, .int a1), (2, .int a2), (3, .int a3), (5, .int x4)]) 32 4 K dX7_placeOf_30 rfl (by decide) rfl ?_
      refine g_iinc (lv' := [(5, .int (x4 + 1)), (4, .int (x3 - a3)), (0, .ref (q 0)), (1, .int a1), (2, .int a2), (3, .int a3)]) 35 5 1 K dX7_placeOf_32 rfl rfl (by decide) (by decide) rfl ?_
      refine g_goto 6 K dX7_placeOf_35 (by decide) ?_
      exact g_sub [2, 3, 4, 5, 1, 0] rfl (hk5 _ _ _ hf)
def f_X7_pressOn (N n : Nat) (S : St) (a1 : Int32) (a2 : Int32) (a3 : Int32) : Option (Int32 × St) :=
  loop2 (fun (k1 : St → Int32 → Int32 → Option (Int32 × St)) (S2 : St) (x3 : Int32) (x4 : Int32) =>
    if (S2.1 4) ≤ x4 then
      some (x3, S2)
    else
      bd2 (f_X7_placeOf N n S2 x4 a2 a3) fun r7 S6 =>
      bd2 (f_X7_isHull N n S6 r7) fun r10 S9 =>
      if r10 = 0 then
        k1 S9 x3 (x4 + 1)
      else
        if r7 = a1 then
          (rd (S9.2 4) 6 x4).bind fun x18 =>
          k1 S9 (x3 + (2 * x18)) (x4 + 1)
        else
          lett (fun (S13 : St) (x14 : Int32) (x15 : Int32) =>
            (rd (S13.2 4) 6 x15).bind fun x17 =>
            k1 S13 (x3 + x17) (x15 + 1)) fun j12 =>
          if r7 = (a1 - 1) then
            j12 S9 x3 x4
          else
            if r7 = (a1 + 1) then
              j12 S9 x3 x4
            else
              k1 S9 (x3 + 0) (x4 + 1)) N S 0 0
set_option maxRecDepth 20000 in
set_option maxHeartbeats 4000000 in
theorem c_X7_pressOn {l : Launch} {D : va_G} {q : Nat → Nat} {n : Nat} {cI cB cZ : ClassId} {adK adV : Nat → Nat} {N : Nat} {S Sz : St} {rz : Int32} {a1 : Int32} {a2 : Int32} {a3 : Int32} (hf : f_X7_pressOn N n S a1 a2 a3 = some (rz, Sz)) : Cn l yX7_pressOn cX7_pressOn 7 (some .int) 2 46 D (tyL cI cB cZ) (Fx adK adV) (wM q n cI cB cZ) [.ref (q 0), .int a1, .int a2, .int a3] S (some (.int rz)) Sz := by
  refine c_of (by decide) fl_wM (Nat.le_of_ble_eq_true rfl) [(0, .ref (q 0)), (1, .int a1), (2, .int a2), (3, .int a3)] rfl ?_
  intro p e s m args below meth c K hr hlk hs
  have K : Ok p s m args c cX7_pressOn 7 RX7 D (tyL cI cB cZ) (Aw (wM q n cI cB cZ) s.heap.size) (wM q n cI cB cZ) := K
  unfold f_X7_pressOn at hf
  refine g_iconst 1 0 K dX7_pressOn_0 rfl (by decide) ?_
  refine g_istore (lv' := [(4, .int 0), (0, .ref (q 0)), (1, .int a1), (2, .int a2), (3, .int a3)]) 3 4 K dX7_pressOn_1 rfl (by decide) rfl ?_
  refine g_iconst 4 0 K dX7_pressOn_3 rfl (by decide) ?_
  refine g_istore (lv' := [(5, .int 0), (4, .int 0), (0, .ref (q 0)), (1, .int a1), (2, .int a2), (3, .int a3)]) 6 5 K dX7_pressOn_4 rfl (by decide) rfl ?_
  refine g_sub [2, 3, 4, 5, 1, 0] rfl ?_
  refine g_loop2 (fun (x3 : Int32) (x4 : Int32) => [(0, .ref (q 0)), (1, .int a1), (2, .int a2), (3, .int a3), (4, .int x3), (5, .int x4)]) hf ?_
  intro k1 S2 x3 x4 hk5 hf
  refine g_iload 8 5 K dX7_pressOn_6 rfl rfl ?_
  refine g_aload_n 9 0 K dX7_pressOn_8 rfl rfl rfl ?_
  refine gf_M_0_4 12 K dX7_pressOn_9 rfl ?_
  refine g_icmp_ge 90 15 K hf dX7_pressOn_12 (by decide) rfl (fun hf => ?_) (fun hf => ?_)
  · refine g_iload 92 4 K dX7_pressOn_90 rfl rfl ?_
    exact g_iret K hr hlk hf dX7_pressOn_92
  · refine g_aload_n 16 0 K dX7_pressOn_15 rfl rfl rfl ?_
    refine g_iload 18 5 K dX7_pressOn_16 rfl rfl ?_
    refine g_iload_n 19 2 K dX7_pressOn_18 rfl rfl rfl ?_
    refine g_iload_n 20 3 K dX7_pressOn_19 rfl rfl rfl ?_
    obtain ⟨r7, S6, hc8, hf⟩ := bd2_some hf
    refine g_callVi 23 0 [] K (Fx_ok adK adV) hs (c_X7_placeOf hc8) km_X7_103 kI_X7_placeOf kS_X7_placeOf ki_X7 kC_X7_placeOf mw_X7_placeOf ⟨by decide, by decide, by decide, by decide⟩ rfl rfl rfl rfl (Nat.le_of_ble_eq_true rfl) dX7_pressOn_20 rfl ?_
    refine g_istore (lv' := [(6, .int r7), (0, .ref (q 0)), (1, .int a1), (2, .int a2), (3, .int a3), (4, .int x3), (5, .int x4)]) 25 6 K dX7_pressOn_23 rfl (by decide) rfl ?_
    refine g_aload_n 26 1 K dX7_pressOn_25 rfl rfl rfl ?_
    refine g_iload 28 0 K dX7_pressOn_26 rfl rfl ?_
    obtain ⟨r10, S9, hc11, hf⟩ := bd2_some hf
    refine g_callVi 31 0 [] K (Fx_ok adK adV) hs (c_X7_isHull hc11) km_X7_88 kI_X7_isHull kS_X7_isHull ki_X7 kC_X7_isHull mw_X7_isHull ⟨by decide, by decide, by decide, by decide⟩ rfl rfl rfl rfl (Nat.le_of_ble_eq_true rfl) dX7_pressOn_28 rfl ?_
    refine g_if_eq 84 34 K hf dX7_pressOn_31 (by decide) rfl (fun hf => ?_) (fun hf => ?_)
    · refine g_iinc (lv' := [(5, .int (x4 + 1)), (6, .int r7), (0, .ref (q 0)), (1, .int a1), (2, .int a2), (3, .int a3), (4, .int x3)]) 87 6 1 K dX7_pressOn_84 rfl rfl (by decide) (by decide) rfl ?_
      refine g_goto 6 K dX7_pressOn_87 (by decide) ?_
      exact g_sub [2, 3, 4, 5, 6, 0] rfl (hk5 _ _ _ hf)
    · refine g_iload 36 5 K dX7_pressOn_34 rfl rfl ?_
      refine g_iload 38 0 K dX7_pressOn_36 rfl rfl ?_
      refine g_iload_n 39 2 K dX7_pressOn_38 rfl rfl rfl ?_
      refine g_icmp_ne 54 42 K hf dX7_pressOn_39 (by decide) rfl (fun hf => ?_) (fun hf => ?_)
      · refine g_iconst 43 2 K dX7_pressOn_42 rfl (by decide) ?_
        refine g_aload_n 44 1 K dX7_pressOn_43 rfl rfl rfl ?_
        refine gf_M_0_5 47 K dX7_pressOn_44 rfl ?_
        refine g_iload 49 6 K dX7_pressOn_47 rfl rfl ?_
        refine al_M_4 50 K hf dX7_pressOn_49 rfl (fun x18 hf => ?_)
        refine g_imul 51 K dX7_pressOn_50 rfl ?_
        refine g_goto 81 K dX7_pressOn_51 (by decide) ?_
        refine g_iadd 82 K dX7_pressOn_81 rfl ?_
        refine g_istore (lv' := [(4, .int (x3 + (2 * x18))), (6, .int r7), (0, .ref (q 0)), (1, .int a1), (2, .int a2), (3, .int a3), (5, .int x4)]) 84 4 K dX7_pressOn_82 rfl (by decide) rfl ?_
        refine g_iinc (lv' := [(5, .int (x4 + 1)), (4, .int (x3 + (2 * x18))), (6, .int r7), (0, .ref (q 0)), (1, .int a1), (2, .int a2), (3, .int a3)]) 87 6 1 K dX7_pressOn_84 rfl rfl (by decide) (by decide) rfl ?_
        refine g_goto 6 K dX7_pressOn_87 (by decide) ?_
        exact g_sub [3, 4, 5, 6, 1, 0] rfl (hk5 _ _ _ hf)
      · refine g_iload 56 0 K dX7_pressOn_54 rfl rfl ?_
        refine g_iload_n 57 2 K dX7_pressOn_56 rfl rfl rfl ?_
        refine g_iconst 58 1 K dX7_pressOn_57 rfl (by decide) ?_
        refine g_isub 59 K dX7_pressOn_58 rfl ?_
        refine g_join2 70 (fun (x14 : Int32) (x15 : Int32) => [(0, .ref (q 0)), (1, .int a1), (2, .int a2), (3, .int a3), (4, .int x14), (5, .int x15), (6, .int r7)]) (fun (x14 : Int32) (x15 : Int32) => [.int x3]) hf (fun S13 x14 x15 hf => ?_) (fun j12 hj16 hf => ?_)
        · refine g_aload_n 71 0 K dX7_pressOn_70 rfl rfl rfl ?_
          refine gf_M_0_5 74 K dX7_pressOn_71 rfl ?_
          refine g_iload 76 5 K dX7_pressOn_74 rfl rfl ?_
          refine al_M_4 77 K hf dX7_pressOn_76 rfl (fun x17 hf => ?_)
          refine g_goto 81 K dX7_pressOn_77 (by decide) ?_
          refine g_iadd 82 K dX7_pressOn_81 rfl ?_
          refine g_istore (lv' := [(4, .int (x3 + x17)), (0, .ref (q 0)), (1, .int a1), (2, .int a2), (3, .int a3), (5, .int x15), (6, .int r7)]) 84 4 K dX7_pressOn_82 rfl (by decide) rfl ?_
          refine g_iinc (lv' := [(5, .int (x15 + 1)), (4, .int (x3 + x17)), (0, .ref (q 0)), (1, .int a1), (2, .int a2), (3, .int a3), (6, .int r7)]) 87 5 1 K dX7_pressOn_84 rfl rfl (by decide) (by decide) rfl ?_
          refine g_goto 6 K dX7_pressOn_87 (by decide) ?_
          exact g_sub [2, 3, 4, 5, 1, 0] rfl (hk5 _ _ _ hf)
        · refine g_icmp_eq 70 62 K hf dX7_pressOn_59 (by decide) rfl (fun hf => ?_) (fun hf => ?_)
          · exact g_sub [1, 2, 3, 4, 5, 6, 0] rfl (hj16 _ _ _ hf)
          · refine g_iload 64 0 K dX7_pressOn_62 rfl rfl ?_
            refine g_iload_n 65 2 K dX7_pressOn_64 rfl rfl rfl ?_
            refine g_iconst 66 1 K dX7_pressOn_65 rfl (by decide) ?_
            refine g_iadd 67 K dX7_pressOn_66 rfl ?_
            refine g_icmp_ne 80 70 K hf dX7_pressOn_67 (by decide) rfl (fun hf => ?_) (fun hf => ?_)
            · exact g_sub [1, 2, 3, 4, 5, 6, 0] rfl (hj16 _ _ _ hf)
            · refine g_iconst 81 0 K dX7_pressOn_80 rfl (by decide) ?_
              refine g_iadd 82 K dX7_pressOn_81 rfl ?_
              refine g_istore (lv' := [(4, .int (x3 + 0)), (6, .int r7), (0, .ref (q 0)), (1, .int a1), (2, .int a2), (3, .int a3), (5, .int x4)]) 84 4 K dX7_pressOn_82 rfl (by decide) rfl ?_
              refine g_iinc (lv' := [(5, .int (x4 + 1)), (4, .int (x3 + 0)), (6, .int r7), (0, .ref (q 0)), (1, .int a1), (2, .int a2), (3, .int a3)]) 87 6 1 K dX7_pressOn_84 rfl rfl (by decide) (by decide) rfl ?_
              refine g_goto 6 K dX7_pressOn_87 (by decide) ?_
              exact g_sub [3, 4, 5, 6, 1, 0] rfl (hk5 _ _ _ hf)
def f_X7_pressed (N n : Nat) (S : St) (a1 : Int32) (a2 : Int32) : Option (Int32 × St) :=
  bd2 (f_X7_isHull N n S a1) fun r2 S1 =>
  if r2 = 0 then
    some ((-1), S1)
  else
    bd2 (f_X7_in N n S1 (Int32.toInt64 a2) 0 100) fun r5 S4 =>
    if r5 = 0 then
      some ((-1), S4)
    else
      bd2 (f_X7_pressOn N n S4 a1 a2 0) fun r8 S7 =>
      some (r8, S7)
set_option maxRecDepth 20000 in
set_option maxHeartbeats 4000000 in
theorem c_X7_pressed {l : Launch} {D : va_G} {q : Nat → Nat} {n : Nat} {cI cB cZ : ClassId} {adK adV : Nat → Nat} {N : Nat} {S Sz : St} {rz : Int32} {a1 : Int32} {a2 : Int32} (hf : f_X7_pressed N n S a1 a2 = some (rz, Sz)) : Cn l yX7_pressed cX7_pressed 3 (some .int) 3 72 D (tyL cI cB cZ) (Fx adK adV) (wM q n cI cB cZ) [.ref (q 0), .int a1, .int a2] S (some (.int rz)) Sz := by
  refine c_of (by decide) fl_wM (Nat.le_of_ble_eq_true rfl) [(0, .ref (q 0)), (1, .int a1), (2, .int a2)] rfl ?_
  intro p e s m args below meth c K hr hlk hs
  have K : Ok p s m args c cX7_pressed 3 RX7 D (tyL cI cB cZ) (Aw (wM q n cI cB cZ) s.heap.size) (wM q n cI cB cZ) := K
  unfold f_X7_pressed at hf
  refine g_aload_n 1 0 K dX7_pressed_0 rfl rfl rfl ?_
  refine g_iload_n 2 1 K dX7_pressed_1 rfl rfl rfl ?_
  obtain ⟨r2, S1, hc3, hf⟩ := bd2_some hf
  refine g_callVi 5 0 [] K (Fx_ok adK adV) hs (c_X7_isHull hc3) km_X7_88 kI_X7_isHull kS_X7_isHull ki_X7 kC_X7_isHull mw_X7_isHull ⟨by decide, by decide, by decide, by decide⟩ rfl rfl rfl rfl (Nat.le_of_ble_eq_true rfl) dX7_pressed_2 rfl ?_
  refine g_if_eq 20 8 K hf dX7_pressed_5 (by decide) rfl (fun hf => ?_) (fun hf => ?_)
  · refine g_iconst 21 (-1) K dX7_pressed_20 rfl (by decide) ?_
    refine g_goto 31 K dX7_pressed_21 (by decide) ?_
    exact g_iret K hr hlk hf dX7_pressed_31
  · refine g_iload_n 9 2 K dX7_pressed_8 rfl rfl rfl ?_
    refine g_i2l 10 K dX7_pressed_9 rfl ?_
    refine g_lconst 11 0 K dX7_pressed_10 rfl (by decide) ?_
    refine g_ldc2 14 100 K dX7_pressed_11 rfl kc_X7_107 ?_
    obtain ⟨r5, S4, hc6, hf⟩ := bd2_some hf
    refine g_callSi 17 [] K (Fx_ok adK adV) hs (c_X7_in hc6) km_X7_84 kt_X7_in ki_X7 kC_X7_in mw_X7_in ⟨by decide, by decide, by decide, by decide⟩ rfl rfl (Nat.le_of_ble_eq_true rfl) dX7_pressed_14 rfl ?_
    refine g_if_ne 24 20 K hf dX7_pressed_17 (by decide) rfl (fun hf => ?_) (fun hf => ?_)
    · refine g_iconst 21 (-1) K dX7_pressed_20 rfl (by decide) ?_
      refine g_goto 31 K dX7_pressed_21 (by decide) ?_
      exact g_iret K hr hlk hf dX7_pressed_31
    · refine g_aload_n 25 0 K dX7_pressed_24 rfl rfl rfl ?_
      refine g_iload_n 26 1 K dX7_pressed_25 rfl rfl rfl ?_
      refine g_iload_n 27 2 K dX7_pressed_26 rfl rfl rfl ?_
      refine g_iconst 28 0 K dX7_pressed_27 rfl (by decide) ?_
      obtain ⟨r8, S7, hc9, hf⟩ := bd2_some hf
      refine g_callVi 31 0 [] K (Fx_ok adK adV) hs (c_X7_pressOn hc9) km_X7_109 kI_X7_pressOn kS_X7_pressOn ki_X7 kC_X7_pressOn mw_X7_pressOn ⟨by decide, by decide, by decide, by decide⟩ rfl rfl rfl rfl (Nat.le_of_ble_eq_true rfl) dX7_pressed_28 rfl ?_
      exact g_iret K hr hlk hf dX7_pressed_31
def f_X7_looks (N n : Nat) (S : St) (a1 : Int32) : Option St :=
  lett (pF S 34 100000000) fun S1 =>
  loop1 (fun (k2 : St → Int32 → Option St) (S3 : St) (x4 : Int32) =>
    bd2 (f_X7_placeOf N n S3 ((S3.1 4) - 1) x4 a1) fun r7 S6 =>
    if (S6.1 0) ≤ r7 then
      some S6
    else
      loop1 (fun (k9 : St → Int32 → Option St) (S10 : St) (x11 : Int32) =>
        if (S10.1 0) ≤ x11 then
          k2 S10 (x4 + 1)
        else
          (rd (S10.2 1) 12 x11).bind fun x13 =>
          bd2 (f_X7_pressOn N n S10 x11 x4 a1) fun r15 S14 =>
          if (S14.1 34) ≤ ((4 * x13) - r15) then
            k9 S14 (x11 + 1)
          else
            lett (pF S14 34 ((4 * x13) - r15)) fun S17 =>
            lett (pF S17 35 x11) fun S18 =>
            lett (pF S18 36 x4) fun S19 =>
            k9 S19 (x11 + 1)) N S6 0) N S1 0
set_option maxRecDepth 20000 in
set_option maxHeartbeats 4000000 in
theorem c_X7_looks {l : Launch} {D : va_G} {q : Nat → Nat} {n : Nat} {cI cB cZ : ClassId} {adK adV : Nat → Nat} {N : Nat} {S Sz : St} {a1 : Int32} (hf : f_X7_looks N n S a1 = some Sz) : Cn l yX7_looks cX7_looks 5 none 3 72 D (tyL cI cB cZ) (Fx adK adV) (wM q n cI cB cZ) [.ref (q 0), .int a1] S none Sz := by
  refine c_of (by decide) fl_wM (Nat.le_of_ble_eq_true rfl) [(0, .ref (q 0)), (1, .int a1)] rfl ?_
  intro p e s m args below meth c K hr hlk hs
  have K : Ok p s m args c cX7_looks 5 RX7 D (tyL cI cB cZ) (Aw (wM q n cI cB cZ) s.heap.size) (wM q n cI cB cZ) := K
  unfold f_X7_looks at hf
  refine g_aload_n 1 0 K dX7_looks_0 rfl rfl rfl ?_
  refine g_ldc 3 100000000 K dX7_looks_1 rfl kc_X7_112 ?_
  refine pf_M_0_34 6 K hf dX7_looks_3 rfl (fun S1 hf => ?_)
  refine g_iconst 7 0 K dX7_looks_6 rfl (by decide) ?_
  refine g_istore_n (lv' := [(2, .int 0), (0, .ref (q 0)), (1, .int a1)]) 8 2 K dX7_looks_7 rfl rfl (by decide) rfl ?_
  refine g_sub [1, 2, 0] rfl ?_
  refine g_loop1 (fun (x4 : Int32) => [(0, .ref (q 0)), (1, .int a1), (2, .int x4)]) hf ?_
  intro k2 S3 x4 hk5 hf
  refine g_aload_n 9 0 K dX7_looks_8 rfl rfl rfl ?_
  refine g_aload_n 10 0 K dX7_looks_9 rfl rfl rfl ?_
  refine gf_M_0_4 13 K dX7_looks_10 rfl ?_
  refine g_iconst 14 1 K dX7_looks_13 rfl (by decide) ?_
  refine g_isub 15 K dX7_looks_14 rfl ?_
  refine g_iload_n 16 2 K dX7_looks_15 rfl rfl rfl ?_
  refine g_iload_n 17 1 K dX7_looks_16 rfl rfl rfl ?_
  obtain ⟨r7, S6, hc8, hf⟩ := bd2_some hf
  refine g_callVi 20 0 [] K (Fx_ok adK adV) hs (c_X7_placeOf hc8) km_X7_103 kI_X7_placeOf kS_X7_placeOf ki_X7 kC_X7_placeOf mw_X7_placeOf ⟨by decide, by decide, by decide, by decide⟩ rfl rfl rfl rfl (Nat.le_of_ble_eq_true rfl) dX7_looks_17 rfl ?_
  refine g_aload_n 21 0 K dX7_looks_20 rfl rfl rfl ?_
  refine gf_M_0_0 24 K dX7_looks_21 rfl ?_
  refine g_icmp_ge 92 27 K hf dX7_looks_24 (by decide) rfl (fun hf => ?_) (fun hf => ?_)
  · exact g_vret K hr hlk hf dX7_looks_92
  · refine g_iconst 28 0 K dX7_looks_27 rfl (by decide) ?_
    refine g_istore_n (lv' := [(3, .int 0), (0, .ref (q 0)), (1, .int a1), (2, .int x4)]) 29 3 K dX7_looks_28 rfl rfl (by decide) rfl ?_
    refine g_sub [1, 2, 3, 0] rfl ?_
    refine g_loop1 (fun (x11 : Int32) => [(0, .ref (q 0)), (1, .int a1), (2, .int x4), (3, .int x11)]) hf ?_
    intro k9 S10 x11 hk12 hf
    refine g_iload_n 30 3 K dX7_looks_29 rfl rfl rfl ?_
    refine g_aload_n 31 0 K dX7_looks_30 rfl rfl rfl ?_
    refine gf_M_0_0 34 K dX7_looks_31 rfl ?_
    refine g_icmp_ge 86 37 K hf dX7_looks_34 (by decide) rfl (fun hf => ?_) (fun hf => ?_)
    · refine g_iinc (lv' := [(2, .int (x4 + 1)), (0, .ref (q 0)), (1, .int a1), (3, .int x11)]) 89 2 1 K dX7_looks_86 rfl rfl (by decide) (by decide) rfl ?_
      refine g_goto 8 K dX7_looks_89 (by decide) ?_
      exact g_sub [1, 2, 0] rfl (hk5 _ _ hf)
    · refine g_iconst 38 4 K dX7_looks_37 rfl (by decide) ?_
      refine g_aload_n 39 0 K dX7_looks_38 rfl rfl rfl ?_
      refine gf_M_0_1 42 K dX7_looks_39 rfl ?_
      refine g_iload_n 43 3 K dX7_looks_42 rfl rfl rfl ?_
      refine al_M_1 44 K hf dX7_looks_43 rfl (fun x13 hf => ?_)
      refine g_imul 45 K dX7_looks_44 rfl ?_
      refine g_aload_n 46 0 K dX7_looks_45 rfl rfl rfl ?_
      refine g_iload_n 47 3 K dX7_looks_46 rfl rfl rfl ?_
      refine g_iload_n 48 2 K dX7_looks_47 rfl rfl rfl ?_
      refine g_iload_n 49 1 K dX7_looks_48 rfl rfl rfl ?_
      obtain ⟨r15, S14, hc16, hf⟩ := bd2_some hf
      refine g_callVi 52 0 [.int (4 * x13)] K (Fx_ok adK adV) hs (c_X7_pressOn hc16) km_X7_109 kI_X7_pressOn kS_X7_pressOn ki_X7 kC_X7_pressOn mw_X7_pressOn ⟨by decide, by decide, by decide, by decide⟩ rfl rfl rfl rfl (Nat.le_of_ble_eq_true rfl) dX7_looks_49 rfl ?_
      refine g_isub 53 K dX7_looks_52 rfl ?_
      refine g_istore (lv' := [(4, .int ((4 * x13) - r15)), (0, .ref (q 0)), (1, .int a1), (2, .int x4), (3, .int x11)]) 55 4 K dX7_looks_53 rfl (by decide) rfl ?_
      refine g_iload 57 0 K dX7_looks_55 rfl rfl ?_
      refine g_aload_n 58 1 K dX7_looks_57 rfl rfl rfl ?_
      refine gf_M_0_34 61 K dX7_looks_58 rfl ?_
      refine g_icmp_ge 80 64 K hf dX7_looks_61 (by decide) rfl (fun hf => ?_) (fun hf => ?_)
      · refine g_iinc (lv' := [(3, .int (x11 + 1)), (4, .int ((4 * x13) - r15)), (0, .ref (q 0)), (1, .int a1), (2, .int x4)]) 83 4 1 K dX7_looks_80 rfl rfl (by decide) (by decide) rfl ?_
        refine g_goto 29 K dX7_looks_83 (by decide) ?_
        exact g_sub [2, 3, 4, 0] rfl (hk12 _ _ hf)
      · refine g_aload_n 65 1 K dX7_looks_64 rfl rfl rfl ?_
        refine g_iload 67 0 K dX7_looks_65 rfl rfl ?_
        refine pf_M_0_34 70 K hf dX7_looks_67 rfl (fun S17 hf => ?_)
        refine g_aload_n 71 1 K dX7_looks_70 rfl rfl rfl ?_
        refine g_iload_n 72 4 K dX7_looks_71 rfl rfl rfl ?_
        refine pf_M_0_35 75 K hf dX7_looks_72 rfl (fun S18 hf => ?_)
        refine g_aload_n 76 1 K dX7_looks_75 rfl rfl rfl ?_
        refine g_iload_n 77 3 K dX7_looks_76 rfl rfl rfl ?_
        refine pf_M_0_36 80 K hf dX7_looks_77 rfl (fun S19 hf => ?_)
        refine g_iinc (lv' := [(3, .int (x11 + 1)), (4, .int ((4 * x13) - r15)), (0, .ref (q 0)), (1, .int a1), (2, .int x4)]) 83 4 1 K dX7_looks_80 rfl rfl (by decide) (by decide) rfl ?_
        refine g_goto 29 K dX7_looks_83 (by decide) ?_
        exact g_sub [2, 3, 4, 0] rfl (hk12 _ _ hf)
def f_X7_worst (N n : Nat) (S : St) (a1 : Int32) : Option (Int32 × St) :=
  if (S.1 4) = 0 then
    some ((-100000), S)
  else
    bd2 (f_X7_in N n S (Int32.toInt64 a1) 0 2) fun r2 S1 =>
    if r2 = 0 then
      some ((-100000), S1)
    else
      (f_X7_looks N n S1 0).bind fun S4 =>
      if a1 = 0 then
        some (S4.1 34, S4)
      else
        if a1 = 1 then
          some (S4.1 35, S4)
        else
          some (S4.1 36, S4)
set_option maxRecDepth 20000 in
set_option maxHeartbeats 4000000 in
theorem c_X7_worst {l : Launch} {D : va_G} {q : Nat → Nat} {n : Nat} {cI cB cZ : ClassId} {adK adV : Nat → Nat} {N : Nat} {S Sz : St} {rz : Int32} {a1 : Int32} (hf : f_X7_worst N n S a1 = some (rz, Sz)) : Cn l yX7_worst cX7_worst 2 (some .int) 4 96 D (tyL cI cB cZ) (Fx adK adV) (wM q n cI cB cZ) [.ref (q 0), .int a1] S (some (.int rz)) Sz := by
  refine c_of (by decide) fl_wM (Nat.le_of_ble_eq_true rfl) [(0, .ref (q 0)), (1, .int a1)] rfl ?_
  intro p e s m args below meth c K hr hlk hs
  have K : Ok p s m args c cX7_worst 2 RX7 D (tyL cI cB cZ) (Aw (wM q n cI cB cZ) s.heap.size) (wM q n cI cB cZ) := K
  unfold f_X7_worst at hf
  refine g_aload_n 1 0 K dX7_worst_0 rfl rfl rfl ?_
  refine gf_M_0_4 4 K dX7_worst_1 rfl ?_
  refine g_if_eq 19 7 K hf dX7_worst_4 (by decide) rfl (fun hf => ?_) (fun hf => ?_)
  · refine g_ldc 21 (-100000) K dX7_worst_19 rfl kc_X7_124 ?_
    exact g_iret K hr hlk hf dX7_worst_21
  · refine g_iload_n 8 1 K dX7_worst_7 rfl rfl rfl ?_
    refine g_i2l 9 K dX7_worst_8 rfl ?_
    refine g_lconst 10 0 K dX7_worst_9 rfl (by decide) ?_
    refine g_ldc2 13 2 K dX7_worst_10 rfl kc_X7_122 ?_
    obtain ⟨r2, S1, hc3, hf⟩ := bd2_some hf
    refine g_callSi 16 [] K (Fx_ok adK adV) hs (c_X7_in hc3) km_X7_84 kt_X7_in ki_X7 kC_X7_in mw_X7_in ⟨by decide, by decide, by decide, by decide⟩ rfl rfl (Nat.le_of_ble_eq_true rfl) dX7_worst_13 rfl ?_
    refine g_if_ne 22 19 K hf dX7_worst_16 (by decide) rfl (fun hf => ?_) (fun hf => ?_)
    · refine g_ldc 21 (-100000) K dX7_worst_19 rfl kc_X7_124 ?_
      exact g_iret K hr hlk hf dX7_worst_21
    · refine g_aload_n 23 0 K dX7_worst_22 rfl rfl rfl ?_
      refine g_iconst 24 0 K dX7_worst_23 rfl (by decide) ?_
      obtain ⟨S4, hc6, hf⟩ := bd_some hf
      refine g_callVv 27 0 [] K (Fx_ok adK adV) hs (c_X7_looks hc6) km_X7_125 kI_X7_looks kS_X7_looks ki_X7 kC_X7_looks mw_X7_looks ⟨by decide, by decide, by decide, by decide⟩ rfl rfl rfl rfl (Nat.le_of_ble_eq_true rfl) dX7_worst_24 rfl ?_
      refine g_iload_n 28 1 K dX7_worst_27 rfl rfl rfl ?_
      refine g_if_ne 38 31 K hf dX7_worst_28 (by decide) rfl (fun hf => ?_) (fun hf => ?_)
      · refine g_aload_n 32 0 K dX7_worst_31 rfl rfl rfl ?_
        refine gf_M_0_34 35 K dX7_worst_32 rfl ?_
        refine g_goto 54 K dX7_worst_35 (by decide) ?_
        exact g_iret K hr hlk hf dX7_worst_54
      · refine g_iload_n 39 1 K dX7_worst_38 rfl rfl rfl ?_
        refine g_iconst 40 1 K dX7_worst_39 rfl (by decide) ?_
        refine g_icmp_ne 50 43 K hf dX7_worst_40 (by decide) rfl (fun hf => ?_) (fun hf => ?_)
        · refine g_aload_n 44 0 K dX7_worst_43 rfl rfl rfl ?_
          refine gf_M_0_35 47 K dX7_worst_44 rfl ?_
          refine g_goto 54 K dX7_worst_47 (by decide) ?_
          exact g_iret K hr hlk hf dX7_worst_54
        · refine g_aload_n 51 0 K dX7_worst_50 rfl rfl rfl ?_
          refine gf_M_0_36 54 K dX7_worst_51 rfl ?_
          exact g_iret K hr hlk hf dX7_worst_54
def f_X7_gap (N n : Nat) (S : St)  : Option (Int32 × St) :=
  loop2 (fun (k1 : St → Int32 → Int32 → Option (Int32 × St)) (S2 : St) (x3 : Int32) (x4 : Int32) =>
    if 12 < x4 then
      some (x3, S2)
    else
      if 0 ≤ x3 then
        some (x3, S2)
      else
        if (S2.1 4) ≤ 0 then
          some (x3, S2)
        else
          (f_X7_looks N n S2 x4).bind fun S6 =>
          if (S6.1 34) < 0 then
            k1 S6 (-1) (x4 + 1)
          else
            k1 S6 x4 (x4 + 1)) N S (-1) 1
set_option maxRecDepth 20000 in
set_option maxHeartbeats 4000000 in
theorem c_X7_gap {l : Launch} {D : va_G} {q : Nat → Nat} {n : Nat} {cI cB cZ : ClassId} {adK adV : Nat → Nat} {N : Nat} {S Sz : St} {rz : Int32}  (hf : f_X7_gap N n S  = some (rz, Sz)) : Cn l yX7_gap cX7_gap 3 (some .int) 4 96 D (tyL cI cB cZ) (Fx adK adV) (wM q n cI cB cZ) [.ref (q 0)] S (some (.int rz)) Sz := by
  refine c_of (by decide) fl_wM (Nat.le_of_ble_eq_true rfl) [(0, .ref (q 0))] rfl ?_
  intro p e s m args below meth c K hr hlk hs
  have K : Ok p s m args c cX7_gap 3 RX7 D (tyL cI cB cZ) (Aw (wM q n cI cB cZ) s.heap.size) (wM q n cI cB cZ) := K
  unfold f_X7_gap at hf
  refine g_iconst 1 (-1) K dX7_gap_0 rfl (by decide) ?_
  refine g_istore_n (lv' := [(1, .int (-1)), (0, .ref (q 0))]) 2 1 K dX7_gap_1 rfl rfl (by decide) rfl ?_
  refine g_iconst 3 1 K dX7_gap_2 rfl (by decide) ?_
  refine g_istore_n (lv' := [(2, .int 1), (1, .int (-1)), (0, .ref (q 0))]) 4 2 K dX7_gap_3 rfl rfl (by decide) rfl ?_
  refine g_sub [2, 1, 0] rfl ?_
  refine g_loop2 (fun (x3 : Int32) (x4 : Int32) => [(0, .ref (q 0)), (1, .int x3), (2, .int x4)]) hf ?_
  intro k1 S2 x3 x4 hk5 hf
  refine g_iload_n 5 2 K dX7_gap_4 rfl rfl rfl ?_
  refine g_bipush 7 12 K dX7_gap_5 rfl (by decide) ?_
  refine g_icmp_gt 45 10 K hf dX7_gap_7 (by decide) rfl (fun hf => ?_) (fun hf => ?_)
  · refine g_iload_n 46 1 K dX7_gap_45 rfl rfl rfl ?_
    exact g_iret K hr hlk hf dX7_gap_46
  · refine g_iload_n 11 1 K dX7_gap_10 rfl rfl rfl ?_
    refine g_if_ge 45 14 K hf dX7_gap_11 (by decide) rfl (fun hf => ?_) (fun hf => ?_)
    · refine g_iload_n 46 1 K dX7_gap_45 rfl rfl rfl ?_
      exact g_iret K hr hlk hf dX7_gap_46
    · refine g_aload_n 15 0 K dX7_gap_14 rfl rfl rfl ?_
      refine gf_M_0_4 18 K dX7_gap_15 rfl ?_
      refine g_if_le 45 21 K hf dX7_gap_18 (by decide) rfl (fun hf => ?_) (fun hf => ?_)
      · refine g_iload_n 46 1 K dX7_gap_45 rfl rfl rfl ?_
        exact g_iret K hr hlk hf dX7_gap_46
      · refine g_aload_n 22 0 K dX7_gap_21 rfl rfl rfl ?_
        refine g_iload_n 23 2 K dX7_gap_22 rfl rfl rfl ?_
        obtain ⟨S6, hc8, hf⟩ := bd_some hf
        refine g_callVv 26 0 [] K (Fx_ok adK adV) hs (c_X7_looks hc8) km_X7_125 kI_X7_looks kS_X7_looks ki_X7 kC_X7_looks mw_X7_looks ⟨by decide, by decide, by decide, by decide⟩ rfl rfl rfl rfl (Nat.le_of_ble_eq_true rfl) dX7_gap_23 rfl ?_
        refine g_aload_n 27 0 K dX7_gap_26 rfl rfl rfl ?_
        refine gf_M_0_34 30 K dX7_gap_27 rfl ?_
        refine g_if_lt 37 33 K hf dX7_gap_30 (by decide) rfl (fun hf => ?_) (fun hf => ?_)
        · refine g_iconst 38 (-1) K dX7_gap_37 rfl (by decide) ?_
          refine g_istore_n (lv' := [(1, .int (-1)), (0, .ref (q 0)), (2, .int x4)]) 39 1 K dX7_gap_38 rfl rfl (by decide) rfl ?_
          refine g_iinc (lv' := [(2, .int (x4 + 1)), (1, .int (-1)), (0, .ref (q 0))]) 42 2 1 K dX7_gap_39 rfl rfl (by decide) (by decide) rfl ?_
          refine g_goto 4 K dX7_gap_42 (by decide) ?_
          exact g_sub [2, 1, 0] rfl (hk5 _ _ _ hf)
        · refine g_iload_n 34 2 K dX7_gap_33 rfl rfl rfl ?_
          refine g_goto 38 K dX7_gap_34 (by decide) ?_
          refine g_istore_n (lv' := [(1, .int x4), (0, .ref (q 0)), (2, .int x4)]) 39 1 K dX7_gap_38 rfl rfl (by decide) rfl ?_
          refine g_iinc (lv' := [(2, .int (x4 + 1)), (1, .int x4), (0, .ref (q 0))]) 42 2 1 K dX7_gap_39 rfl rfl (by decide) (by decide) rfl ?_
          refine g_goto 4 K dX7_gap_42 (by decide) ?_
          exact g_sub [2, 1, 0] rfl (hk5 _ _ _ hf)
def f_X7_ship (N n : Nat) (S : St) (a1 : Int32) : Option (Int32 × St) :=
  bd2 (f_X7_in N n S (Int32.toInt64 a1) 0 239) fun r2 S1 =>
  if r2 = 0 then
    some ((-1), S1)
  else
    if (S1.1 7) = 10 then
      some ((-1), S1)
    else
      (wr S1 6 10 (S1.1 7) a1).bind fun S4 =>
      lett (pF S4 7 ((S4.1 7) + 1)) fun S5 =>
      some ((S5.1 7) - 1, S5)
set_option maxRecDepth 20000 in
set_option maxHeartbeats 4000000 in
theorem c_X7_ship {l : Launch} {D : va_G} {q : Nat → Nat} {n : Nat} {cI cB cZ : ClassId} {adK adV : Nat → Nat} {N : Nat} {S Sz : St} {rz : Int32} {a1 : Int32} (hf : f_X7_ship N n S a1 = some (rz, Sz)) : Cn l yX7_ship cX7_ship 2 (some .int) 1 25 D (tyL cI cB cZ) (Fx adK adV) (wM q n cI cB cZ) [.ref (q 0), .int a1] S (some (.int rz)) Sz := by
  refine c_of (by decide) fl_wM (Nat.le_of_ble_eq_true rfl) [(0, .ref (q 0)), (1, .int a1)] rfl ?_
  intro p e s m args below meth c K hr hlk hs
  have K : Ok p s m args c cX7_ship 2 RX7 D (tyL cI cB cZ) (Aw (wM q n cI cB cZ) s.heap.size) (wM q n cI cB cZ) := K
  unfold f_X7_ship at hf
  refine g_iload_n 1 1 K dX7_ship_0 rfl rfl rfl ?_
  refine g_i2l 2 K dX7_ship_1 rfl ?_
  refine g_lconst 3 0 K dX7_ship_2 rfl (by decide) ?_
  refine g_ldc2 6 239 K dX7_ship_3 rfl kc_X7_129 ?_
  obtain ⟨r2, S1, hc3, hf⟩ := bd2_some hf
  refine g_callSi 9 [] K (Fx_ok adK adV) hs (c_X7_in hc3) km_X7_84 kt_X7_in ki_X7 kC_X7_in mw_X7_in ⟨by decide, by decide, by decide, by decide⟩ rfl rfl (Nat.le_of_ble_eq_true rfl) dX7_ship_6 rfl ?_
  refine g_if_eq 21 12 K hf dX7_ship_9 (by decide) rfl (fun hf => ?_) (fun hf => ?_)
  · refine g_iconst 22 (-1) K dX7_ship_21 rfl (by decide) ?_
    exact g_iret K hr hlk hf dX7_ship_22
  · refine g_aload_n 13 0 K dX7_ship_12 rfl rfl rfl ?_
    refine gf_M_0_7 16 K dX7_ship_13 rfl ?_
    refine g_bipush 18 10 K dX7_ship_16 rfl (by decide) ?_
    refine g_icmp_ne 23 21 K hf dX7_ship_18 (by decide) rfl (fun hf => ?_) (fun hf => ?_)
    · refine g_iconst 22 (-1) K dX7_ship_21 rfl (by decide) ?_
      exact g_iret K hr hlk hf dX7_ship_22
    · refine g_aload_n 24 0 K dX7_ship_23 rfl rfl rfl ?_
      refine gf_M_0_8 27 K dX7_ship_24 rfl ?_
      refine g_aload_n 28 0 K dX7_ship_27 rfl rfl rfl ?_
      refine gf_M_0_7 31 K dX7_ship_28 rfl ?_
      refine g_iload_n 32 1 K dX7_ship_31 rfl rfl rfl ?_
      refine as_M_6 33 K hf dX7_ship_32 rfl (fun S4 hf => ?_)
      refine g_aload_n 34 0 K dX7_ship_33 rfl rfl rfl ?_
      refine g_dup 35 K dX7_ship_34 rfl rfl ?_
      refine gf_M_0_7 38 K dX7_ship_35 rfl ?_
      refine g_iconst 39 1 K dX7_ship_38 rfl (by decide) ?_
      refine g_iadd 40 K dX7_ship_39 rfl ?_
      refine pf_M_0_7 43 K hf dX7_ship_40 rfl (fun S5 hf => ?_)
      refine g_aload_n 44 0 K dX7_ship_43 rfl rfl rfl ?_
      refine gf_M_0_7 47 K dX7_ship_44 rfl ?_
      refine g_iconst 48 1 K dX7_ship_47 rfl (by decide) ?_
      refine g_isub 49 K dX7_ship_48 rfl ?_
      exact g_iret K hr hlk hf dX7_ship_49
def f_X7_crosser (N n : Nat) (S : St) (a1 : Int32) : Option (Int32 × St) :=
  bd2 (f_X7_in N n S (Int32.toInt64 a1) 0 239) fun r2 S1 =>
  if r2 = 0 then
    some ((-1), S1)
  else
    if (S1.1 9) = 30 then
      some ((-1), S1)
    else
      (wr S1 7 30 (S1.1 9) a1).bind fun S4 =>
      lett (pF S4 9 ((S4.1 9) + 1)) fun S5 =>
      some (S5.1 9, S5)
set_option maxRecDepth 20000 in
set_option maxHeartbeats 4000000 in
theorem c_X7_crosser {l : Launch} {D : va_G} {q : Nat → Nat} {n : Nat} {cI cB cZ : ClassId} {adK adV : Nat → Nat} {N : Nat} {S Sz : St} {rz : Int32} {a1 : Int32} (hf : f_X7_crosser N n S a1 = some (rz, Sz)) : Cn l yX7_crosser cX7_crosser 2 (some .int) 1 25 D (tyL cI cB cZ) (Fx adK adV) (wM q n cI cB cZ) [.ref (q 0), .int a1] S (some (.int rz)) Sz := by
  refine c_of (by decide) fl_wM (Nat.le_of_ble_eq_true rfl) [(0, .ref (q 0)), (1, .int a1)] rfl ?_
  intro p e s m args below meth c K hr hlk hs
  have K : Ok p s m args c cX7_crosser 2 RX7 D (tyL cI cB cZ) (Aw (wM q n cI cB cZ) s.heap.size) (wM q n cI cB cZ) := K
  unfold f_X7_crosser at hf
  refine g_iload_n 1 1 K dX7_crosser_0 rfl rfl rfl ?_
  refine g_i2l 2 K dX7_crosser_1 rfl ?_
  refine g_lconst 3 0 K dX7_crosser_2 rfl (by decide) ?_
  refine g_ldc2 6 239 K dX7_crosser_3 rfl kc_X7_129 ?_
  obtain ⟨r2, S1, hc3, hf⟩ := bd2_some hf
  refine g_callSi 9 [] K (Fx_ok adK adV) hs (c_X7_in hc3) km_X7_84 kt_X7_in ki_X7 kC_X7_in mw_X7_in ⟨by decide, by decide, by decide, by decide⟩ rfl rfl (Nat.le_of_ble_eq_true rfl) dX7_crosser_6 rfl ?_
  refine g_if_eq 21 12 K hf dX7_crosser_9 (by decide) rfl (fun hf => ?_) (fun hf => ?_)
  · refine g_iconst 22 (-1) K dX7_crosser_21 rfl (by decide) ?_
    exact g_iret K hr hlk hf dX7_crosser_22
  · refine g_aload_n 13 0 K dX7_crosser_12 rfl rfl rfl ?_
    refine gf_M_0_9 16 K dX7_crosser_13 rfl ?_
    refine g_bipush 18 30 K dX7_crosser_16 rfl (by decide) ?_
    refine g_icmp_ne 23 21 K hf dX7_crosser_18 (by decide) rfl (fun hf => ?_) (fun hf => ?_)
    · refine g_iconst 22 (-1) K dX7_crosser_21 rfl (by decide) ?_
      exact g_iret K hr hlk hf dX7_crosser_22
    · refine g_aload_n 24 0 K dX7_crosser_23 rfl rfl rfl ?_
      refine gf_M_0_10 27 K dX7_crosser_24 rfl ?_
      refine g_aload_n 28 0 K dX7_crosser_27 rfl rfl rfl ?_
      refine gf_M_0_9 31 K dX7_crosser_28 rfl ?_
      refine g_iload_n 32 1 K dX7_crosser_31 rfl rfl rfl ?_
      refine as_M_7 33 K hf dX7_crosser_32 rfl (fun S4 hf => ?_)
      refine g_aload_n 34 0 K dX7_crosser_33 rfl rfl rfl ?_
      refine g_dup 35 K dX7_crosser_34 rfl rfl ?_
      refine gf_M_0_9 38 K dX7_crosser_35 rfl ?_
      refine g_iconst 39 1 K dX7_crosser_38 rfl (by decide) ?_
      refine g_iadd 40 K dX7_crosser_39 rfl ?_
      refine pf_M_0_9 43 K hf dX7_crosser_40 rfl (fun S5 hf => ?_)
      refine g_aload_n 44 0 K dX7_crosser_43 rfl rfl rfl ?_
      refine gf_M_0_9 47 K dX7_crosser_44 rfl ?_
      exact g_iret K hr hlk hf dX7_crosser_47
def f_X7_times (N n : Nat) (S : St) (a1 : Int32) (a2 : Int32) (a3 : Int32) (a4 : Int32) : Option (Int32 × St) :=
  bd2 (f_X7_in N n S (Int32.toInt64 a1) 1 20) fun r2 S1 =>
  if r2 = 0 then
    zr 0 S1
  else
    bd2 (f_X7_in N n S1 (Int32.toInt64 a2) 1 20) fun r5 S4 =>
    if r5 = 0 then
      zr 0 S4
    else
      bd2 (f_X7_in N n S4 (Int32.toInt64 a3) 1 20) fun r8 S7 =>
      if r8 = 0 then
        zr 0 S7
      else
        bd2 (f_X7_in N n S7 (Int32.toInt64 a4) 1 9) fun r11 S10 =>
        if r11 = 0 then
          zr 0 S10
        else
          (wr S10 8 4 0 a1).bind fun S13 =>
          (wr S13 8 4 1 a2).bind fun S14 =>
          (wr S14 8 4 2 a3).bind fun S15 =>
          (wr S15 8 4 3 a4).bind fun S16 =>
          zr 1 S16
set_option maxRecDepth 20000 in
set_option maxHeartbeats 4000000 in
theorem c_X7_times {l : Launch} {D : va_G} {q : Nat → Nat} {n : Nat} {cI cB cZ : ClassId} {adK adV : Nat → Nat} {N : Nat} {S Sz : St} {rz : Int32} {a1 : Int32} {a2 : Int32} {a3 : Int32} {a4 : Int32} (hf : f_X7_times N n S a1 a2 a3 a4 = some (rz, Sz)) : Cn l yX7_times cX7_times 5 (some .boolean) 1 25 D (tyL cI cB cZ) (Fx adK adV) (wM q n cI cB cZ) [.ref (q 0), .int a1, .int a2, .int a3, .int a4] S (some (.int rz)) Sz := by
  refine c_of (by decide) fl_wM (Nat.le_of_ble_eq_true rfl) [(0, .ref (q 0)), (1, .int a1), (2, .int a2), (3, .int a3), (4, .int a4)] rfl ?_
  intro p e s m args below meth c K hr hlk hs
  have K : Ok p s m args c cX7_times 5 RX7 D (tyL cI cB cZ) (Aw (wM q n cI cB cZ) s.heap.size) (wM q n cI cB cZ) := K
  unfold f_X7_times at hf
  refine g_iload_n 1 1 K dX7_times_0 rfl rfl rfl ?_
  refine g_i2l 2 K dX7_times_1 rfl ?_
  refine g_lconst 3 1 K dX7_times_2 rfl (by decide) ?_
  refine g_ldc2 6 20 K dX7_times_3 rfl kc_X7_137 ?_
  obtain ⟨r2, S1, hc3, hf⟩ := bd2_some hf
  refine g_callSi 9 [] K (Fx_ok adK adV) hs (c_X7_in hc3) km_X7_84 kt_X7_in ki_X7 kC_X7_in mw_X7_in ⟨by decide, by decide, by decide, by decide⟩ rfl rfl (Nat.le_of_ble_eq_true rfl) dX7_times_6 rfl ?_
  refine g_if_eq 49 12 K hf dX7_times_9 (by decide) rfl (fun hf => ?_) (fun hf => ?_)
  · refine g_iconst 50 0 K dX7_times_49 rfl (by decide) ?_
    exact g_zret K hr hlk hf dX7_times_50
  · refine g_iload_n 13 2 K dX7_times_12 rfl rfl rfl ?_
    refine g_i2l 14 K dX7_times_13 rfl ?_
    refine g_lconst 15 1 K dX7_times_14 rfl (by decide) ?_
    refine g_ldc2 18 20 K dX7_times_15 rfl kc_X7_137 ?_
    obtain ⟨r5, S4, hc6, hf⟩ := bd2_some hf
    refine g_callSi 21 [] K (Fx_ok adK adV) hs (c_X7_in hc6) km_X7_84 kt_X7_in ki_X7 kC_X7_in mw_X7_in ⟨by decide, by decide, by decide, by decide⟩ rfl rfl (Nat.le_of_ble_eq_true rfl) dX7_times_18 rfl ?_
    refine g_if_eq 49 24 K hf dX7_times_21 (by decide) rfl (fun hf => ?_) (fun hf => ?_)
    · refine g_iconst 50 0 K dX7_times_49 rfl (by decide) ?_
      exact g_zret K hr hlk hf dX7_times_50
    · refine g_iload_n 25 3 K dX7_times_24 rfl rfl rfl ?_
      refine g_i2l 26 K dX7_times_25 rfl ?_
      refine g_lconst 27 1 K dX7_times_26 rfl (by decide) ?_
      refine g_ldc2 30 20 K dX7_times_27 rfl kc_X7_137 ?_
      obtain ⟨r8, S7, hc9, hf⟩ := bd2_some hf
      refine g_callSi 33 [] K (Fx_ok adK adV) hs (c_X7_in hc9) km_X7_84 kt_X7_in ki_X7 kC_X7_in mw_X7_in ⟨by decide, by decide, by decide, by decide⟩ rfl rfl (Nat.le_of_ble_eq_true rfl) dX7_times_30 rfl ?_
      refine g_if_eq 49 36 K hf dX7_times_33 (by decide) rfl (fun hf => ?_) (fun hf => ?_)
      · refine g_iconst 50 0 K dX7_times_49 rfl (by decide) ?_
        exact g_zret K hr hlk hf dX7_times_50
      · refine g_iload 38 4 K dX7_times_36 rfl rfl ?_
        refine g_i2l 39 K dX7_times_38 rfl ?_
        refine g_lconst 40 1 K dX7_times_39 rfl (by decide) ?_
        refine g_ldc2 43 9 K dX7_times_40 rfl kc_X7_94 ?_
        obtain ⟨r11, S10, hc12, hf⟩ := bd2_some hf
        refine g_callSi 46 [] K (Fx_ok adK adV) hs (c_X7_in hc12) km_X7_84 kt_X7_in ki_X7 kC_X7_in mw_X7_in ⟨by decide, by decide, by decide, by decide⟩ rfl rfl (Nat.le_of_ble_eq_true rfl) dX7_times_43 rfl ?_
        refine g_if_ne 51 49 K hf dX7_times_46 (by decide) rfl (fun hf => ?_) (fun hf => ?_)
        · refine g_iconst 50 0 K dX7_times_49 rfl (by decide) ?_
          exact g_zret K hr hlk hf dX7_times_50
        · refine g_aload_n 52 0 K dX7_times_51 rfl rfl rfl ?_
          refine gf_M_0_11 55 K dX7_times_52 rfl ?_
          refine g_iconst 56 0 K dX7_times_55 rfl (by decide) ?_
          refine g_iload_n 57 1 K dX7_times_56 rfl rfl rfl ?_
          refine as_M_8 58 K hf dX7_times_57 rfl (fun S13 hf => ?_)
          refine g_aload_n 59 0 K dX7_times_58 rfl rfl rfl ?_
          refine gf_M_0_11 62 K dX7_times_59 rfl ?_
          refine g_iconst 63 1 K dX7_times_62 rfl (by decide) ?_
          refine g_iload_n 64 2 K dX7_times_63 rfl rfl rfl ?_
          refine as_M_8 65 K hf dX7_times_64 rfl (fun S14 hf => ?_)
          refine g_aload_n 66 0 K dX7_times_65 rfl rfl rfl ?_
          refine gf_M_0_11 69 K dX7_times_66 rfl ?_
          refine g_iconst 70 2 K dX7_times_69 rfl (by decide) ?_
          refine g_iload_n 71 3 K dX7_times_70 rfl rfl rfl ?_
          refine as_M_8 72 K hf dX7_times_71 rfl (fun S15 hf => ?_)
          refine g_aload_n 73 0 K dX7_times_72 rfl rfl rfl ?_
          refine gf_M_0_11 76 K dX7_times_73 rfl ?_
          refine g_iconst 77 3 K dX7_times_76 rfl (by decide) ?_
          refine g_iload 79 4 K dX7_times_77 rfl rfl ?_
          refine as_M_8 80 K hf dX7_times_79 rfl (fun S16 hf => ?_)
          refine g_iconst 81 1 K dX7_times_80 rfl (by decide) ?_
          exact g_zret K hr hlk hf dX7_times_81
def f_X7_sorts (N n : Nat) (S : St)  : Option St :=
  loop1 (fun (k1 : St → Int32 → Option St) (S2 : St) (x3 : Int32) =>
    if (S2.1 7) ≤ x3 then
      some S2
    else
      loop1 (fun (k5 : St → Int32 → Option St) (S6 : St) (x7 : Int32) =>
        lett (fun (S10 : St) (x11 : Int32) =>
          (rd (S10.2 6) 10 x3).bind fun x13 =>
          (wr S10 17 10 x11 x13).bind fun S14 =>
          k1 S14 (x3 + 1)) fun j9 =>
        if x7 ≤ 0 then
          j9 S6 x7
        else
          (rd (S6.2 17) 10 (x7 - 1)).bind fun x15 =>
          (rd (S6.2 6) 10 x3).bind fun x16 =>
          if x15 ≤ x16 then
            j9 S6 x7
          else
            (rd (S6.2 17) 10 (x7 - 1)).bind fun x17 =>
            (wr S6 17 10 x7 x17).bind fun S18 =>
            k5 S18 (x7 + (-1))) N S2 x3) N S 0
set_option maxRecDepth 20000 in
set_option maxHeartbeats 4000000 in
theorem c_X7_sorts {l : Launch} {D : va_G} {q : Nat → Nat} {n : Nat} {cI cB cZ : ClassId} {adK adV : Nat → Nat} {N : Nat} {S Sz : St}  (hf : f_X7_sorts N n S  = some Sz) : Cn l yX7_sorts cX7_sorts 3 none 0 0 D (tyL cI cB cZ) (Fx adK adV) (wM q n cI cB cZ) [.ref (q 0)] S none Sz := by
  refine c_of (by decide) fl_wM (Nat.le_of_ble_eq_true rfl) [(0, .ref (q 0))] rfl ?_
  intro p e s m args below meth c K hr hlk hs
  have K : Ok p s m args c cX7_sorts 3 RX7 D (tyL cI cB cZ) (Aw (wM q n cI cB cZ) s.heap.size) (wM q n cI cB cZ) := K
  unfold f_X7_sorts at hf
  refine g_iconst 1 0 K dX7_sorts_0 rfl (by decide) ?_
  refine g_istore_n (lv' := [(1, .int 0), (0, .ref (q 0))]) 2 1 K dX7_sorts_1 rfl rfl (by decide) rfl ?_
  refine g_sub [1, 0] rfl ?_
  refine g_loop1 (fun (x3 : Int32) => [(0, .ref (q 0)), (1, .int x3)]) hf ?_
  intro k1 S2 x3 hk4 hf
  refine g_iload_n 3 1 K dX7_sorts_2 rfl rfl rfl ?_
  refine g_aload_n 4 0 K dX7_sorts_3 rfl rfl rfl ?_
  refine gf_M_0_7 7 K dX7_sorts_4 rfl ?_
  refine g_icmp_ge 71 10 K hf dX7_sorts_7 (by decide) rfl (fun hf => ?_) (fun hf => ?_)
  · exact g_vret K hr hlk hf dX7_sorts_71
  · refine g_iload_n 11 1 K dX7_sorts_10 rfl rfl rfl ?_
    refine g_istore_n (lv' := [(2, .int x3), (0, .ref (q 0)), (1, .int x3)]) 12 2 K dX7_sorts_11 rfl rfl (by decide) rfl ?_
    refine g_sub [1, 2, 0] rfl ?_
    refine g_loop1 (fun (x7 : Int32) => [(0, .ref (q 0)), (1, .int x3), (2, .int x7)]) hf ?_
    intro k5 S6 x7 hk8 hf
    refine g_iload_n 13 2 K dX7_sorts_12 rfl rfl rfl ?_
    refine g_join1 53 (fun (x11 : Int32) => [(0, .ref (q 0)), (1, .int x3), (2, .int x11)]) (fun (x11 : Int32) => []) hf (fun S10 x11 hf => ?_) (fun j9 hj12 hf => ?_)
    · refine g_aload_n 54 0 K dX7_sorts_53 rfl rfl rfl ?_
      refine gf_M_0_37 57 K dX7_sorts_54 rfl ?_
      refine g_iload_n 58 2 K dX7_sorts_57 rfl rfl rfl ?_
      refine g_aload_n 59 0 K dX7_sorts_58 rfl rfl rfl ?_
      refine gf_M_0_8 62 K dX7_sorts_59 rfl ?_
      refine g_iload_n 63 1 K dX7_sorts_62 rfl rfl rfl ?_
      refine al_M_6 64 K hf dX7_sorts_63 rfl (fun x13 hf => ?_)
      refine as_M_17 65 K hf dX7_sorts_64 rfl (fun S14 hf => ?_)
      refine g_iinc (lv' := [(1, .int (x3 + 1)), (0, .ref (q 0)), (2, .int x11)]) 68 1 1 K dX7_sorts_65 rfl rfl (by decide) (by decide) rfl ?_
      refine g_goto 2 K dX7_sorts_68 (by decide) ?_
      exact g_sub [1, 0] rfl (hk4 _ _ hf)
    · refine g_if_le 53 16 K hf dX7_sorts_13 (by decide) rfl (fun hf => ?_) (fun hf => ?_)
      · exact g_sub [0, 1, 2] rfl (hj12 _ _ hf)
      · refine g_aload_n 17 0 K dX7_sorts_16 rfl rfl rfl ?_
        refine gf_M_0_37 20 K dX7_sorts_17 rfl ?_
        refine g_iload_n 21 2 K dX7_sorts_20 rfl rfl rfl ?_
        refine g_iconst 22 1 K dX7_sorts_21 rfl (by decide) ?_
        refine g_isub 23 K dX7_sorts_22 rfl ?_
        refine al_M_17 24 K hf dX7_sorts_23 rfl (fun x15 hf => ?_)
        refine g_aload_n 25 0 K dX7_sorts_24 rfl rfl rfl ?_
        refine gf_M_0_8 28 K dX7_sorts_25 rfl ?_
        refine g_iload_n 29 1 K dX7_sorts_28 rfl rfl rfl ?_
        refine al_M_6 30 K hf dX7_sorts_29 rfl (fun x16 hf => ?_)
        refine g_icmp_le 53 33 K hf dX7_sorts_30 (by decide) rfl (fun hf => ?_) (fun hf => ?_)
        · exact g_sub [0, 1, 2] rfl (hj12 _ _ hf)
        · refine g_aload_n 34 0 K dX7_sorts_33 rfl rfl rfl ?_
          refine gf_M_0_37 37 K dX7_sorts_34 rfl ?_
          refine g_iload_n 38 2 K dX7_sorts_37 rfl rfl rfl ?_
          refine g_aload_n 39 0 K dX7_sorts_38 rfl rfl rfl ?_
          refine gf_M_0_37 42 K dX7_sorts_39 rfl ?_
          refine g_iload_n 43 2 K dX7_sorts_42 rfl rfl rfl ?_
          refine g_iconst 44 1 K dX7_sorts_43 rfl (by decide) ?_
          refine g_isub 45 K dX7_sorts_44 rfl ?_
          refine al_M_17 46 K hf dX7_sorts_45 rfl (fun x17 hf => ?_)
          refine as_M_17 47 K hf dX7_sorts_46 rfl (fun S18 hf => ?_)
          refine g_iinc (lv' := [(2, .int (x7 + (-1))), (0, .ref (q 0)), (1, .int x3)]) 50 2 (-1) K dX7_sorts_47 rfl rfl (by decide) (by decide) rfl ?_
          refine g_goto 12 K dX7_sorts_50 (by decide) ?_
          exact g_sub [1, 2, 0] rfl (hk8 _ _ hf)
def f_X7_cameBy (N n : Nat) (S : St) (a1 : Int32) : Option (Int32 × St) :=
  loop2 (fun (k1 : St → Int32 → Int32 → Option (Int32 × St)) (S2 : St) (x3 : Int32) (x4 : Int32) =>
    if (S2.1 7) ≤ x4 then
      some (x3, S2)
    else
      (rd (S2.2 17) 10 x4).bind fun x6 =>
      if a1 < x6 then
        k1 S2 (x3 + 0) (x4 + 1)
      else
        k1 S2 (x3 + 1) (x4 + 1)) N S 0 0
set_option maxRecDepth 20000 in
set_option maxHeartbeats 4000000 in
theorem c_X7_cameBy {l : Launch} {D : va_G} {q : Nat → Nat} {n : Nat} {cI cB cZ : ClassId} {adK adV : Nat → Nat} {N : Nat} {S Sz : St} {rz : Int32} {a1 : Int32} (hf : f_X7_cameBy N n S a1 = some (rz, Sz)) : Cn l yX7_cameBy cX7_cameBy 4 (some .int) 0 0 D (tyL cI cB cZ) (Fx adK adV) (wM q n cI cB cZ) [.ref (q 0), .int a1] S (some (.int rz)) Sz := by
  refine c_of (by decide) fl_wM (Nat.le_of_ble_eq_true rfl) [(0, .ref (q 0)), (1, .int a1)] rfl ?_
  intro p e s m args below meth c K hr hlk hs
  have K : Ok p s m args c cX7_cameBy 4 RX7 D (tyL cI cB cZ) (Aw (wM q n cI cB cZ) s.heap.size) (wM q n cI cB cZ) := K
  unfold f_X7_cameBy at hf
  refine g_iconst 1 0 K dX7_cameBy_0 rfl (by decide) ?_
  refine g_istore_n (lv' := [(2, .int 0), (0, .ref (q 0)), (1, .int a1)]) 2 2 K dX7_cameBy_1 rfl rfl (by decide) rfl ?_
  refine g_iconst 3 0 K dX7_cameBy_2 rfl (by decide) ?_
  refine g_istore_n (lv' := [(3, .int 0), (2, .int 0), (0, .ref (q 0)), (1, .int a1)]) 4 3 K dX7_cameBy_3 rfl rfl (by decide) rfl ?_
  refine g_sub [2, 3, 1, 0] rfl ?_
  refine g_loop2 (fun (x3 : Int32) (x4 : Int32) => [(0, .ref (q 0)), (1, .int a1), (2, .int x3), (3, .int x4)]) hf ?_
  intro k1 S2 x3 x4 hk5 hf
  refine g_iload_n 5 3 K dX7_cameBy_4 rfl rfl rfl ?_
  refine g_aload_n 6 0 K dX7_cameBy_5 rfl rfl rfl ?_
  refine gf_M_0_7 9 K dX7_cameBy_6 rfl ?_
  refine g_icmp_ge 36 12 K hf dX7_cameBy_9 (by decide) rfl (fun hf => ?_) (fun hf => ?_)
  · refine g_iload_n 37 2 K dX7_cameBy_36 rfl rfl rfl ?_
    exact g_iret K hr hlk hf dX7_cameBy_37
  · refine g_iload_n 13 2 K dX7_cameBy_12 rfl rfl rfl ?_
    refine g_aload_n 14 0 K dX7_cameBy_13 rfl rfl rfl ?_
    refine gf_M_0_37 17 K dX7_cameBy_14 rfl ?_
    refine g_iload_n 18 3 K dX7_cameBy_17 rfl rfl rfl ?_
    refine al_M_17 19 K hf dX7_cameBy_18 rfl (fun x6 hf => ?_)
    refine g_iload_n 20 1 K dX7_cameBy_19 rfl rfl rfl ?_
    refine g_icmp_gt 27 23 K hf dX7_cameBy_20 (by decide) rfl (fun hf => ?_) (fun hf => ?_)
    · refine g_iconst 28 0 K dX7_cameBy_27 rfl (by decide) ?_
      refine g_iadd 29 K dX7_cameBy_28 rfl ?_
      refine g_istore_n (lv' := [(2, .int (x3 + 0)), (0, .ref (q 0)), (1, .int a1), (3, .int x4)]) 30 2 K dX7_cameBy_29 rfl rfl (by decide) rfl ?_
      refine g_iinc (lv' := [(3, .int (x4 + 1)), (2, .int (x3 + 0)), (0, .ref (q 0)), (1, .int a1)]) 33 3 1 K dX7_cameBy_30 rfl rfl (by decide) (by decide) rfl ?_
      refine g_goto 4 K dX7_cameBy_33 (by decide) ?_
      exact g_sub [2, 3, 1, 0] rfl (hk5 _ _ _ hf)
    · refine g_iconst 24 1 K dX7_cameBy_23 rfl (by decide) ?_
      refine g_goto 28 K dX7_cameBy_24 (by decide) ?_
      refine g_iadd 29 K dX7_cameBy_28 rfl ?_
      refine g_istore_n (lv' := [(2, .int (x3 + 1)), (0, .ref (q 0)), (1, .int a1), (3, .int x4)]) 30 2 K dX7_cameBy_29 rfl rfl (by decide) rfl ?_
      refine g_iinc (lv' := [(3, .int (x4 + 1)), (2, .int (x3 + 1)), (0, .ref (q 0)), (1, .int a1)]) 33 3 1 K dX7_cameBy_30 rfl rfl (by decide) (by decide) rfl ?_
      refine g_goto 4 K dX7_cameBy_33 (by decide) ?_
      exact g_sub [2, 3, 1, 0] rfl (hk5 _ _ _ hf)
def f_X7_endOf (N n : Nat) (S : St) (a1 : Int32) (a2 : Int32) : Option (Int32 × St) :=
  (rd (S.2 8) 4 0).bind fun x1 =>
  (rd (S.2 8) 4 1).bind fun x2 =>
  (rd (S.2 8) 4 2).bind fun x3 =>
  some (((a1 + x1) + (x2 * a2)) + x3, S)
set_option maxRecDepth 20000 in
set_option maxHeartbeats 4000000 in
theorem c_X7_endOf {l : Launch} {D : va_G} {q : Nat → Nat} {n : Nat} {cI cB cZ : ClassId} {adK adV : Nat → Nat} {N : Nat} {S Sz : St} {rz : Int32} {a1 : Int32} {a2 : Int32} (hf : f_X7_endOf N n S a1 a2 = some (rz, Sz)) : Cn l yX7_endOf cX7_endOf 3 (some .int) 0 0 D (tyL cI cB cZ) (Fx adK adV) (wM q n cI cB cZ) [.ref (q 0), .int a1, .int a2] S (some (.int rz)) Sz := by
  refine c_of (by decide) fl_wM (Nat.le_of_ble_eq_true rfl) [(0, .ref (q 0)), (1, .int a1), (2, .int a2)] rfl ?_
  intro p e s m args below meth c K hr hlk hs
  have K : Ok p s m args c cX7_endOf 3 RX7 D (tyL cI cB cZ) (Aw (wM q n cI cB cZ) s.heap.size) (wM q n cI cB cZ) := K
  unfold f_X7_endOf at hf
  refine g_iload_n 1 1 K dX7_endOf_0 rfl rfl rfl ?_
  refine g_aload_n 2 0 K dX7_endOf_1 rfl rfl rfl ?_
  refine gf_M_0_11 5 K dX7_endOf_2 rfl ?_
  refine g_iconst 6 0 K dX7_endOf_5 rfl (by decide) ?_
  refine al_M_8 7 K hf dX7_endOf_6 rfl (fun x1 hf => ?_)
  refine g_iadd 8 K dX7_endOf_7 rfl ?_
  refine g_aload_n 9 0 K dX7_endOf_8 rfl rfl rfl ?_
  refine gf_M_0_11 12 K dX7_endOf_9 rfl ?_
  refine g_iconst 13 1 K dX7_endOf_12 rfl (by decide) ?_
  refine al_M_8 14 K hf dX7_endOf_13 rfl (fun x2 hf => ?_)
  refine g_iload_n 15 2 K dX7_endOf_14 rfl rfl rfl ?_
  refine g_imul 16 K dX7_endOf_15 rfl ?_
  refine g_iadd 17 K dX7_endOf_16 rfl ?_
  refine g_aload_n 18 0 K dX7_endOf_17 rfl rfl rfl ?_
  refine gf_M_0_11 21 K dX7_endOf_18 rfl ?_
  refine g_iconst 22 2 K dX7_endOf_21 rfl (by decide) ?_
  refine al_M_8 23 K hf dX7_endOf_22 rfl (fun x3 hf => ?_)
  refine g_iadd 24 K dX7_endOf_23 rfl ?_
  exact g_iret K hr hlk hf dX7_endOf_24
def f_X7_waitsOf (N n : Nat) (S : St) (a1 : Int32) (a2 : Int32) : Option (Int32 × St) :=
  bd2 (f_X7_cameBy N n S a2) fun r2 S1 =>
  loop2 (fun (k4 : St → Int32 → Int32 → Option (Int32 × St)) (S5 : St) (x6 : Int32) (x7 : Int32) =>
    if (r2 - a1) < x7 then
      bd2 (f_X7_endOf N n S5 a2 (r2 - a1)) fun r10 S9 =>
      loop2 (fun (k12 : St → Int32 → Int32 → Option (Int32 × St)) (S13 : St) (x14 : Int32) (x15 : Int32) =>
        if (S13.1 9) ≤ x15 then
          some (x14, S13)
        else
          (rd (S13.2 7) 30 x15).bind fun x17 =>
          bd2 (f_X7_in N n S13 (Int32.toInt64 x17) (Int32.toInt64 a2) (Int32.toInt64 (r10 - 1))) fun r19 S18 =>
          if r19 = 0 then
            k12 S18 (x14 + 0) (x15 + 1)
          else
            (rd (S18.2 7) 30 x15).bind fun x21 =>
            k12 S18 (x14 + (r10 - x21)) (x15 + 1)) N S9 x6 0
    else
      (rd (S5.2 8) 4 3).bind fun x22 =>
      (rd (S5.2 8) 4 0).bind fun x23 =>
      (rd (S5.2 8) 4 1).bind fun x24 =>
      (rd (S5.2 17) 10 ((a1 + x7) - 1)).bind fun x25 =>
      k4 S5 (x6 + (x22 * (((a2 + x23) + (x7 * x24)) - x25))) (x7 + 1)) N S1 0 1
set_option maxRecDepth 20000 in
set_option maxHeartbeats 4000000 in
theorem c_X7_waitsOf {l : Launch} {D : va_G} {q : Nat → Nat} {n : Nat} {cI cB cZ : ClassId} {adK adV : Nat → Nat} {N : Nat} {S Sz : St} {rz : Int32} {a1 : Int32} {a2 : Int32} (hf : f_X7_waitsOf N n S a1 a2 = some (rz, Sz)) : Cn l yX7_waitsOf cX7_waitsOf 7 (some .int) 1 25 D (tyL cI cB cZ) (Fx adK adV) (wM q n cI cB cZ) [.ref (q 0), .int a1, .int a2] S (some (.int rz)) Sz := by
  refine c_of (by decide) fl_wM (Nat.le_of_ble_eq_true rfl) [(0, .ref (q 0)), (1, .int a1), (2, .int a2)] rfl ?_
  intro p e s m args below meth c K hr hlk hs
  have K : Ok p s m args c cX7_waitsOf 7 RX7 D (tyL cI cB cZ) (Aw (wM q n cI cB cZ) s.heap.size) (wM q n cI cB cZ) := K
  unfold f_X7_waitsOf at hf
  refine g_aload_n 1 0 K dX7_waitsOf_0 rfl rfl rfl ?_
  refine g_iload_n 2 2 K dX7_waitsOf_1 rfl rfl rfl ?_
  obtain ⟨r2, S1, hc3, hf⟩ := bd2_some hf
  refine g_callVi 5 0 [] K (Fx_ok adK adV) hs (c_X7_cameBy hc3) km_X7_139 kI_X7_cameBy kS_X7_cameBy ki_X7 kC_X7_cameBy mw_X7_cameBy ⟨by decide, by decide, by decide, by decide⟩ rfl rfl rfl rfl (Nat.le_of_ble_eq_true rfl) dX7_waitsOf_2 rfl ?_
  refine g_iload_n 6 1 K dX7_waitsOf_5 rfl rfl rfl ?_
  refine g_isub 7 K dX7_waitsOf_6 rfl ?_
  refine g_istore_n (lv' := [(3, .int (r2 - a1)), (0, .ref (q 0)), (1, .int a1), (2, .int a2)]) 8 3 K dX7_waitsOf_7 rfl rfl (by decide) rfl ?_
  refine g_iconst 9 0 K dX7_waitsOf_8 rfl (by decide) ?_
  refine g_istore (lv' := [(4, .int 0), (3, .int (r2 - a1)), (0, .ref (q 0)), (1, .int a1), (2, .int a2)]) 11 4 K dX7_waitsOf_9 rfl (by decide) rfl ?_
  refine g_iconst 12 1 K dX7_waitsOf_11 rfl (by decide) ?_
  refine g_istore (lv' := [(5, .int 1), (4, .int 0), (3, .int (r2 - a1)), (0, .ref (q 0)), (1, .int a1), (2, .int a2)]) 14 5 K dX7_waitsOf_12 rfl (by decide) rfl ?_
  refine g_sub [3, 4, 5, 2, 1, 0] rfl ?_
  refine g_loop2 (fun (x6 : Int32) (x7 : Int32) => [(0, .ref (q 0)), (1, .int a1), (2, .int a2), (3, .int (r2 - a1)), (4, .int x6), (5, .int x7)]) hf ?_
  intro k4 S5 x6 x7 hk8 hf
  refine g_iload 16 5 K dX7_waitsOf_14 rfl rfl ?_
  refine g_iload_n 17 3 K dX7_waitsOf_16 rfl rfl rfl ?_
  refine g_icmp_gt 68 20 K hf dX7_waitsOf_17 (by decide) rfl (fun hf => ?_) (fun hf => ?_)
  · refine g_aload_n 69 0 K dX7_waitsOf_68 rfl rfl rfl ?_
    refine g_iload_n 70 2 K dX7_waitsOf_69 rfl rfl rfl ?_
    refine g_iload_n 71 3 K dX7_waitsOf_70 rfl rfl rfl ?_
    obtain ⟨r10, S9, hc11, hf⟩ := bd2_some hf
    refine g_callVi 74 0 [] K (Fx_ok adK adV) hs (c_X7_endOf hc11) km_X7_143 kI_X7_endOf kS_X7_endOf ki_X7 kC_X7_endOf mw_X7_endOf ⟨by decide, by decide, by decide, by decide⟩ rfl rfl rfl rfl (Nat.le_of_ble_eq_true rfl) dX7_waitsOf_71 rfl ?_
    refine g_istore (lv' := [(5, .int r10), (0, .ref (q 0)), (1, .int a1), (2, .int a2), (3, .int (r2 - a1)), (4, .int x6)]) 76 5 K dX7_waitsOf_74 rfl (by decide) rfl ?_
    refine g_iconst 77 0 K dX7_waitsOf_76 rfl (by decide) ?_
    refine g_istore (lv' := [(6, .int 0), (5, .int r10), (0, .ref (q 0)), (1, .int a1), (2, .int a2), (3, .int (r2 - a1)), (4, .int x6)]) 79 6 K dX7_waitsOf_77 rfl (by decide) rfl ?_
    refine g_sub [2, 3, 4, 5, 6, 1, 0] rfl ?_
    refine g_loop2 (fun (x14 : Int32) (x15 : Int32) => [(0, .ref (q 0)), (1, .int a1), (2, .int a2), (3, .int (r2 - a1)), (4, .int x14), (5, .int r10), (6, .int x15)]) hf ?_
    intro k12 S13 x14 x15 hk16 hf
    refine g_iload 81 6 K dX7_waitsOf_79 rfl rfl ?_
    refine g_aload_n 82 0 K dX7_waitsOf_81 rfl rfl rfl ?_
    refine gf_M_0_9 85 K dX7_waitsOf_82 rfl ?_
    refine g_icmp_ge 134 88 K hf dX7_waitsOf_85 (by decide) rfl (fun hf => ?_) (fun hf => ?_)
    · refine g_iload 136 4 K dX7_waitsOf_134 rfl rfl ?_
      exact g_iret K hr hlk hf dX7_waitsOf_136
    · refine g_iload 90 4 K dX7_waitsOf_88 rfl rfl ?_
      refine g_aload_n 91 0 K dX7_waitsOf_90 rfl rfl rfl ?_
      refine gf_M_0_10 94 K dX7_waitsOf_91 rfl ?_
      refine g_iload 96 6 K dX7_waitsOf_94 rfl rfl ?_
      refine al_M_7 97 K hf dX7_waitsOf_96 rfl (fun x17 hf => ?_)
      refine g_i2l 98 K dX7_waitsOf_97 rfl ?_
      refine g_iload_n 99 2 K dX7_waitsOf_98 rfl rfl rfl ?_
      refine g_i2l 100 K dX7_waitsOf_99 rfl ?_
      refine g_iload 102 5 K dX7_waitsOf_100 rfl rfl ?_
      refine g_iconst 103 1 K dX7_waitsOf_102 rfl (by decide) ?_
      refine g_isub 104 K dX7_waitsOf_103 rfl ?_
      refine g_i2l 105 K dX7_waitsOf_104 rfl ?_
      obtain ⟨r19, S18, hc20, hf⟩ := bd2_some hf
      refine g_callSi 108 [.int x14] K (Fx_ok adK adV) hs (c_X7_in hc20) km_X7_84 kt_X7_in ki_X7 kC_X7_in mw_X7_in ⟨by decide, by decide, by decide, by decide⟩ rfl rfl (Nat.le_of_ble_eq_true rfl) dX7_waitsOf_105 rfl ?_
      refine g_if_eq 124 111 K hf dX7_waitsOf_108 (by decide) rfl (fun hf => ?_) (fun hf => ?_)
      · refine g_iconst 125 0 K dX7_waitsOf_124 rfl (by decide) ?_
        refine g_iadd 126 K dX7_waitsOf_125 rfl ?_
        refine g_istore (lv' := [(4, .int (x14 + 0)), (0, .ref (q 0)), (1, .int a1), (2, .int a2), (3, .int (r2 - a1)), (5, .int r10), (6, .int x15)]) 128 4 K dX7_waitsOf_126 rfl (by decide) rfl ?_
        refine g_iinc (lv' := [(6, .int (x15 + 1)), (4, .int (x14 + 0)), (0, .ref (q 0)), (1, .int a1), (2, .int a2), (3, .int (r2 - a1)), (5, .int r10)]) 131 6 1 K dX7_waitsOf_128 rfl rfl (by decide) (by decide) rfl ?_
        refine g_goto 79 K dX7_waitsOf_131 (by decide) ?_
        exact g_sub [2, 3, 4, 5, 1, 6, 0] rfl (hk16 _ _ _ hf)
      · refine g_iload 113 5 K dX7_waitsOf_111 rfl rfl ?_
        refine g_aload_n 114 0 K dX7_waitsOf_113 rfl rfl rfl ?_
        refine gf_M_0_10 117 K dX7_waitsOf_114 rfl ?_
        refine g_iload 119 6 K dX7_waitsOf_117 rfl rfl ?_
        refine al_M_7 120 K hf dX7_waitsOf_119 rfl (fun x21 hf => ?_)
        refine g_isub 121 K dX7_waitsOf_120 rfl ?_
        refine g_goto 125 K dX7_waitsOf_121 (by decide) ?_
        refine g_iadd 126 K dX7_waitsOf_125 rfl ?_
        refine g_istore (lv' := [(4, .int (x14 + (r10 - x21))), (0, .ref (q 0)), (1, .int a1), (2, .int a2), (3, .int (r2 - a1)), (5, .int r10), (6, .int x15)]) 128 4 K dX7_waitsOf_126 rfl (by decide) rfl ?_
        refine g_iinc (lv' := [(6, .int (x15 + 1)), (4, .int (x14 + (r10 - x21))), (0, .ref (q 0)), (1, .int a1), (2, .int a2), (3, .int (r2 - a1)), (5, .int r10)]) 131 6 1 K dX7_waitsOf_128 rfl rfl (by decide) (by decide) rfl ?_
        refine g_goto 79 K dX7_waitsOf_131 (by decide) ?_
        exact g_sub [2, 3, 4, 5, 1, 6, 0] rfl (hk16 _ _ _ hf)
  · refine g_iload 22 4 K dX7_waitsOf_20 rfl rfl ?_
    refine g_aload_n 23 0 K dX7_waitsOf_22 rfl rfl rfl ?_
    refine gf_M_0_11 26 K dX7_waitsOf_23 rfl ?_
    refine g_iconst 27 3 K dX7_waitsOf_26 rfl (by decide) ?_
    refine al_M_8 28 K hf dX7_waitsOf_27 rfl (fun x22 hf => ?_)
    refine g_iload_n 29 2 K dX7_waitsOf_28 rfl rfl rfl ?_
    refine g_aload_n 30 0 K dX7_waitsOf_29 rfl rfl rfl ?_
    refine gf_M_0_11 33 K dX7_waitsOf_30 rfl ?_
    refine g_iconst 34 0 K dX7_waitsOf_33 rfl (by decide) ?_
    refine al_M_8 35 K hf dX7_waitsOf_34 rfl (fun x23 hf => ?_)
    refine g_iadd 36 K dX7_waitsOf_35 rfl ?_
    refine g_iload 38 5 K dX7_waitsOf_36 rfl rfl ?_
    refine g_aload_n 39 0 K dX7_waitsOf_38 rfl rfl rfl ?_
    refine gf_M_0_11 42 K dX7_waitsOf_39 rfl ?_
    refine g_iconst 43 1 K dX7_waitsOf_42 rfl (by decide) ?_
    refine al_M_8 44 K hf dX7_waitsOf_43 rfl (fun x24 hf => ?_)
    refine g_imul 45 K dX7_waitsOf_44 rfl ?_
    refine g_iadd 46 K dX7_waitsOf_45 rfl ?_
    refine g_aload_n 47 0 K dX7_waitsOf_46 rfl rfl rfl ?_
    refine gf_M_0_37 50 K dX7_waitsOf_47 rfl ?_
    refine g_iload_n 51 1 K dX7_waitsOf_50 rfl rfl rfl ?_
    refine g_iload 53 5 K dX7_waitsOf_51 rfl rfl ?_
    refine g_iadd 54 K dX7_waitsOf_53 rfl ?_
    refine g_iconst 55 1 K dX7_waitsOf_54 rfl (by decide) ?_
    refine g_isub 56 K dX7_waitsOf_55 rfl ?_
    refine al_M_17 57 K hf dX7_waitsOf_56 rfl (fun x25 hf => ?_)
    refine g_isub 58 K dX7_waitsOf_57 rfl ?_
    refine g_imul 59 K dX7_waitsOf_58 rfl ?_
    refine g_iadd 60 K dX7_waitsOf_59 rfl ?_
    refine g_istore (lv' := [(4, .int (x6 + (x22 * (((a2 + x23) + (x7 * x24)) - x25)))), (0, .ref (q 0)), (1, .int a1), (2, .int a2), (3, .int (r2 - a1)), (5, .int x7)]) 62 4 K dX7_waitsOf_60 rfl (by decide) rfl ?_
    refine g_iinc (lv' := [(5, .int (x7 + 1)), (4, .int (x6 + (x22 * (((a2 + x23) + (x7 * x24)) - x25)))), (0, .ref (q 0)), (1, .int a1), (2, .int a2), (3, .int (r2 - a1))]) 65 5 1 K dX7_waitsOf_62 rfl rfl (by decide) (by decide) rfl ?_
    refine g_goto 14 K dX7_waitsOf_65 (by decide) ?_
    exact g_sub [2, 3, 4, 5, 1, 0] rfl (hk8 _ _ _ hf)
def f_X7_rest (N n : Nat) (S : St) (a1 : Int32) (a2 : Int32) : Option (Int32 × St) :=
  if a1 = (S.1 7) then
    some (0, S)
  else
    if a2 ≤ 299 then
      (rd (S.2 18) 3311 ((301 * a1) + a2)).bind fun x1 =>
      some (x1, S)
    else
      some (100000000, S)
set_option maxRecDepth 20000 in
set_option maxHeartbeats 4000000 in
theorem c_X7_rest {l : Launch} {D : va_G} {q : Nat → Nat} {n : Nat} {cI cB cZ : ClassId} {adK adV : Nat → Nat} {N : Nat} {S Sz : St} {rz : Int32} {a1 : Int32} {a2 : Int32} (hf : f_X7_rest N n S a1 a2 = some (rz, Sz)) : Cn l yX7_rest cX7_rest 3 (some .int) 0 0 D (tyL cI cB cZ) (Fx adK adV) (wM q n cI cB cZ) [.ref (q 0), .int a1, .int a2] S (some (.int rz)) Sz := by
  refine c_of (by decide) fl_wM (Nat.le_of_ble_eq_true rfl) [(0, .ref (q 0)), (1, .int a1), (2, .int a2)] rfl ?_
  intro p e s m args below meth c K hr hlk hs
  have K : Ok p s m args c cX7_rest 3 RX7 D (tyL cI cB cZ) (Aw (wM q n cI cB cZ) s.heap.size) (wM q n cI cB cZ) := K
  unfold f_X7_rest at hf
  refine g_iload_n 1 1 K dX7_rest_0 rfl rfl rfl ?_
  refine g_aload_n 2 0 K dX7_rest_1 rfl rfl rfl ?_
  refine gf_M_0_7 5 K dX7_rest_2 rfl ?_
  refine g_icmp_ne 12 8 K hf dX7_rest_5 (by decide) rfl (fun hf => ?_) (fun hf => ?_)
  · refine g_iconst 9 0 K dX7_rest_8 rfl (by decide) ?_
    refine g_goto 36 K dX7_rest_9 (by decide) ?_
    exact g_iret K hr hlk hf dX7_rest_36
  · refine g_iload_n 13 2 K dX7_rest_12 rfl rfl rfl ?_
    refine g_sipush 16 299 K dX7_rest_13 rfl (by decide) ?_
    refine g_icmp_le 24 19 K hf dX7_rest_16 (by decide) rfl (fun hf => ?_) (fun hf => ?_)
    · refine g_aload_n 25 0 K dX7_rest_24 rfl rfl rfl ?_
      refine gf_M_0_38 28 K dX7_rest_25 rfl ?_
      refine g_sipush 31 301 K dX7_rest_28 rfl (by decide) ?_
      refine g_iload_n 32 1 K dX7_rest_31 rfl rfl rfl ?_
      refine g_imul 33 K dX7_rest_32 rfl ?_
      refine g_iload_n 34 2 K dX7_rest_33 rfl rfl rfl ?_
      refine g_iadd 35 K dX7_rest_34 rfl ?_
      refine al_M_18 36 K hf dX7_rest_35 rfl (fun x1 hf => ?_)
      exact g_iret K hr hlk hf dX7_rest_36
    · refine g_ldc 21 100000000 K dX7_rest_19 rfl kc_X7_112 ?_
      refine g_goto 36 K dX7_rest_21 (by decide) ?_
      exact g_iret K hr hlk hf dX7_rest_36
def f_X7_opens (N n : Nat) (S : St) (a1 : Int32) (a2 : Int32) : Option (Int32 × St) :=
  bd2 (f_X7_cameBy N n S a2) fun r2 S1 =>
  if a1 < r2 then
    bd2 (f_X7_endOf N n S1 a2 (r2 - a1)) fun r5 S4 =>
    bd2 (f_X7_rest N n S4 r2 r5) fun r8 S7 =>
    if r8 < 100000000 then
      bd2 (f_X7_waitsOf N n S7 a1 a2) fun r11 S10 =>
      some (r11 + r8, S10)
    else
      some (100000000, S7)
  else
    some (100000000, S1)
set_option maxRecDepth 20000 in
set_option maxHeartbeats 4000000 in
theorem c_X7_opens {l : Launch} {D : va_G} {q : Nat → Nat} {n : Nat} {cI cB cZ : ClassId} {adK adV : Nat → Nat} {N : Nat} {S Sz : St} {rz : Int32} {a1 : Int32} {a2 : Int32} (hf : f_X7_opens N n S a1 a2 = some (rz, Sz)) : Cn l yX7_opens cX7_opens 5 (some .int) 2 51 D (tyL cI cB cZ) (Fx adK adV) (wM q n cI cB cZ) [.ref (q 0), .int a1, .int a2] S (some (.int rz)) Sz := by
  refine c_of (by decide) fl_wM (Nat.le_of_ble_eq_true rfl) [(0, .ref (q 0)), (1, .int a1), (2, .int a2)] rfl ?_
  intro p e s m args below meth c K hr hlk hs
  have K : Ok p s m args c cX7_opens 5 RX7 D (tyL cI cB cZ) (Aw (wM q n cI cB cZ) s.heap.size) (wM q n cI cB cZ) := K
  unfold f_X7_opens at hf
  refine g_aload_n 1 0 K dX7_opens_0 rfl rfl rfl ?_
  refine g_iload_n 2 2 K dX7_opens_1 rfl rfl rfl ?_
  obtain ⟨r2, S1, hc3, hf⟩ := bd2_some hf
  refine g_callVi 5 0 [] K (Fx_ok adK adV) hs (c_X7_cameBy hc3) km_X7_139 kI_X7_cameBy kS_X7_cameBy ki_X7 kC_X7_cameBy mw_X7_cameBy ⟨by decide, by decide, by decide, by decide⟩ rfl rfl rfl rfl (Nat.le_of_ble_eq_true rfl) dX7_opens_2 rfl ?_
  refine g_istore_n (lv' := [(3, .int r2), (0, .ref (q 0)), (1, .int a1), (2, .int a2)]) 6 3 K dX7_opens_5 rfl rfl (by decide) rfl ?_
  refine g_iload_n 7 0 K dX7_opens_6 rfl rfl rfl ?_
  refine g_iload_n 8 2 K dX7_opens_7 rfl rfl rfl ?_
  refine g_icmp_gt 14 11 K hf dX7_opens_8 (by decide) rfl (fun hf => ?_) (fun hf => ?_)
  · refine g_aload_n 15 1 K dX7_opens_14 rfl rfl rfl ?_
    refine g_iload_n 16 0 K dX7_opens_15 rfl rfl rfl ?_
    refine g_aload_n 17 1 K dX7_opens_16 rfl rfl rfl ?_
    refine g_iload_n 18 3 K dX7_opens_17 rfl rfl rfl ?_
    refine g_iload_n 19 0 K dX7_opens_18 rfl rfl rfl ?_
    refine g_iload_n 20 2 K dX7_opens_19 rfl rfl rfl ?_
    refine g_isub 21 K dX7_opens_20 rfl ?_
    obtain ⟨r5, S4, hc6, hf⟩ := bd2_some hf
    refine g_callVi 24 0 [.int r2, .ref (q 0)] K (Fx_ok adK adV) hs (c_X7_endOf hc6) km_X7_143 kI_X7_endOf kS_X7_endOf ki_X7 kC_X7_endOf mw_X7_endOf ⟨by decide, by decide, by decide, by decide⟩ rfl rfl rfl rfl (Nat.le_of_ble_eq_true rfl) dX7_opens_21 rfl ?_
    obtain ⟨r8, S7, hc9, hf⟩ := bd2_some hf
    refine g_callVi 27 0 [] K (Fx_ok adK adV) hs (c_X7_rest hc9) km_X7_147 kI_X7_rest kS_X7_rest ki_X7 kC_X7_rest mw_X7_rest ⟨by decide, by decide, by decide, by decide⟩ rfl rfl rfl rfl (Nat.le_of_ble_eq_true rfl) dX7_opens_24 rfl ?_
    refine g_istore (lv' := [(4, .int r8), (3, .int r2), (0, .ref (q 0)), (1, .int a1), (2, .int a2)]) 29 4 K dX7_opens_27 rfl (by decide) rfl ?_
    refine g_iload 31 0 K dX7_opens_29 rfl rfl ?_
    refine g_ldc 33 100000000 K dX7_opens_31 rfl kc_X7_112 ?_
    refine g_icmp_lt 41 36 K hf dX7_opens_33 (by decide) rfl (fun hf => ?_) (fun hf => ?_)
    · refine g_aload_n 42 2 K dX7_opens_41 rfl rfl rfl ?_
      refine g_iload_n 43 3 K dX7_opens_42 rfl rfl rfl ?_
      refine g_iload_n 44 4 K dX7_opens_43 rfl rfl rfl ?_
      obtain ⟨r11, S10, hc12, hf⟩ := bd2_some hf
      refine g_callVi 47 0 [] K (Fx_ok adK adV) hs (c_X7_waitsOf hc12) km_X7_150 kI_X7_waitsOf kS_X7_waitsOf ki_X7 kC_X7_waitsOf mw_X7_waitsOf ⟨by decide, by decide, by decide, by decide⟩ rfl rfl rfl rfl (Nat.le_of_ble_eq_true rfl) dX7_opens_44 rfl ?_
      refine g_iload 49 0 K dX7_opens_47 rfl rfl ?_
      refine g_iadd 50 K dX7_opens_49 rfl ?_
      exact g_iret K hr hlk hf dX7_opens_50
    · refine g_ldc 38 100000000 K dX7_opens_36 rfl kc_X7_112 ?_
      refine g_goto 50 K dX7_opens_38 (by decide) ?_
      exact g_iret K hr hlk hf dX7_opens_50
  · refine g_ldc 13 100000000 K dX7_opens_11 rfl kc_X7_112 ?_
    exact g_iret K hr hlk hf dX7_opens_13
def f_X7_bestWaits (N n : Nat) (S : St)  : Option (Int32 × St) :=
  (f_X7_sorts N n S ).bind fun S1 =>
  loop1 (fun (k4 : St → Int32 → Option (Int32 × St)) (S5 : St) (x6 : Int32) =>
    if x6 < 0 then
      bd2 (f_X7_rest N n S5 0 0) fun r9 S8 =>
      some (r9, S8)
    else
      loop1 (fun (k11 : St → Int32 → Option (Int32 × St)) (S12 : St) (x13 : Int32) =>
        if x13 < 0 then
          k4 S12 (x6 + (-1))
        else
          lett (fun (S16 : St) (x17 : Int32) =>
            bd2 (f_X7_opens N n S16 x6 x13) fun r20 S19 =>
            if x17 < r20 then
              (wr S19 18 3311 ((301 * x6) + x13) x17).bind fun S22 =>
              k11 S22 (x13 + (-1))
            else
              (wr S19 18 3311 ((301 * x6) + x13) r20).bind fun S23 =>
              k11 S23 (x13 + (-1))) fun j15 =>
          if x13 = 299 then
            j15 S12 100000000
          else
            (rd (S12.2 18) 3311 (((301 * x6) + x13) + 1)).bind fun x24 =>
            j15 S12 x24) N S5 299) N S1 ((S1.1 7) - 1)
set_option maxRecDepth 20000 in
set_option maxHeartbeats 4000000 in
theorem c_X7_bestWaits {l : Launch} {D : va_G} {q : Nat → Nat} {n : Nat} {cI cB cZ : ClassId} {adK adV : Nat → Nat} {N : Nat} {S Sz : St} {rz : Int32}  (hf : f_X7_bestWaits N n S  = some (rz, Sz)) : Cn l yX7_bestWaits cX7_bestWaits 5 (some .int) 3 75 D (tyL cI cB cZ) (Fx adK adV) (wM q n cI cB cZ) [.ref (q 0)] S (some (.int rz)) Sz := by
  refine c_of (by decide) fl_wM (Nat.le_of_ble_eq_true rfl) [(0, .ref (q 0))] rfl ?_
  intro p e s m args below meth c K hr hlk hs
  have K : Ok p s m args c cX7_bestWaits 5 RX7 D (tyL cI cB cZ) (Aw (wM q n cI cB cZ) s.heap.size) (wM q n cI cB cZ) := K
  unfold f_X7_bestWaits at hf
  refine g_aload_n 1 0 K dX7_bestWaits_0 rfl rfl rfl ?_
  obtain ⟨S1, hc3, hf⟩ := bd_some hf
  refine g_callVv 4 0 [] K (Fx_ok adK adV) hs (c_X7_sorts hc3) km_X7_153 kI_X7_sorts kS_X7_sorts ki_X7 kC_X7_sorts mw_X7_sorts ⟨by decide, by decide, by decide, by decide⟩ rfl rfl rfl rfl (Nat.le_of_ble_eq_true rfl) dX7_bestWaits_1 rfl ?_
  refine g_aload_n 5 0 K dX7_bestWaits_4 rfl rfl rfl ?_
  refine gf_M_0_7 8 K dX7_bestWaits_5 rfl ?_
  refine g_iconst 9 1 K dX7_bestWaits_8 rfl (by decide) ?_
  refine g_isub 10 K dX7_bestWaits_9 rfl ?_
  refine g_istore_n (lv' := [(1, .int ((S1.1 7) - 1)), (0, .ref (q 0))]) 11 1 K dX7_bestWaits_10 rfl rfl (by decide) rfl ?_
  refine g_sub [1, 0] rfl ?_
  refine g_loop1 (fun (x6 : Int32) => [(0, .ref (q 0)), (1, .int x6)]) hf ?_
  intro k4 S5 x6 hk7 hf
  refine g_iload_n 12 1 K dX7_bestWaits_11 rfl rfl rfl ?_
  refine g_if_lt 94 15 K hf dX7_bestWaits_12 (by decide) rfl (fun hf => ?_) (fun hf => ?_)
  · refine g_aload_n 95 0 K dX7_bestWaits_94 rfl rfl rfl ?_
    refine g_iconst 96 0 K dX7_bestWaits_95 rfl (by decide) ?_
    refine g_iconst 97 0 K dX7_bestWaits_96 rfl (by decide) ?_
    obtain ⟨r9, S8, hc10, hf⟩ := bd2_some hf
    refine g_callVi 100 0 [] K (Fx_ok adK adV) hs (c_X7_rest hc10) km_X7_147 kI_X7_rest kS_X7_rest ki_X7 kC_X7_rest mw_X7_rest ⟨by decide, by decide, by decide, by decide⟩ rfl rfl rfl rfl (Nat.le_of_ble_eq_true rfl) dX7_bestWaits_97 rfl ?_
    exact g_iret K hr hlk hf dX7_bestWaits_100
  · refine g_sipush 18 299 K dX7_bestWaits_15 rfl (by decide) ?_
    refine g_istore_n (lv' := [(2, .int 299), (0, .ref (q 0)), (1, .int x6)]) 19 2 K dX7_bestWaits_18 rfl rfl (by decide) rfl ?_
    refine g_sub [1, 2, 0] rfl ?_
    refine g_loop1 (fun (x13 : Int32) => [(0, .ref (q 0)), (1, .int x6), (2, .int x13)]) hf ?_
    intro k11 S12 x13 hk14 hf
    refine g_iload_n 20 2 K dX7_bestWaits_19 rfl rfl rfl ?_
    refine g_if_lt 88 23 K hf dX7_bestWaits_20 (by decide) rfl (fun hf => ?_) (fun hf => ?_)
    · refine g_iinc (lv' := [(1, .int (x6 + (-1))), (0, .ref (q 0)), (2, .int x13)]) 91 1 (-1) K dX7_bestWaits_88 rfl rfl (by decide) (by decide) rfl ?_
      refine g_goto 11 K dX7_bestWaits_91 (by decide) ?_
      exact g_sub [1, 0] rfl (hk7 _ _ hf)
    · refine g_iload_n 24 2 K dX7_bestWaits_23 rfl rfl rfl ?_
      refine g_sipush 27 299 K dX7_bestWaits_24 rfl (by decide) ?_
      refine g_join1 49 (fun (x17 : Int32) => [(0, .ref (q 0)), (1, .int x6), (2, .int x13)]) (fun (x17 : Int32) => [.int x17]) hf (fun S16 x17 hf => ?_) (fun j15 hj18 hf => ?_)
      · refine g_istore_n (lv' := [(3, .int x17), (0, .ref (q 0)), (1, .int x6), (2, .int x13)]) 50 3 K dX7_bestWaits_49 rfl rfl (by decide) rfl ?_
        refine g_aload_n 51 1 K dX7_bestWaits_50 rfl rfl rfl ?_
        refine g_iload_n 52 2 K dX7_bestWaits_51 rfl rfl rfl ?_
        refine g_iload_n 53 3 K dX7_bestWaits_52 rfl rfl rfl ?_
        obtain ⟨r20, S19, hc21, hf⟩ := bd2_some hf
        refine g_callVi 56 0 [] K (Fx_ok adK adV) hs (c_X7_opens hc21) km_X7_156 kI_X7_opens kS_X7_opens ki_X7 kC_X7_opens mw_X7_opens ⟨by decide, by decide, by decide, by decide⟩ rfl rfl rfl rfl (Nat.le_of_ble_eq_true rfl) dX7_bestWaits_53 rfl ?_
        refine g_istore (lv' := [(4, .int r20), (3, .int x17), (0, .ref (q 0)), (1, .int x6), (2, .int x13)]) 58 4 K dX7_bestWaits_56 rfl (by decide) rfl ?_
        refine g_aload_n 59 2 K dX7_bestWaits_58 rfl rfl rfl ?_
        refine gf_M_0_38 62 K dX7_bestWaits_59 rfl ?_
        refine g_sipush 65 301 K dX7_bestWaits_62 rfl (by decide) ?_
        refine g_iload_n 66 3 K dX7_bestWaits_65 rfl rfl rfl ?_
        refine g_imul 67 K dX7_bestWaits_66 rfl ?_
        refine g_iload_n 68 4 K dX7_bestWaits_67 rfl rfl rfl ?_
        refine g_iadd 69 K dX7_bestWaits_68 rfl ?_
        refine g_iload 71 0 K dX7_bestWaits_69 rfl rfl ?_
        refine g_iload_n 72 1 K dX7_bestWaits_71 rfl rfl rfl ?_
        refine g_icmp_gt 80 75 K hf dX7_bestWaits_72 (by decide) rfl (fun hf => ?_) (fun hf => ?_)
        · refine g_iload_n 81 1 K dX7_bestWaits_80 rfl rfl rfl ?_
          refine as_M_18 82 K hf dX7_bestWaits_81 rfl (fun S22 hf => ?_)
          refine g_iinc (lv' := [(2, .int (x13 + (-1))), (4, .int r20), (3, .int x17), (0, .ref (q 0)), (1, .int x6)]) 85 4 (-1) K dX7_bestWaits_82 rfl rfl (by decide) (by decide) rfl ?_
          refine g_goto 19 K dX7_bestWaits_85 (by decide) ?_
          exact g_sub [3, 4, 0] rfl (hk14 _ _ hf)
        · refine g_iload 77 0 K dX7_bestWaits_75 rfl rfl ?_
          refine g_goto 81 K dX7_bestWaits_77 (by decide) ?_
          refine as_M_18 82 K hf dX7_bestWaits_81 rfl (fun S23 hf => ?_)
          refine g_iinc (lv' := [(2, .int (x13 + (-1))), (4, .int r20), (3, .int x17), (0, .ref (q 0)), (1, .int x6)]) 85 4 (-1) K dX7_bestWaits_82 rfl rfl (by decide) (by decide) rfl ?_
          refine g_goto 19 K dX7_bestWaits_85 (by decide) ?_
          exact g_sub [3, 4, 0] rfl (hk14 _ _ hf)
      · refine g_icmp_ne 35 30 K hf dX7_bestWaits_27 (by decide) rfl (fun hf => ?_) (fun hf => ?_)
        · refine g_ldc 32 100000000 K dX7_bestWaits_30 rfl kc_X7_112 ?_
          refine g_goto 49 K dX7_bestWaits_32 (by decide) ?_
          exact g_sub [0, 1, 2] rfl (hj18 _ _ hf)
        · refine g_aload_n 36 0 K dX7_bestWaits_35 rfl rfl rfl ?_
          refine gf_M_0_38 39 K dX7_bestWaits_36 rfl ?_
          refine g_sipush 42 301 K dX7_bestWaits_39 rfl (by decide) ?_
          refine g_iload_n 43 1 K dX7_bestWaits_42 rfl rfl rfl ?_
          refine g_imul 44 K dX7_bestWaits_43 rfl ?_
          refine g_iload_n 45 2 K dX7_bestWaits_44 rfl rfl rfl ?_
          refine g_iadd 46 K dX7_bestWaits_45 rfl ?_
          refine g_iconst 47 1 K dX7_bestWaits_46 rfl (by decide) ?_
          refine g_iadd 48 K dX7_bestWaits_47 rfl ?_
          refine al_M_18 49 K hf dX7_bestWaits_48 rfl (fun x24 hf => ?_)
          exact g_sub [0, 1, 2] rfl (hj18 _ _ hf)
def f_X7_waits (N n : Nat) (S : St)  : Option (Int32 × St) :=
  bd2 (f_X7_bestWaits N n S ) fun r2 S1 =>
  if r2 < 100000000 then
    some (r2, S1)
  else
    some ((-1), S1)
set_option maxRecDepth 20000 in
set_option maxHeartbeats 4000000 in
theorem c_X7_waits {l : Launch} {D : va_G} {q : Nat → Nat} {n : Nat} {cI cB cZ : ClassId} {adK adV : Nat → Nat} {N : Nat} {S Sz : St} {rz : Int32}  (hf : f_X7_waits N n S  = some (rz, Sz)) : Cn l yX7_waits cX7_waits 2 (some .int) 4 99 D (tyL cI cB cZ) (Fx adK adV) (wM q n cI cB cZ) [.ref (q 0)] S (some (.int rz)) Sz := by
  refine c_of (by decide) fl_wM (Nat.le_of_ble_eq_true rfl) [(0, .ref (q 0))] rfl ?_
  intro p e s m args below meth c K hr hlk hs
  have K : Ok p s m args c cX7_waits 2 RX7 D (tyL cI cB cZ) (Aw (wM q n cI cB cZ) s.heap.size) (wM q n cI cB cZ) := K
  unfold f_X7_waits at hf
  refine g_aload_n 1 0 K dX7_waits_0 rfl rfl rfl ?_
  obtain ⟨r2, S1, hc3, hf⟩ := bd2_some hf
  refine g_callVi 4 0 [] K (Fx_ok adK adV) hs (c_X7_bestWaits hc3) km_X7_159 kI_X7_bestWaits kS_X7_bestWaits ki_X7 kC_X7_bestWaits mw_X7_bestWaits ⟨by decide, by decide, by decide, by decide⟩ rfl rfl rfl rfl (Nat.le_of_ble_eq_true rfl) dX7_waits_1 rfl ?_
  refine g_istore_n (lv' := [(1, .int r2), (0, .ref (q 0))]) 5 1 K dX7_waits_4 rfl rfl (by decide) rfl ?_
  refine g_iload_n 6 0 K dX7_waits_5 rfl rfl rfl ?_
  refine g_ldc 8 100000000 K dX7_waits_6 rfl kc_X7_112 ?_
  refine g_icmp_lt 15 11 K hf dX7_waits_8 (by decide) rfl (fun hf => ?_) (fun hf => ?_)
  · refine g_iload_n 16 0 K dX7_waits_15 rfl rfl rfl ?_
    exact g_iret K hr hlk hf dX7_waits_16
  · refine g_iconst 12 (-1) K dX7_waits_11 rfl (by decide) ?_
    refine g_goto 16 K dX7_waits_12 (by decide) ?_
    exact g_iret K hr hlk hf dX7_waits_16
def f_X7_opening (N n : Nat) (S : St) (a1 : Int32) (a2 : Int32) : Option (Int32 × St) :=
  bd2 (f_X7_in N n S (Int32.toInt64 a2) 0 2) fun r2 S1 =>
  if r2 = 0 then
    some ((-1), S1)
  else
    if a1 < 0 then
      some ((-1), S1)
    else
      bd2 (f_X7_bestWaits N n S1 ) fun r5 S4 =>
      if r5 < 100000000 then
        loop3 (fun (k7 : St → Int32 → Int32 → Int32 → Option (Int32 × St)) (S8 : St) (x9 : Int32) (x10 : Int32) (x11 : Int32) =>
          if (S8.1 7) ≤ x9 then
            some ((-1), S8)
          else
            loop1 (fun (k13 : St → Int32 → Option (Int32 × St)) (S14 : St) (x15 : Int32) =>
              bd2 (f_X7_opens N n S14 x9 x15) fun r18 S17 =>
              bd2 (f_X7_rest N n S17 x9 x10) fun r21 S20 =>
              if r18 = r21 then
                bd2 (f_X7_cameBy N n S20 x15) fun r24 S23 =>
                if x11 = a1 then
                  if a2 = 0 then
                    some (x15, S23)
                  else
                    if a2 = 1 then
                      some (r24 - x9, S23)
                    else
                      bd2 (f_X7_endOf N n S23 x15 (r24 - x9)) fun r30 S29 =>
                      some (r30, S29)
                else
                  bd2 (f_X7_endOf N n S23 x15 (r24 - x9)) fun r27 S26 =>
                  k7 S26 (x9 + (r24 - x9)) r27 (x11 + 1)
              else
                k13 S20 (x15 + 1)) N S8 x10) N S4 0 0 0
      else
        some ((-1), S4)
set_option maxRecDepth 20000 in
set_option maxHeartbeats 4000000 in
theorem c_X7_opening {l : Launch} {D : va_G} {q : Nat → Nat} {n : Nat} {cI cB cZ : ClassId} {adK adV : Nat → Nat} {N : Nat} {S Sz : St} {rz : Int32} {a1 : Int32} {a2 : Int32} (hf : f_X7_opening N n S a1 a2 = some (rz, Sz)) : Cn l yX7_opening cX7_opening 8 (some .int) 4 99 D (tyL cI cB cZ) (Fx adK adV) (wM q n cI cB cZ) [.ref (q 0), .int a1, .int a2] S (some (.int rz)) Sz := by
  refine c_of (by decide) fl_wM (Nat.le_of_ble_eq_true rfl) [(0, .ref (q 0)), (1, .int a1), (2, .int a2)] rfl ?_
  intro p e s m args below meth c K hr hlk hs
  have K : Ok p s m args c cX7_opening 8 RX7 D (tyL cI cB cZ) (Aw (wM q n cI cB cZ) s.heap.size) (wM q n cI cB cZ) := K
  unfold f_X7_opening at hf
  refine g_iload_n 1 2 K dX7_opening_0 rfl rfl rfl ?_
  refine g_i2l 2 K dX7_opening_1 rfl ?_
  refine g_lconst 3 0 K dX7_opening_2 rfl (by decide) ?_
  refine g_ldc2 6 2 K dX7_opening_3 rfl kc_X7_122 ?_
  obtain ⟨r2, S1, hc3, hf⟩ := bd2_some hf
  refine g_callSi 9 [] K (Fx_ok adK adV) hs (c_X7_in hc3) km_X7_84 kt_X7_in ki_X7 kC_X7_in mw_X7_in ⟨by decide, by decide, by decide, by decide⟩ rfl rfl (Nat.le_of_ble_eq_true rfl) dX7_opening_6 rfl ?_
  refine g_if_eq 25 12 K hf dX7_opening_9 (by decide) rfl (fun hf => ?_) (fun hf => ?_)
  · refine g_iconst 26 (-1) K dX7_opening_25 rfl (by decide) ?_
    exact g_iret K hr hlk hf dX7_opening_26
  · refine g_iload_n 13 1 K dX7_opening_12 rfl rfl rfl ?_
    refine g_if_lt 25 16 K hf dX7_opening_13 (by decide) rfl (fun hf => ?_) (fun hf => ?_)
    · refine g_iconst 26 (-1) K dX7_opening_25 rfl (by decide) ?_
      exact g_iret K hr hlk hf dX7_opening_26
    · refine g_aload_n 17 0 K dX7_opening_16 rfl rfl rfl ?_
      obtain ⟨r5, S4, hc6, hf⟩ := bd2_some hf
      refine g_callVi 20 0 [] K (Fx_ok adK adV) hs (c_X7_bestWaits hc6) km_X7_159 kI_X7_bestWaits kS_X7_bestWaits ki_X7 kC_X7_bestWaits mw_X7_bestWaits ⟨by decide, by decide, by decide, by decide⟩ rfl rfl rfl rfl (Nat.le_of_ble_eq_true rfl) dX7_opening_17 rfl ?_
      refine g_ldc 22 100000000 K dX7_opening_20 rfl kc_X7_112 ?_
      refine g_icmp_lt 27 25 K hf dX7_opening_22 (by decide) rfl (fun hf => ?_) (fun hf => ?_)
      · refine g_iconst 28 0 K dX7_opening_27 rfl (by decide) ?_
        refine g_istore_n (lv' := [(3, .int 0), (0, .ref (q 0)), (1, .int a1), (2, .int a2)]) 29 3 K dX7_opening_28 rfl rfl (by decide) rfl ?_
        refine g_iconst 30 0 K dX7_opening_29 rfl (by decide) ?_
        refine g_istore (lv' := [(4, .int 0), (3, .int 0), (0, .ref (q 0)), (1, .int a1), (2, .int a2)]) 32 4 K dX7_opening_30 rfl (by decide) rfl ?_
        refine g_iconst 33 0 K dX7_opening_32 rfl (by decide) ?_
        refine g_istore (lv' := [(5, .int 0), (4, .int 0), (3, .int 0), (0, .ref (q 0)), (1, .int a1), (2, .int a2)]) 35 5 K dX7_opening_33 rfl (by decide) rfl ?_
        refine g_sub [3, 4, 5, 2, 1, 0] rfl ?_
        refine g_loop3 (fun (x9 : Int32) (x10 : Int32) (x11 : Int32) => [(0, .ref (q 0)), (1, .int a1), (2, .int a2), (3, .int x9), (4, .int x10), (5, .int x11)]) hf ?_
        intro k7 S8 x9 x10 x11 hk12 hf
        refine g_iload_n 36 3 K dX7_opening_35 rfl rfl rfl ?_
        refine g_aload_n 37 0 K dX7_opening_36 rfl rfl rfl ?_
        refine gf_M_0_7 40 K dX7_opening_37 rfl ?_
        refine g_icmp_ge 135 43 K hf dX7_opening_40 (by decide) rfl (fun hf => ?_) (fun hf => ?_)
        · refine g_iconst 136 (-1) K dX7_opening_135 rfl (by decide) ?_
          exact g_iret K hr hlk hf dX7_opening_136
        · refine g_iload 45 4 K dX7_opening_43 rfl rfl ?_
          refine g_istore (lv' := [(6, .int x10), (0, .ref (q 0)), (1, .int a1), (2, .int a2), (3, .int x9), (4, .int x10), (5, .int x11)]) 47 6 K dX7_opening_45 rfl (by decide) rfl ?_
          refine g_sub [1, 2, 3, 4, 5, 6, 0] rfl ?_
          refine g_loop1 (fun (x15 : Int32) => [(0, .ref (q 0)), (1, .int a1), (2, .int a2), (3, .int x9), (4, .int x10), (5, .int x11), (6, .int x15)]) hf ?_
          intro k13 S14 x15 hk16 hf
          refine g_aload_n 48 0 K dX7_opening_47 rfl rfl rfl ?_
          refine g_iload_n 49 3 K dX7_opening_48 rfl rfl rfl ?_
          refine g_iload 51 6 K dX7_opening_49 rfl rfl ?_
          obtain ⟨r18, S17, hc19, hf⟩ := bd2_some hf
          refine g_callVi 54 0 [] K (Fx_ok adK adV) hs (c_X7_opens hc19) km_X7_156 kI_X7_opens kS_X7_opens ki_X7 kC_X7_opens mw_X7_opens ⟨by decide, by decide, by decide, by decide⟩ rfl rfl rfl rfl (Nat.le_of_ble_eq_true rfl) dX7_opening_51 rfl ?_
          refine g_aload_n 55 0 K dX7_opening_54 rfl rfl rfl ?_
          refine g_iload_n 56 3 K dX7_opening_55 rfl rfl rfl ?_
          refine g_iload 58 4 K dX7_opening_56 rfl rfl ?_
          obtain ⟨r21, S20, hc22, hf⟩ := bd2_some hf
          refine g_callVi 61 0 [.int r18] K (Fx_ok adK adV) hs (c_X7_rest hc22) km_X7_147 kI_X7_rest kS_X7_rest ki_X7 kC_X7_rest mw_X7_rest ⟨by decide, by decide, by decide, by decide⟩ rfl rfl rfl rfl (Nat.le_of_ble_eq_true rfl) dX7_opening_58 rfl ?_
          refine g_icmp_eq 70 64 K hf dX7_opening_61 (by decide) rfl (fun hf => ?_) (fun hf => ?_)
          · refine g_aload_n 71 0 K dX7_opening_70 rfl rfl rfl ?_
            refine g_iload 73 6 K dX7_opening_71 rfl rfl ?_
            obtain ⟨r24, S23, hc25, hf⟩ := bd2_some hf
            refine g_callVi 76 0 [] K (Fx_ok adK adV) hs (c_X7_cameBy hc25) km_X7_139 kI_X7_cameBy kS_X7_cameBy ki_X7 kC_X7_cameBy mw_X7_cameBy ⟨by decide, by decide, by decide, by decide⟩ rfl rfl rfl rfl (Nat.le_of_ble_eq_true rfl) dX7_opening_73 rfl ?_
            refine g_iload_n 77 3 K dX7_opening_76 rfl rfl rfl ?_
            refine g_isub 78 K dX7_opening_77 rfl ?_
            refine g_istore (lv' := [(7, .int (r24 - x9)), (0, .ref (q 0)), (1, .int a1), (2, .int a2), (3, .int x9), (4, .int x10), (5, .int x11), (6, .int x15)]) 80 7 K dX7_opening_78 rfl (by decide) rfl ?_
            refine g_iload 82 6 K dX7_opening_80 rfl rfl ?_
            refine g_iload_n 83 2 K dX7_opening_82 rfl rfl rfl ?_
            refine g_icmp_ne 114 86 K hf dX7_opening_83 (by decide) rfl (fun hf => ?_) (fun hf => ?_)
            · refine g_iload_n 87 3 K dX7_opening_86 rfl rfl rfl ?_
              refine g_if_ne 95 90 K hf dX7_opening_87 (by decide) rfl (fun hf => ?_) (fun hf => ?_)
              · refine g_iload 92 7 K dX7_opening_90 rfl rfl ?_
                refine g_goto 113 K dX7_opening_92 (by decide) ?_
                exact g_iret K hr hlk hf dX7_opening_113
              · refine g_iload_n 96 3 K dX7_opening_95 rfl rfl rfl ?_
                refine g_iconst 97 1 K dX7_opening_96 rfl (by decide) ?_
                refine g_icmp_ne 105 100 K hf dX7_opening_97 (by decide) rfl (fun hf => ?_) (fun hf => ?_)
                · refine g_iload 102 0 K dX7_opening_100 rfl rfl ?_
                  refine g_goto 113 K dX7_opening_102 (by decide) ?_
                  exact g_iret K hr hlk hf dX7_opening_113
                · refine g_aload_n 106 1 K dX7_opening_105 rfl rfl rfl ?_
                  refine g_iload 108 7 K dX7_opening_106 rfl rfl ?_
                  refine g_iload 110 0 K dX7_opening_108 rfl rfl ?_
                  obtain ⟨r30, S29, hc31, hf⟩ := bd2_some hf
                  refine g_callVi 113 0 [] K (Fx_ok adK adV) hs (c_X7_endOf hc31) km_X7_143 kI_X7_endOf kS_X7_endOf ki_X7 kC_X7_endOf mw_X7_endOf ⟨by decide, by decide, by decide, by decide⟩ rfl rfl rfl rfl (Nat.le_of_ble_eq_true rfl) dX7_opening_110 rfl ?_
                  exact g_iret K hr hlk hf dX7_opening_113
            · refine g_iload_n 115 4 K dX7_opening_114 rfl rfl rfl ?_
              refine g_iload 117 0 K dX7_opening_115 rfl rfl ?_
              refine g_iadd 118 K dX7_opening_117 rfl ?_
              refine g_istore_n (lv' := [(3, .int (x9 + (r24 - x9))), (7, .int (r24 - x9)), (0, .ref (q 0)), (1, .int a1), (2, .int a2), (4, .int x10), (5, .int x11), (6, .int x15)]) 119 3 K dX7_opening_118 rfl rfl (by decide) rfl ?_
              refine g_aload_n 120 2 K dX7_opening_119 rfl rfl rfl ?_
              refine g_iload 122 7 K dX7_opening_120 rfl rfl ?_
              refine g_iload 124 1 K dX7_opening_122 rfl rfl ?_
              obtain ⟨r27, S26, hc28, hf⟩ := bd2_some hf
              refine g_callVi 127 0 [] K (Fx_ok adK adV) hs (c_X7_endOf hc28) km_X7_143 kI_X7_endOf kS_X7_endOf ki_X7 kC_X7_endOf mw_X7_endOf ⟨by decide, by decide, by decide, by decide⟩ rfl rfl rfl rfl (Nat.le_of_ble_eq_true rfl) dX7_opening_124 rfl ?_
              refine g_istore (lv' := [(4, .int r27), (3, .int (x9 + (r24 - x9))), (7, .int (r24 - x9)), (0, .ref (q 0)), (1, .int a1), (2, .int a2), (5, .int x11), (6, .int x15)]) 129 4 K dX7_opening_127 rfl (by decide) rfl ?_
              refine g_iinc (lv' := [(5, .int (x11 + 1)), (4, .int r27), (3, .int (x9 + (r24 - x9))), (7, .int (r24 - x9)), (0, .ref (q 0)), (1, .int a1), (2, .int a2), (6, .int x15)]) 132 6 1 K dX7_opening_129 rfl rfl (by decide) (by decide) rfl ?_
              refine g_goto 35 K dX7_opening_132 (by decide) ?_
              exact g_sub [4, 5, 6, 2, 1, 0] rfl (hk12 _ _ _ _ hf)
          · refine g_iinc (lv' := [(6, .int (x15 + 1)), (0, .ref (q 0)), (1, .int a1), (2, .int a2), (3, .int x9), (4, .int x10), (5, .int x11)]) 67 6 1 K dX7_opening_64 rfl rfl (by decide) (by decide) rfl ?_
            refine g_goto 47 K dX7_opening_67 (by decide) ?_
            exact g_sub [1, 2, 3, 4, 5, 6, 0] rfl (hk16 _ _ hf)
      · refine g_iconst 26 (-1) K dX7_opening_25 rfl (by decide) ?_
        exact g_iret K hr hlk hf dX7_opening_26
def f_X7_atOnce (N n : Nat) (S : St)  : Option (Int32 × St) :=
  (f_X7_sorts N n S ).bind fun S1 =>
  loop3 (fun (k4 : St → Int32 → Int32 → Int32 → Option (Int32 × St)) (S5 : St) (x6 : Int32) (x7 : Int32) (x8 : Int32) =>
    if (S5.1 7) ≤ x6 then
      some (x8, S5)
    else
      (rd (S5.2 17) 10 x6).bind fun x10 =>
      lett (fun (S12 : St) (x13 : Int32) =>
        if x13 ≤ 299 then
          bd2 (f_X7_cameBy N n S12 x13) fun r16 S15 =>
          bd2 (f_X7_waitsOf N n S15 x6 x13) fun r19 S18 =>
          bd2 (f_X7_endOf N n S18 x13 (r16 - x6)) fun r22 S21 =>
          k4 S21 (x6 + (r16 - x6)) r22 (x8 + r19)
        else
          some ((-1), S12)) fun j11 =>
      if x7 ≤ x10 then
        (rd (S5.2 17) 10 x6).bind fun x24 =>
        j11 S5 x24
      else
        j11 S5 x7) N S1 0 0 0
set_option maxRecDepth 20000 in
set_option maxHeartbeats 4000000 in
theorem c_X7_atOnce {l : Launch} {D : va_G} {q : Nat → Nat} {n : Nat} {cI cB cZ : ClassId} {adK adV : Nat → Nat} {N : Nat} {S Sz : St} {rz : Int32}  (hf : f_X7_atOnce N n S  = some (rz, Sz)) : Cn l yX7_atOnce cX7_atOnce 6 (some .int) 2 51 D (tyL cI cB cZ) (Fx adK adV) (wM q n cI cB cZ) [.ref (q 0)] S (some (.int rz)) Sz := by
  refine c_of (by decide) fl_wM (Nat.le_of_ble_eq_true rfl) [(0, .ref (q 0))] rfl ?_
  intro p e s m args below meth c K hr hlk hs
  have K : Ok p s m args c cX7_atOnce 6 RX7 D (tyL cI cB cZ) (Aw (wM q n cI cB cZ) s.heap.size) (wM q n cI cB cZ) := K
  unfold f_X7_atOnce at hf
  refine g_aload_n 1 0 K dX7_atOnce_0 rfl rfl rfl ?_
  obtain ⟨S1, hc3, hf⟩ := bd_some hf
  refine g_callVv 4 0 [] K (Fx_ok adK adV) hs (c_X7_sorts hc3) km_X7_153 kI_X7_sorts kS_X7_sorts ki_X7 kC_X7_sorts mw_X7_sorts ⟨by decide, by decide, by decide, by decide⟩ rfl rfl rfl rfl (Nat.le_of_ble_eq_true rfl) dX7_atOnce_1 rfl ?_
  refine g_iconst 5 0 K dX7_atOnce_4 rfl (by decide) ?_
  refine g_istore_n (lv' := [(1, .int 0), (0, .ref (q 0))]) 6 1 K dX7_atOnce_5 rfl rfl (by decide) rfl ?_
  refine g_iconst 7 0 K dX7_atOnce_6 rfl (by decide) ?_
  refine g_istore_n (lv' := [(2, .int 0), (1, .int 0), (0, .ref (q 0))]) 8 2 K dX7_atOnce_7 rfl rfl (by decide) rfl ?_
  refine g_iconst 9 0 K dX7_atOnce_8 rfl (by decide) ?_
  refine g_istore_n (lv' := [(3, .int 0), (2, .int 0), (1, .int 0), (0, .ref (q 0))]) 10 3 K dX7_atOnce_9 rfl rfl (by decide) rfl ?_
  refine g_sub [3, 2, 1, 0] rfl ?_
  refine g_loop3 (fun (x6 : Int32) (x7 : Int32) (x8 : Int32) => [(0, .ref (q 0)), (1, .int x6), (2, .int x7), (3, .int x8)]) hf ?_
  intro k4 S5 x6 x7 x8 hk9 hf
  refine g_iload_n 11 1 K dX7_atOnce_10 rfl rfl rfl ?_
  refine g_aload_n 12 0 K dX7_atOnce_11 rfl rfl rfl ?_
  refine gf_M_0_7 15 K dX7_atOnce_12 rfl ?_
  refine g_icmp_ge 87 18 K hf dX7_atOnce_15 (by decide) rfl (fun hf => ?_) (fun hf => ?_)
  · refine g_iload_n 88 3 K dX7_atOnce_87 rfl rfl rfl ?_
    exact g_iret K hr hlk hf dX7_atOnce_88
  · refine g_iload_n 19 2 K dX7_atOnce_18 rfl rfl rfl ?_
    refine g_aload_n 20 0 K dX7_atOnce_19 rfl rfl rfl ?_
    refine gf_M_0_37 23 K dX7_atOnce_20 rfl ?_
    refine g_iload_n 24 1 K dX7_atOnce_23 rfl rfl rfl ?_
    refine al_M_17 25 K hf dX7_atOnce_24 rfl (fun x10 hf => ?_)
    refine g_join1 38 (fun (x13 : Int32) => [(0, .ref (q 0)), (1, .int x6), (2, .int x7), (3, .int x8)]) (fun (x13 : Int32) => [.int x13]) hf (fun S12 x13 hf => ?_) (fun j11 hj14 hf => ?_)
    · refine g_istore (lv' := [(4, .int x13), (0, .ref (q 0)), (1, .int x6), (2, .int x7), (3, .int x8)]) 40 4 K dX7_atOnce_38 rfl (by decide) rfl ?_
      refine g_iload 42 0 K dX7_atOnce_40 rfl rfl ?_
      refine g_sipush 45 299 K dX7_atOnce_42 rfl (by decide) ?_
      refine g_icmp_le 50 48 K hf dX7_atOnce_45 (by decide) rfl (fun hf => ?_) (fun hf => ?_)
      · refine g_aload_n 51 1 K dX7_atOnce_50 rfl rfl rfl ?_
        refine g_iload 53 0 K dX7_atOnce_51 rfl rfl ?_
        obtain ⟨r16, S15, hc17, hf⟩ := bd2_some hf
        refine g_callVi 56 0 [] K (Fx_ok adK adV) hs (c_X7_cameBy hc17) km_X7_139 kI_X7_cameBy kS_X7_cameBy ki_X7 kC_X7_cameBy mw_X7_cameBy ⟨by decide, by decide, by decide, by decide⟩ rfl rfl rfl rfl (Nat.le_of_ble_eq_true rfl) dX7_atOnce_53 rfl ?_
        refine g_iload_n 57 2 K dX7_atOnce_56 rfl rfl rfl ?_
        refine g_isub 58 K dX7_atOnce_57 rfl ?_
        refine g_istore (lv' := [(5, .int (r16 - x6)), (4, .int x13), (0, .ref (q 0)), (1, .int x6), (2, .int x7), (3, .int x8)]) 60 5 K dX7_atOnce_58 rfl (by decide) rfl ?_
        refine g_iload_n 61 5 K dX7_atOnce_60 rfl rfl rfl ?_
        refine g_aload_n 62 2 K dX7_atOnce_61 rfl rfl rfl ?_
        refine g_iload_n 63 3 K dX7_atOnce_62 rfl rfl rfl ?_
        refine g_iload 65 1 K dX7_atOnce_63 rfl rfl ?_
        obtain ⟨r19, S18, hc20, hf⟩ := bd2_some hf
        refine g_callVi 68 0 [.int x8] K (Fx_ok adK adV) hs (c_X7_waitsOf hc20) km_X7_150 kI_X7_waitsOf kS_X7_waitsOf ki_X7 kC_X7_waitsOf mw_X7_waitsOf ⟨by decide, by decide, by decide, by decide⟩ rfl rfl rfl rfl (Nat.le_of_ble_eq_true rfl) dX7_atOnce_65 rfl ?_
        refine g_iadd 69 K dX7_atOnce_68 rfl ?_
        refine g_istore_n (lv' := [(3, .int (x8 + r19)), (5, .int (r16 - x6)), (4, .int x13), (0, .ref (q 0)), (1, .int x6), (2, .int x7)]) 70 3 K dX7_atOnce_69 rfl rfl (by decide) rfl ?_
        refine g_iload_n 71 4 K dX7_atOnce_70 rfl rfl rfl ?_
        refine g_iload 73 1 K dX7_atOnce_71 rfl rfl ?_
        refine g_iadd 74 K dX7_atOnce_73 rfl ?_
        refine g_istore_n (lv' := [(1, .int (x6 + (r16 - x6))), (3, .int (x8 + r19)), (5, .int (r16 - x6)), (4, .int x13), (0, .ref (q 0)), (2, .int x7)]) 75 1 K dX7_atOnce_74 rfl rfl (by decide) rfl ?_
        refine g_aload_n 76 4 K dX7_atOnce_75 rfl rfl rfl ?_
        refine g_iload 78 3 K dX7_atOnce_76 rfl rfl ?_
        refine g_iload 80 2 K dX7_atOnce_78 rfl rfl ?_
        obtain ⟨r22, S21, hc23, hf⟩ := bd2_some hf
        refine g_callVi 83 0 [] K (Fx_ok adK adV) hs (c_X7_endOf hc23) km_X7_143 kI_X7_endOf kS_X7_endOf ki_X7 kC_X7_endOf mw_X7_endOf ⟨by decide, by decide, by decide, by decide⟩ rfl rfl rfl rfl (Nat.le_of_ble_eq_true rfl) dX7_atOnce_80 rfl ?_
        refine g_istore_n (lv' := [(2, .int r22), (1, .int (x6 + (r16 - x6))), (3, .int (x8 + r19)), (5, .int (r16 - x6)), (4, .int x13), (0, .ref (q 0))]) 84 2 K dX7_atOnce_83 rfl rfl (by decide) rfl ?_
        refine g_goto 10 K dX7_atOnce_84 (by decide) ?_
        exact g_sub [5, 1, 0, 2] rfl (hk9 _ _ _ _ hf)
      · refine g_iconst 49 (-1) K dX7_atOnce_48 rfl (by decide) ?_
        exact g_iret K hr hlk hf dX7_atOnce_49
    · refine g_icmp_le 32 28 K hf dX7_atOnce_25 (by decide) rfl (fun hf => ?_) (fun hf => ?_)
      · refine g_aload_n 33 0 K dX7_atOnce_32 rfl rfl rfl ?_
        refine gf_M_0_37 36 K dX7_atOnce_33 rfl ?_
        refine g_iload_n 37 1 K dX7_atOnce_36 rfl rfl rfl ?_
        refine al_M_17 38 K hf dX7_atOnce_37 rfl (fun x24 hf => ?_)
        exact g_sub [0, 1, 2, 3] rfl (hj14 _ _ hf)
      · refine g_iload_n 29 2 K dX7_atOnce_28 rfl rfl rfl ?_
        refine g_goto 38 K dX7_atOnce_29 (by decide) ?_
        exact g_sub [0, 1, 2, 3] rfl (hj14 _ _ hf)
def f_X7_level (N n : Nat) (S : St) (a1 : Int32) (a2 : Int32) (a3 : Int32) : Option (Int32 × St) :=
  bd2 (f_X7_in N n S (Int32.toInt64 a1) 0 59) fun r2 S1 =>
  if r2 = 0 then
    zr 0 S1
  else
    lett (fun (S5 : St) =>
      (wr S5 9 60 a1 a2).bind fun S7 =>
      (wr S7 10 60 a1 a3).bind fun S8 =>
      zr 1 S8) fun j4 =>
    if a2 = (-1) then
      j4 S1 
    else
      bd2 (f_X7_in N n S1 (Int32.toInt64 a2) 0 99) fun r10 S9 =>
      if r10 = 0 then
        zr 0 S9
      else
        bd2 (f_X7_in N n S9 (Int32.toInt64 a3) (Int32.toInt64 a2) 99) fun r13 S12 =>
        if r13 = 0 then
          zr 0 S12
        else
          j4 S12 
set_option maxRecDepth 20000 in
set_option maxHeartbeats 4000000 in
theorem c_X7_level {l : Launch} {D : va_G} {q : Nat → Nat} {n : Nat} {cI cB cZ : ClassId} {adK adV : Nat → Nat} {N : Nat} {S Sz : St} {rz : Int32} {a1 : Int32} {a2 : Int32} {a3 : Int32} (hf : f_X7_level N n S a1 a2 a3 = some (rz, Sz)) : Cn l yX7_level cX7_level 4 (some .boolean) 1 25 D (tyL cI cB cZ) (Fx adK adV) (wM q n cI cB cZ) [.ref (q 0), .int a1, .int a2, .int a3] S (some (.int rz)) Sz := by
  refine c_of (by decide) fl_wM (Nat.le_of_ble_eq_true rfl) [(0, .ref (q 0)), (1, .int a1), (2, .int a2), (3, .int a3)] rfl ?_
  intro p e s m args below meth c K hr hlk hs
  have K : Ok p s m args c cX7_level 4 RX7 D (tyL cI cB cZ) (Aw (wM q n cI cB cZ) s.heap.size) (wM q n cI cB cZ) := K
  unfold f_X7_level at hf
  refine g_iload_n 1 1 K dX7_level_0 rfl rfl rfl ?_
  refine g_i2l 2 K dX7_level_1 rfl ?_
  refine g_lconst 3 0 K dX7_level_2 rfl (by decide) ?_
  refine g_ldc2 6 59 K dX7_level_3 rfl kc_X7_163 ?_
  obtain ⟨r2, S1, hc3, hf⟩ := bd2_some hf
  refine g_callSi 9 [] K (Fx_ok adK adV) hs (c_X7_in hc3) km_X7_84 kt_X7_in ki_X7 kC_X7_in mw_X7_in ⟨by decide, by decide, by decide, by decide⟩ rfl rfl (Nat.le_of_ble_eq_true rfl) dX7_level_6 rfl ?_
  refine g_if_eq 42 12 K hf dX7_level_9 (by decide) rfl (fun hf => ?_) (fun hf => ?_)
  · refine g_iconst 43 0 K dX7_level_42 rfl (by decide) ?_
    exact g_zret K hr hlk hf dX7_level_43
  · refine g_iload_n 13 2 K dX7_level_12 rfl rfl rfl ?_
    refine g_iconst 14 (-1) K dX7_level_13 rfl (by decide) ?_
    refine g_join0 44 [(0, .ref (q 0)), (1, .int a1), (2, .int a2), (3, .int a3)] [] hf (fun S5  hf => ?_) (fun j4 hj6 hf => ?_)
    · refine g_aload_n 45 0 K dX7_level_44 rfl rfl rfl ?_
      refine gf_M_0_12 48 K dX7_level_45 rfl ?_
      refine g_iload_n 49 1 K dX7_level_48 rfl rfl rfl ?_
      refine g_iload_n 50 2 K dX7_level_49 rfl rfl rfl ?_
      refine as_M_9 51 K hf dX7_level_50 rfl (fun S7 hf => ?_)
      refine g_aload_n 52 0 K dX7_level_51 rfl rfl rfl ?_
      refine gf_M_0_13 55 K dX7_level_52 rfl ?_
      refine g_iload_n 56 1 K dX7_level_55 rfl rfl rfl ?_
      refine g_iload_n 57 3 K dX7_level_56 rfl rfl rfl ?_
      refine as_M_10 58 K hf dX7_level_57 rfl (fun S8 hf => ?_)
      refine g_iconst 59 1 K dX7_level_58 rfl (by decide) ?_
      exact g_zret K hr hlk hf dX7_level_59
    · refine g_icmp_eq 44 17 K hf dX7_level_14 (by decide) rfl (fun hf => ?_) (fun hf => ?_)
      · exact g_sub [0, 1, 2, 3] rfl (hj6 _ hf)
      · refine g_iload_n 18 2 K dX7_level_17 rfl rfl rfl ?_
        refine g_i2l 19 K dX7_level_18 rfl ?_
        refine g_lconst 20 0 K dX7_level_19 rfl (by decide) ?_
        refine g_ldc2 23 99 K dX7_level_20 rfl kc_X7_165 ?_
        obtain ⟨r10, S9, hc11, hf⟩ := bd2_some hf
        refine g_callSi 26 [] K (Fx_ok adK adV) hs (c_X7_in hc11) km_X7_84 kt_X7_in ki_X7 kC_X7_in mw_X7_in ⟨by decide, by decide, by decide, by decide⟩ rfl rfl (Nat.le_of_ble_eq_true rfl) dX7_level_23 rfl ?_
        refine g_if_eq 42 29 K hf dX7_level_26 (by decide) rfl (fun hf => ?_) (fun hf => ?_)
        · refine g_iconst 43 0 K dX7_level_42 rfl (by decide) ?_
          exact g_zret K hr hlk hf dX7_level_43
        · refine g_iload_n 30 3 K dX7_level_29 rfl rfl rfl ?_
          refine g_i2l 31 K dX7_level_30 rfl ?_
          refine g_iload_n 32 2 K dX7_level_31 rfl rfl rfl ?_
          refine g_i2l 33 K dX7_level_32 rfl ?_
          refine g_ldc2 36 99 K dX7_level_33 rfl kc_X7_165 ?_
          obtain ⟨r13, S12, hc14, hf⟩ := bd2_some hf
          refine g_callSi 39 [] K (Fx_ok adK adV) hs (c_X7_in hc14) km_X7_84 kt_X7_in ki_X7 kC_X7_in mw_X7_in ⟨by decide, by decide, by decide, by decide⟩ rfl rfl (Nat.le_of_ble_eq_true rfl) dX7_level_36 rfl ?_
          refine g_if_ne 44 42 K hf dX7_level_39 (by decide) rfl (fun hf => ?_) (fun hf => ?_)
          · refine g_iconst 43 0 K dX7_level_42 rfl (by decide) ?_
            exact g_zret K hr hlk hf dX7_level_43
          · exact g_sub [0, 1, 2, 3] rfl (hj6 _ hf)
def f_X7_flood (N n : Nat) (S : St) (a1 : Int32) (a2 : Int32) : Option (Int32 × St) :=
  bd2 (f_X7_in N n S (Int32.toInt64 a1) 0 99) fun r2 S1 =>
  if r2 = 0 then
    zr 0 S1
  else
    bd2 (f_X7_in N n S1 (Int32.toInt64 a2) 1 9) fun r5 S4 =>
    if r5 = 0 then
      zr 0 S4
    else
      lett (pF S4 14 a1) fun S7 =>
      lett (pF S7 15 a2) fun S8 =>
      zr 1 S8
set_option maxRecDepth 20000 in
set_option maxHeartbeats 4000000 in
theorem c_X7_flood {l : Launch} {D : va_G} {q : Nat → Nat} {n : Nat} {cI cB cZ : ClassId} {adK adV : Nat → Nat} {N : Nat} {S Sz : St} {rz : Int32} {a1 : Int32} {a2 : Int32} (hf : f_X7_flood N n S a1 a2 = some (rz, Sz)) : Cn l yX7_flood cX7_flood 3 (some .boolean) 1 25 D (tyL cI cB cZ) (Fx adK adV) (wM q n cI cB cZ) [.ref (q 0), .int a1, .int a2] S (some (.int rz)) Sz := by
  refine c_of (by decide) fl_wM (Nat.le_of_ble_eq_true rfl) [(0, .ref (q 0)), (1, .int a1), (2, .int a2)] rfl ?_
  intro p e s m args below meth c K hr hlk hs
  have K : Ok p s m args c cX7_flood 3 RX7 D (tyL cI cB cZ) (Aw (wM q n cI cB cZ) s.heap.size) (wM q n cI cB cZ) := K
  unfold f_X7_flood at hf
  refine g_iload_n 1 1 K dX7_flood_0 rfl rfl rfl ?_
  refine g_i2l 2 K dX7_flood_1 rfl ?_
  refine g_lconst 3 0 K dX7_flood_2 rfl (by decide) ?_
  refine g_ldc2 6 99 K dX7_flood_3 rfl kc_X7_165 ?_
  obtain ⟨r2, S1, hc3, hf⟩ := bd2_some hf
  refine g_callSi 9 [] K (Fx_ok adK adV) hs (c_X7_in hc3) km_X7_84 kt_X7_in ki_X7 kC_X7_in mw_X7_in ⟨by decide, by decide, by decide, by decide⟩ rfl rfl (Nat.le_of_ble_eq_true rfl) dX7_flood_6 rfl ?_
  refine g_if_eq 24 12 K hf dX7_flood_9 (by decide) rfl (fun hf => ?_) (fun hf => ?_)
  · refine g_iconst 25 0 K dX7_flood_24 rfl (by decide) ?_
    exact g_zret K hr hlk hf dX7_flood_25
  · refine g_iload_n 13 2 K dX7_flood_12 rfl rfl rfl ?_
    refine g_i2l 14 K dX7_flood_13 rfl ?_
    refine g_lconst 15 1 K dX7_flood_14 rfl (by decide) ?_
    refine g_ldc2 18 9 K dX7_flood_15 rfl kc_X7_94 ?_
    obtain ⟨r5, S4, hc6, hf⟩ := bd2_some hf
    refine g_callSi 21 [] K (Fx_ok adK adV) hs (c_X7_in hc6) km_X7_84 kt_X7_in ki_X7 kC_X7_in mw_X7_in ⟨by decide, by decide, by decide, by decide⟩ rfl rfl (Nat.le_of_ble_eq_true rfl) dX7_flood_18 rfl ?_
    refine g_if_ne 26 24 K hf dX7_flood_21 (by decide) rfl (fun hf => ?_) (fun hf => ?_)
    · refine g_iconst 25 0 K dX7_flood_24 rfl (by decide) ?_
      exact g_zret K hr hlk hf dX7_flood_25
    · refine g_aload_n 27 0 K dX7_flood_26 rfl rfl rfl ?_
      refine g_iload_n 28 1 K dX7_flood_27 rfl rfl rfl ?_
      refine pf_M_0_14 31 K hf dX7_flood_28 rfl (fun S7 hf => ?_)
      refine g_aload_n 32 0 K dX7_flood_31 rfl rfl rfl ?_
      refine g_iload_n 33 2 K dX7_flood_32 rfl rfl rfl ?_
      refine pf_M_0_15 36 K hf dX7_flood_33 rfl (fun S8 hf => ?_)
      refine g_iconst 37 1 K dX7_flood_36 rfl (by decide) ?_
      exact g_zret K hr hlk hf dX7_flood_37
def f_X7_isBad (N n : Nat) (S : St) (a1 : Int32) : Option (Int32 × St) :=
  (rd (S.2 9) 60 a1).bind fun x1 =>
  if x1 = (-1) then
    zr 1 S
  else
    (rd (S.2 10) 60 a1).bind fun x2 =>
    if x2 ≤ (S.1 14) then
      zr 0 S
    else
      zr 1 S
set_option maxRecDepth 20000 in
set_option maxHeartbeats 4000000 in
theorem c_X7_isBad {l : Launch} {D : va_G} {q : Nat → Nat} {n : Nat} {cI cB cZ : ClassId} {adK adV : Nat → Nat} {N : Nat} {S Sz : St} {rz : Int32} {a1 : Int32} (hf : f_X7_isBad N n S a1 = some (rz, Sz)) : Cn l yX7_isBad cX7_isBad 2 (some .boolean) 0 0 D (tyL cI cB cZ) (Fx adK adV) (wM q n cI cB cZ) [.ref (q 0), .int a1] S (some (.int rz)) Sz := by
  refine c_of (by decide) fl_wM (Nat.le_of_ble_eq_true rfl) [(0, .ref (q 0)), (1, .int a1)] rfl ?_
  intro p e s m args below meth c K hr hlk hs
  have K : Ok p s m args c cX7_isBad 2 RX7 D (tyL cI cB cZ) (Aw (wM q n cI cB cZ) s.heap.size) (wM q n cI cB cZ) := K
  unfold f_X7_isBad at hf
  refine g_aload_n 1 0 K dX7_isBad_0 rfl rfl rfl ?_
  refine gf_M_0_12 4 K dX7_isBad_1 rfl ?_
  refine g_iload_n 5 1 K dX7_isBad_4 rfl rfl rfl ?_
  refine al_M_9 6 K hf dX7_isBad_5 rfl (fun x1 hf => ?_)
  refine g_iconst 7 (-1) K dX7_isBad_6 rfl (by decide) ?_
  refine g_icmp_eq 23 10 K hf dX7_isBad_7 (by decide) rfl (fun hf => ?_) (fun hf => ?_)
  · refine g_iconst 24 1 K dX7_isBad_23 rfl (by decide) ?_
    refine g_goto 28 K dX7_isBad_24 (by decide) ?_
    exact g_zret K hr hlk hf dX7_isBad_28
  · refine g_aload_n 11 0 K dX7_isBad_10 rfl rfl rfl ?_
    refine gf_M_0_13 14 K dX7_isBad_11 rfl ?_
    refine g_iload_n 15 1 K dX7_isBad_14 rfl rfl rfl ?_
    refine al_M_10 16 K hf dX7_isBad_15 rfl (fun x2 hf => ?_)
    refine g_aload_n 17 0 K dX7_isBad_16 rfl rfl rfl ?_
    refine gf_M_0_14 20 K dX7_isBad_17 rfl ?_
    refine g_icmp_le 27 23 K hf dX7_isBad_20 (by decide) rfl (fun hf => ?_) (fun hf => ?_)
    · refine g_iconst 28 0 K dX7_isBad_27 rfl (by decide) ?_
      exact g_zret K hr hlk hf dX7_isBad_28
    · refine g_iconst 24 1 K dX7_isBad_23 rfl (by decide) ?_
      refine g_goto 28 K dX7_isBad_24 (by decide) ?_
      exact g_zret K hr hlk hf dX7_isBad_28
def f_X7_from (N n : Nat) (S : St) (a1 : Int32) (a2 : Int32) : Option (Int32 × St) :=
  if a1 = 60 then
    some (0, S)
  else
    (rd (S.2 19) 610 ((10 * a1) + a2)).bind fun x1 =>
    some (x1, S)
set_option maxRecDepth 20000 in
set_option maxHeartbeats 4000000 in
theorem c_X7_from {l : Launch} {D : va_G} {q : Nat → Nat} {n : Nat} {cI cB cZ : ClassId} {adK adV : Nat → Nat} {N : Nat} {S Sz : St} {rz : Int32} {a1 : Int32} {a2 : Int32} (hf : f_X7_from N n S a1 a2 = some (rz, Sz)) : Cn l yX7_from cX7_from 3 (some .int) 0 0 D (tyL cI cB cZ) (Fx adK adV) (wM q n cI cB cZ) [.ref (q 0), .int a1, .int a2] S (some (.int rz)) Sz := by
  refine c_of (by decide) fl_wM (Nat.le_of_ble_eq_true rfl) [(0, .ref (q 0)), (1, .int a1), (2, .int a2)] rfl ?_
  intro p e s m args below meth c K hr hlk hs
  have K : Ok p s m args c cX7_from 3 RX7 D (tyL cI cB cZ) (Aw (wM q n cI cB cZ) s.heap.size) (wM q n cI cB cZ) := K
  unfold f_X7_from at hf
  refine g_iload_n 1 1 K dX7_from_0 rfl rfl rfl ?_
  refine g_bipush 3 60 K dX7_from_1 rfl (by decide) ?_
  refine g_icmp_ne 10 6 K hf dX7_from_3 (by decide) rfl (fun hf => ?_) (fun hf => ?_)
  · refine g_iconst 7 0 K dX7_from_6 rfl (by decide) ?_
    refine g_goto 21 K dX7_from_7 (by decide) ?_
    exact g_iret K hr hlk hf dX7_from_21
  · refine g_aload_n 11 0 K dX7_from_10 rfl rfl rfl ?_
    refine gf_M_0_39 14 K dX7_from_11 rfl ?_
    refine g_bipush 16 10 K dX7_from_14 rfl (by decide) ?_
    refine g_iload_n 17 1 K dX7_from_16 rfl rfl rfl ?_
    refine g_imul 18 K dX7_from_17 rfl ?_
    refine g_iload_n 19 2 K dX7_from_18 rfl rfl rfl ?_
    refine g_iadd 20 K dX7_from_19 rfl ?_
    refine al_M_19 21 K hf dX7_from_20 rfl (fun x1 hf => ?_)
    exact g_iret K hr hlk hf dX7_from_21
def f_X7_goes (N n : Nat) (S : St) (a1 : Int32) (a2 : Int32) (a3 : Int32) : Option (Int32 × St) :=
  if a3 = 0 then
    bd2 (f_X7_isBad N n S a1) fun r9 S8 =>
    if r9 = 0 then
      lett (fun (S12 : St) =>
        bd2 (f_X7_from N n S12 (a1 + 1) 0) fun r15 S14 =>
        some (r15, S14)) fun j11 =>
      if a2 ≤ 0 then
        j11 S8 
      else
        if (S8.1 15) ≤ a2 then
          j11 S8 
        else
          some (100000000, S8)
    else
      some (100000000, S8)
  else
    lett (fun (S2 : St) (x3 : Int32) =>
      bd2 (f_X7_from N n S2 (a1 + 1) x3) fun r6 S5 =>
      if r6 < 100000000 then
        some (r6 + 1, S5)
      else
        some (100000000, S5)) fun j1 =>
    if (S.1 15) ≤ a2 then
      j1 S (S.1 15)
    else
      j1 S (a2 + 1)
set_option maxRecDepth 20000 in
set_option maxHeartbeats 4000000 in
theorem c_X7_goes {l : Launch} {D : va_G} {q : Nat → Nat} {n : Nat} {cI cB cZ : ClassId} {adK adV : Nat → Nat} {N : Nat} {S Sz : St} {rz : Int32} {a1 : Int32} {a2 : Int32} {a3 : Int32} (hf : f_X7_goes N n S a1 a2 a3 = some (rz, Sz)) : Cn l yX7_goes cX7_goes 5 (some .int) 1 22 D (tyL cI cB cZ) (Fx adK adV) (wM q n cI cB cZ) [.ref (q 0), .int a1, .int a2, .int a3] S (some (.int rz)) Sz := by
  refine c_of (by decide) fl_wM (Nat.le_of_ble_eq_true rfl) [(0, .ref (q 0)), (1, .int a1), (2, .int a2), (3, .int a3)] rfl ?_
  intro p e s m args below meth c K hr hlk hs
  have K : Ok p s m args c cX7_goes 5 RX7 D (tyL cI cB cZ) (Aw (wM q n cI cB cZ) s.heap.size) (wM q n cI cB cZ) := K
  unfold f_X7_goes at hf
  refine g_iload_n 1 3 K dX7_goes_0 rfl rfl rfl ?_
  refine g_if_ne 38 4 K hf dX7_goes_1 (by decide) rfl (fun hf => ?_) (fun hf => ?_)
  · refine g_aload_n 5 0 K dX7_goes_4 rfl rfl rfl ?_
    refine g_iload_n 6 1 K dX7_goes_5 rfl rfl rfl ?_
    obtain ⟨r9, S8, hc10, hf⟩ := bd2_some hf
    refine g_callVi 9 0 [] K (Fx_ok adK adV) hs (c_X7_isBad hc10) km_X7_167 kI_X7_isBad kS_X7_isBad ki_X7 kC_X7_isBad mw_X7_isBad ⟨by decide, by decide, by decide, by decide⟩ rfl rfl rfl rfl (Nat.le_of_ble_eq_true rfl) dX7_goes_6 rfl ?_
    refine g_if_ne 24 12 K hf dX7_goes_9 (by decide) rfl (fun hf => ?_) (fun hf => ?_)
    · refine g_iload_n 13 2 K dX7_goes_12 rfl rfl rfl ?_
      refine g_join0 29 [(0, .ref (q 0)), (1, .int a1), (2, .int a2), (3, .int a3)] [] hf (fun S12  hf => ?_) (fun j11 hj13 hf => ?_)
      · refine g_aload_n 30 0 K dX7_goes_29 rfl rfl rfl ?_
        refine g_iload_n 31 1 K dX7_goes_30 rfl rfl rfl ?_
        refine g_iconst 32 1 K dX7_goes_31 rfl (by decide) ?_
        refine g_iadd 33 K dX7_goes_32 rfl ?_
        refine g_iconst 34 0 K dX7_goes_33 rfl (by decide) ?_
        obtain ⟨r15, S14, hc16, hf⟩ := bd2_some hf
        refine g_callVi 37 0 [] K (Fx_ok adK adV) hs (c_X7_from hc16) km_X7_170 kI_X7_from kS_X7_from ki_X7 kC_X7_from mw_X7_from ⟨by decide, by decide, by decide, by decide⟩ rfl rfl rfl rfl (Nat.le_of_ble_eq_true rfl) dX7_goes_34 rfl ?_
        exact g_iret K hr hlk hf dX7_goes_37
      · refine g_if_le 29 16 K hf dX7_goes_13 (by decide) rfl (fun hf => ?_) (fun hf => ?_)
        · exact g_sub [0, 1, 2, 3] rfl (hj13 _ hf)
        · refine g_iload_n 17 2 K dX7_goes_16 rfl rfl rfl ?_
          refine g_aload_n 18 0 K dX7_goes_17 rfl rfl rfl ?_
          refine gf_M_0_15 21 K dX7_goes_18 rfl ?_
          refine g_icmp_ge 29 24 K hf dX7_goes_21 (by decide) rfl (fun hf => ?_) (fun hf => ?_)
          · exact g_sub [0, 1, 2, 3] rfl (hj13 _ hf)
          · refine g_ldc 26 100000000 K dX7_goes_24 rfl kc_X7_112 ?_
            refine g_goto 37 K dX7_goes_26 (by decide) ?_
            exact g_iret K hr hlk hf dX7_goes_37
    · refine g_ldc 26 100000000 K dX7_goes_24 rfl kc_X7_112 ?_
      refine g_goto 37 K dX7_goes_26 (by decide) ?_
      exact g_iret K hr hlk hf dX7_goes_37
  · refine g_aload_n 39 0 K dX7_goes_38 rfl rfl rfl ?_
    refine g_iload_n 40 1 K dX7_goes_39 rfl rfl rfl ?_
    refine g_iconst 41 1 K dX7_goes_40 rfl (by decide) ?_
    refine g_iadd 42 K dX7_goes_41 rfl ?_
    refine g_iload_n 43 2 K dX7_goes_42 rfl rfl rfl ?_
    refine g_aload_n 44 0 K dX7_goes_43 rfl rfl rfl ?_
    refine gf_M_0_15 47 K dX7_goes_44 rfl ?_
    refine g_join1 60 (fun (x3 : Int32) => [(0, .ref (q 0)), (1, .int a1), (2, .int a2), (3, .int a3)]) (fun (x3 : Int32) => [.int x3, .int (a1 + 1), .ref (q 0)]) hf (fun S2 x3 hf => ?_) (fun j1 hj4 hf => ?_)
    · obtain ⟨r6, S5, hc7, hf⟩ := bd2_some hf
      refine g_callVi 63 0 [] K (Fx_ok adK adV) hs (c_X7_from hc7) km_X7_170 kI_X7_from kS_X7_from ki_X7 kC_X7_from mw_X7_from ⟨by decide, by decide, by decide, by decide⟩ rfl rfl rfl rfl (Nat.le_of_ble_eq_true rfl) dX7_goes_60 rfl ?_
      refine g_istore (lv' := [(4, .int r6), (0, .ref (q 0)), (1, .int a1), (2, .int a2), (3, .int a3)]) 65 4 K dX7_goes_63 rfl (by decide) rfl ?_
      refine g_iload 67 0 K dX7_goes_65 rfl rfl ?_
      refine g_ldc 69 100000000 K dX7_goes_67 rfl kc_X7_112 ?_
      refine g_icmp_lt 77 72 K hf dX7_goes_69 (by decide) rfl (fun hf => ?_) (fun hf => ?_)
      · refine g_iload 79 0 K dX7_goes_77 rfl rfl ?_
        refine g_iconst 80 1 K dX7_goes_79 rfl (by decide) ?_
        refine g_iadd 81 K dX7_goes_80 rfl ?_
        exact g_iret K hr hlk hf dX7_goes_81
      · refine g_ldc 74 100000000 K dX7_goes_72 rfl kc_X7_112 ?_
        refine g_goto 81 K dX7_goes_74 (by decide) ?_
        exact g_iret K hr hlk hf dX7_goes_81
    · refine g_icmp_ge 56 50 K hf dX7_goes_47 (by decide) rfl (fun hf => ?_) (fun hf => ?_)
      · refine g_aload_n 57 0 K dX7_goes_56 rfl rfl rfl ?_
        refine gf_M_0_15 60 K dX7_goes_57 rfl ?_
        exact g_sub [0, 1, 2, 3] rfl (hj4 _ _ hf)
      · refine g_iload_n 51 2 K dX7_goes_50 rfl rfl rfl ?_
        refine g_iconst 52 1 K dX7_goes_51 rfl (by decide) ?_
        refine g_iadd 53 K dX7_goes_52 rfl ?_
        refine g_goto 60 K dX7_goes_53 (by decide) ?_
        exact g_sub [0, 1, 2, 3] rfl (hj4 _ _ hf)
def f_X7_fewestOut (N n : Nat) (S : St)  : Option (Int32 × St) :=
  loop1 (fun (k1 : St → Int32 → Option (Int32 × St)) (S2 : St) (x3 : Int32) =>
    if x3 < 0 then
      bd2 (f_X7_from N n S2 0 0) fun r6 S5 =>
      some (r6, S5)
    else
      loop1 (fun (k8 : St → Int32 → Option (Int32 × St)) (S9 : St) (x10 : Int32) =>
        if (S9.1 15) < x10 then
          k1 S9 (x3 + (-1))
        else
          bd2 (f_X7_goes N n S9 x3 x10 0) fun r13 S12 =>
          bd2 (f_X7_goes N n S12 x3 x10 1) fun r16 S15 =>
          if r16 ≤ r13 then
            (wr S15 19 610 ((10 * x3) + x10) r16).bind fun S18 =>
            k8 S18 (x10 + 1)
          else
            (wr S15 19 610 ((10 * x3) + x10) r13).bind fun S19 =>
            k8 S19 (x10 + 1)) N S2 0) N S 59
set_option maxRecDepth 20000 in
set_option maxHeartbeats 4000000 in
theorem c_X7_fewestOut {l : Launch} {D : va_G} {q : Nat → Nat} {n : Nat} {cI cB cZ : ClassId} {adK adV : Nat → Nat} {N : Nat} {S Sz : St} {rz : Int32}  (hf : f_X7_fewestOut N n S  = some (rz, Sz)) : Cn l yX7_fewestOut cX7_fewestOut 5 (some .int) 2 46 D (tyL cI cB cZ) (Fx adK adV) (wM q n cI cB cZ) [.ref (q 0)] S (some (.int rz)) Sz := by
  refine c_of (by decide) fl_wM (Nat.le_of_ble_eq_true rfl) [(0, .ref (q 0))] rfl ?_
  intro p e s m args below meth c K hr hlk hs
  have K : Ok p s m args c cX7_fewestOut 5 RX7 D (tyL cI cB cZ) (Aw (wM q n cI cB cZ) s.heap.size) (wM q n cI cB cZ) := K
  unfold f_X7_fewestOut at hf
  refine g_bipush 2 59 K dX7_fewestOut_0 rfl (by decide) ?_
  refine g_istore_n (lv' := [(1, .int 59), (0, .ref (q 0))]) 3 1 K dX7_fewestOut_2 rfl rfl (by decide) rfl ?_
  refine g_sub [1, 0] rfl ?_
  refine g_loop1 (fun (x3 : Int32) => [(0, .ref (q 0)), (1, .int x3)]) hf ?_
  intro k1 S2 x3 hk4 hf
  refine g_iload_n 4 1 K dX7_fewestOut_3 rfl rfl rfl ?_
  refine g_if_lt 69 7 K hf dX7_fewestOut_4 (by decide) rfl (fun hf => ?_) (fun hf => ?_)
  · refine g_aload_n 70 0 K dX7_fewestOut_69 rfl rfl rfl ?_
    refine g_iconst 71 0 K dX7_fewestOut_70 rfl (by decide) ?_
    refine g_iconst 72 0 K dX7_fewestOut_71 rfl (by decide) ?_
    obtain ⟨r6, S5, hc7, hf⟩ := bd2_some hf
    refine g_callVi 75 0 [] K (Fx_ok adK adV) hs (c_X7_from hc7) km_X7_170 kI_X7_from kS_X7_from ki_X7 kC_X7_from mw_X7_from ⟨by decide, by decide, by decide, by decide⟩ rfl rfl rfl rfl (Nat.le_of_ble_eq_true rfl) dX7_fewestOut_72 rfl ?_
    exact g_iret K hr hlk hf dX7_fewestOut_75
  · refine g_iconst 8 0 K dX7_fewestOut_7 rfl (by decide) ?_
    refine g_istore_n (lv' := [(2, .int 0), (0, .ref (q 0)), (1, .int x3)]) 9 2 K dX7_fewestOut_8 rfl rfl (by decide) rfl ?_
    refine g_sub [1, 2, 0] rfl ?_
    refine g_loop1 (fun (x10 : Int32) => [(0, .ref (q 0)), (1, .int x3), (2, .int x10)]) hf ?_
    intro k8 S9 x10 hk11 hf
    refine g_iload_n 10 2 K dX7_fewestOut_9 rfl rfl rfl ?_
    refine g_aload_n 11 0 K dX7_fewestOut_10 rfl rfl rfl ?_
    refine gf_M_0_15 14 K dX7_fewestOut_11 rfl ?_
    refine g_icmp_gt 63 17 K hf dX7_fewestOut_14 (by decide) rfl (fun hf => ?_) (fun hf => ?_)
    · refine g_iinc (lv' := [(1, .int (x3 + (-1))), (0, .ref (q 0)), (2, .int x10)]) 66 1 (-1) K dX7_fewestOut_63 rfl rfl (by decide) (by decide) rfl ?_
      refine g_goto 3 K dX7_fewestOut_66 (by decide) ?_
      exact g_sub [1, 0] rfl (hk4 _ _ hf)
    · refine g_aload_n 18 0 K dX7_fewestOut_17 rfl rfl rfl ?_
      refine g_iload_n 19 1 K dX7_fewestOut_18 rfl rfl rfl ?_
      refine g_iload_n 20 2 K dX7_fewestOut_19 rfl rfl rfl ?_
      refine g_iconst 21 0 K dX7_fewestOut_20 rfl (by decide) ?_
      obtain ⟨r13, S12, hc14, hf⟩ := bd2_some hf
      refine g_callVi 24 0 [] K (Fx_ok adK adV) hs (c_X7_goes hc14) km_X7_173 kI_X7_goes kS_X7_goes ki_X7 kC_X7_goes mw_X7_goes ⟨by decide, by decide, by decide, by decide⟩ rfl rfl rfl rfl (Nat.le_of_ble_eq_true rfl) dX7_fewestOut_21 rfl ?_
      refine g_istore_n (lv' := [(3, .int r13), (0, .ref (q 0)), (1, .int x3), (2, .int x10)]) 25 3 K dX7_fewestOut_24 rfl rfl (by decide) rfl ?_
      refine g_aload_n 26 1 K dX7_fewestOut_25 rfl rfl rfl ?_
      refine g_iload_n 27 2 K dX7_fewestOut_26 rfl rfl rfl ?_
      refine g_iload_n 28 3 K dX7_fewestOut_27 rfl rfl rfl ?_
      refine g_iconst 29 1 K dX7_fewestOut_28 rfl (by decide) ?_
      obtain ⟨r16, S15, hc17, hf⟩ := bd2_some hf
      refine g_callVi 32 0 [] K (Fx_ok adK adV) hs (c_X7_goes hc17) km_X7_173 kI_X7_goes kS_X7_goes ki_X7 kC_X7_goes mw_X7_goes ⟨by decide, by decide, by decide, by decide⟩ rfl rfl rfl rfl (Nat.le_of_ble_eq_true rfl) dX7_fewestOut_29 rfl ?_
      refine g_istore (lv' := [(4, .int r16), (3, .int r13), (0, .ref (q 0)), (1, .int x3), (2, .int x10)]) 34 4 K dX7_fewestOut_32 rfl (by decide) rfl ?_
      refine g_aload_n 35 2 K dX7_fewestOut_34 rfl rfl rfl ?_
      refine gf_M_0_39 38 K dX7_fewestOut_35 rfl ?_
      refine g_bipush 40 10 K dX7_fewestOut_38 rfl (by decide) ?_
      refine g_iload_n 41 3 K dX7_fewestOut_40 rfl rfl rfl ?_
      refine g_imul 42 K dX7_fewestOut_41 rfl ?_
      refine g_iload_n 43 4 K dX7_fewestOut_42 rfl rfl rfl ?_
      refine g_iadd 44 K dX7_fewestOut_43 rfl ?_
      refine g_iload_n 45 1 K dX7_fewestOut_44 rfl rfl rfl ?_
      refine g_iload 47 0 K dX7_fewestOut_45 rfl rfl ?_
      refine g_icmp_ge 54 50 K hf dX7_fewestOut_47 (by decide) rfl (fun hf => ?_) (fun hf => ?_)
      · refine g_iload 56 0 K dX7_fewestOut_54 rfl rfl ?_
        refine as_M_19 57 K hf dX7_fewestOut_56 rfl (fun S18 hf => ?_)
        refine g_iinc (lv' := [(2, .int (x10 + 1)), (4, .int r16), (3, .int r13), (0, .ref (q 0)), (1, .int x3)]) 60 4 1 K dX7_fewestOut_57 rfl rfl (by decide) (by decide) rfl ?_
        refine g_goto 9 K dX7_fewestOut_60 (by decide) ?_
        exact g_sub [3, 4, 0] rfl (hk11 _ _ hf)
      · refine g_iload_n 51 1 K dX7_fewestOut_50 rfl rfl rfl ?_
        refine g_goto 56 K dX7_fewestOut_51 (by decide) ?_
        refine as_M_19 57 K hf dX7_fewestOut_56 rfl (fun S19 hf => ?_)
        refine g_iinc (lv' := [(2, .int (x10 + 1)), (4, .int r16), (3, .int r13), (0, .ref (q 0)), (1, .int x3)]) 60 4 1 K dX7_fewestOut_57 rfl rfl (by decide) (by decide) rfl ?_
        refine g_goto 9 K dX7_fewestOut_60 (by decide) ?_
        exact g_sub [3, 4, 0] rfl (hk11 _ _ hf)
def f_X7_out (N n : Nat) (S : St)  : Option (Int32 × St) :=
  bd2 (f_X7_fewestOut N n S ) fun r2 S1 =>
  some (r2, S1)
set_option maxRecDepth 20000 in
set_option maxHeartbeats 4000000 in
theorem c_X7_out {l : Launch} {D : va_G} {q : Nat → Nat} {n : Nat} {cI cB cZ : ClassId} {adK adV : Nat → Nat} {N : Nat} {S Sz : St} {rz : Int32}  (hf : f_X7_out N n S  = some (rz, Sz)) : Cn l yX7_out cX7_out 1 (some .int) 3 70 D (tyL cI cB cZ) (Fx adK adV) (wM q n cI cB cZ) [.ref (q 0)] S (some (.int rz)) Sz := by
  refine c_of (by decide) fl_wM (Nat.le_of_ble_eq_true rfl) [(0, .ref (q 0))] rfl ?_
  intro p e s m args below meth c K hr hlk hs
  have K : Ok p s m args c cX7_out 1 RX7 D (tyL cI cB cZ) (Aw (wM q n cI cB cZ) s.heap.size) (wM q n cI cB cZ) := K
  unfold f_X7_out at hf
  refine g_aload_n 1 0 K dX7_out_0 rfl rfl rfl ?_
  obtain ⟨r2, S1, hc3, hf⟩ := bd2_some hf
  refine g_callVi 4 0 [] K (Fx_ok adK adV) hs (c_X7_fewestOut hc3) km_X7_177 kI_X7_fewestOut kS_X7_fewestOut ki_X7 kC_X7_fewestOut mw_X7_fewestOut ⟨by decide, by decide, by decide, by decide⟩ rfl rfl rfl rfl (Nat.le_of_ble_eq_true rfl) dX7_out_1 rfl ?_
  exact g_iret K hr hlk hf dX7_out_4
def f_X7_outOn (N n : Nat) (S : St) (a1 : Int32) (a2 : Int32) : Option (Int32 × St) :=
  bd2 (f_X7_in N n S (Int32.toInt64 a1) 0 59) fun r2 S1 =>
  if r2 = 0 then
    some ((-1), S1)
  else
    bd2 (f_X7_in N n S1 (Int32.toInt64 a2) 0 1) fun r5 S4 =>
    if r5 = 0 then
      some ((-1), S4)
    else
      if a2 = 1 then
        bd2 (f_X7_isBad N n S4 a1) fun r27 S26 =>
        if r27 = 0 then
          some (0, S26)
        else
          some (1, S26)
      else
        bd2 (f_X7_fewestOut N n S4 ) fun r8 S7 =>
        loop3 (fun (k10 : St → Int32 → Int32 → Int32 → Option (Int32 × St)) (S11 : St) (x12 : Int32) (x13 : Int32) (x14 : Int32) =>
          if a1 < x14 then
            if x13 = 0 then
              some (0, S11)
            else
              some (1, S11)
          else
            bd2 (f_X7_goes N n S11 x14 x12 0) fun r17 S16 =>
            bd2 (f_X7_from N n S16 x14 x12) fun r20 S19 =>
            lett (fun (S23 : St) (x24 : Int32) =>
              if x24 = 0 then
                k10 S23 0 x24 (x14 + 1)
              else
                if (S23.1 15) ≤ x12 then
                  k10 S23 (S23.1 15) x24 (x14 + 1)
                else
                  k10 S23 (x12 + 1) x24 (x14 + 1)) fun j22 =>
            if r17 = r20 then
              j22 S19 0
            else
              j22 S19 1) N S7 0 0 0
set_option maxRecDepth 20000 in
set_option maxHeartbeats 4000000 in
theorem c_X7_outOn {l : Launch} {D : va_G} {q : Nat → Nat} {n : Nat} {cI cB cZ : ClassId} {adK adV : Nat → Nat} {N : Nat} {S Sz : St} {rz : Int32} {a1 : Int32} {a2 : Int32} (hf : f_X7_outOn N n S a1 a2 = some (rz, Sz)) : Cn l yX7_outOn cX7_outOn 7 (some .int) 3 70 D (tyL cI cB cZ) (Fx adK adV) (wM q n cI cB cZ) [.ref (q 0), .int a1, .int a2] S (some (.int rz)) Sz := by
  refine c_of (by decide) fl_wM (Nat.le_of_ble_eq_true rfl) [(0, .ref (q 0)), (1, .int a1), (2, .int a2)] rfl ?_
  intro p e s m args below meth c K hr hlk hs
  have K : Ok p s m args c cX7_outOn 7 RX7 D (tyL cI cB cZ) (Aw (wM q n cI cB cZ) s.heap.size) (wM q n cI cB cZ) := K
  unfold f_X7_outOn at hf
  refine g_iload_n 1 1 K dX7_outOn_0 rfl rfl rfl ?_
  refine g_i2l 2 K dX7_outOn_1 rfl ?_
  refine g_lconst 3 0 K dX7_outOn_2 rfl (by decide) ?_
  refine g_ldc2 6 59 K dX7_outOn_3 rfl kc_X7_163 ?_
  obtain ⟨r2, S1, hc3, hf⟩ := bd2_some hf
  refine g_callSi 9 [] K (Fx_ok adK adV) hs (c_X7_in hc3) km_X7_84 kt_X7_in ki_X7 kC_X7_in mw_X7_in ⟨by decide, by decide, by decide, by decide⟩ rfl rfl (Nat.le_of_ble_eq_true rfl) dX7_outOn_6 rfl ?_
  refine g_if_eq 22 12 K hf dX7_outOn_9 (by decide) rfl (fun hf => ?_) (fun hf => ?_)
  · refine g_iconst 23 (-1) K dX7_outOn_22 rfl (by decide) ?_
    exact g_iret K hr hlk hf dX7_outOn_23
  · refine g_iload_n 13 2 K dX7_outOn_12 rfl rfl rfl ?_
    refine g_i2l 14 K dX7_outOn_13 rfl ?_
    refine g_lconst 15 0 K dX7_outOn_14 rfl (by decide) ?_
    refine g_lconst 16 1 K dX7_outOn_15 rfl (by decide) ?_
    obtain ⟨r5, S4, hc6, hf⟩ := bd2_some hf
    refine g_callSi 19 [] K (Fx_ok adK adV) hs (c_X7_in hc6) km_X7_84 kt_X7_in ki_X7 kC_X7_in mw_X7_in ⟨by decide, by decide, by decide, by decide⟩ rfl rfl (Nat.le_of_ble_eq_true rfl) dX7_outOn_16 rfl ?_
    refine g_if_ne 24 22 K hf dX7_outOn_19 (by decide) rfl (fun hf => ?_) (fun hf => ?_)
    · refine g_iconst 23 (-1) K dX7_outOn_22 rfl (by decide) ?_
      exact g_iret K hr hlk hf dX7_outOn_23
    · refine g_iload_n 25 2 K dX7_outOn_24 rfl rfl rfl ?_
      refine g_iconst 26 1 K dX7_outOn_25 rfl (by decide) ?_
      refine g_icmp_ne 43 29 K hf dX7_outOn_26 (by decide) rfl (fun hf => ?_) (fun hf => ?_)
      · refine g_aload_n 30 0 K dX7_outOn_29 rfl rfl rfl ?_
        refine g_iload_n 31 1 K dX7_outOn_30 rfl rfl rfl ?_
        obtain ⟨r27, S26, hc28, hf⟩ := bd2_some hf
        refine g_callVi 34 0 [] K (Fx_ok adK adV) hs (c_X7_isBad hc28) km_X7_167 kI_X7_isBad kS_X7_isBad ki_X7 kC_X7_isBad mw_X7_isBad ⟨by decide, by decide, by decide, by decide⟩ rfl rfl rfl rfl (Nat.le_of_ble_eq_true rfl) dX7_outOn_31 rfl ?_
        refine g_if_eq 41 37 K hf dX7_outOn_34 (by decide) rfl (fun hf => ?_) (fun hf => ?_)
        · refine g_iconst 42 0 K dX7_outOn_41 rfl (by decide) ?_
          exact g_iret K hr hlk hf dX7_outOn_42
        · refine g_iconst 38 1 K dX7_outOn_37 rfl (by decide) ?_
          refine g_goto 42 K dX7_outOn_38 (by decide) ?_
          exact g_iret K hr hlk hf dX7_outOn_42
      · refine g_aload_n 44 0 K dX7_outOn_43 rfl rfl rfl ?_
        obtain ⟨r8, S7, hc9, hf⟩ := bd2_some hf
        refine g_callVi 47 0 [] K (Fx_ok adK adV) hs (c_X7_fewestOut hc9) km_X7_177 kI_X7_fewestOut kS_X7_fewestOut ki_X7 kC_X7_fewestOut mw_X7_fewestOut ⟨by decide, by decide, by decide, by decide⟩ rfl rfl rfl rfl (Nat.le_of_ble_eq_true rfl) dX7_outOn_44 rfl ?_
        refine g_istore_n (lv' := [(3, .int r8), (0, .ref (q 0)), (1, .int a1), (2, .int a2)]) 48 3 K dX7_outOn_47 rfl rfl (by decide) rfl ?_
        refine g_iconst 49 0 K dX7_outOn_48 rfl (by decide) ?_
        refine g_istore (lv' := [(4, .int 0), (3, .int r8), (0, .ref (q 0)), (1, .int a1), (2, .int a2)]) 51 4 K dX7_outOn_49 rfl (by decide) rfl ?_
        refine g_iconst 52 0 K dX7_outOn_51 rfl (by decide) ?_
        refine g_istore (lv' := [(5, .int 0), (4, .int 0), (3, .int r8), (0, .ref (q 0)), (1, .int a1), (2, .int a2)]) 54 5 K dX7_outOn_52 rfl (by decide) rfl ?_
        refine g_iconst 55 0 K dX7_outOn_54 rfl (by decide) ?_
        refine g_istore (lv' := [(6, .int 0), (5, .int 0), (4, .int 0), (3, .int r8), (0, .ref (q 0)), (1, .int a1), (2, .int a2)]) 57 6 K dX7_outOn_55 rfl (by decide) rfl ?_
        refine g_sub [4, 5, 6, 3, 2, 1, 0] rfl ?_
        refine g_loop3 (fun (x12 : Int32) (x13 : Int32) (x14 : Int32) => [(0, .ref (q 0)), (1, .int a1), (2, .int a2), (3, .int r8), (4, .int x12), (5, .int x13), (6, .int x14)]) hf ?_
        intro k10 S11 x12 x13 x14 hk15 hf
        refine g_iload 59 6 K dX7_outOn_57 rfl rfl ?_
        refine g_iload_n 60 1 K dX7_outOn_59 rfl rfl rfl ?_
        refine g_icmp_gt 127 63 K hf dX7_outOn_60 (by decide) rfl (fun hf => ?_) (fun hf => ?_)
        · refine g_iload 129 5 K dX7_outOn_127 rfl rfl ?_
          refine g_if_eq 136 132 K hf dX7_outOn_129 (by decide) rfl (fun hf => ?_) (fun hf => ?_)
          · refine g_iconst 137 0 K dX7_outOn_136 rfl (by decide) ?_
            exact g_iret K hr hlk hf dX7_outOn_137
          · refine g_iconst 133 1 K dX7_outOn_132 rfl (by decide) ?_
            refine g_goto 137 K dX7_outOn_133 (by decide) ?_
            exact g_iret K hr hlk hf dX7_outOn_137
        · refine g_aload_n 64 0 K dX7_outOn_63 rfl rfl rfl ?_
          refine g_iload 66 6 K dX7_outOn_64 rfl rfl ?_
          refine g_iload 68 4 K dX7_outOn_66 rfl rfl ?_
          refine g_iconst 69 0 K dX7_outOn_68 rfl (by decide) ?_
          obtain ⟨r17, S16, hc18, hf⟩ := bd2_some hf
          refine g_callVi 72 0 [] K (Fx_ok adK adV) hs (c_X7_goes hc18) km_X7_173 kI_X7_goes kS_X7_goes ki_X7 kC_X7_goes mw_X7_goes ⟨by decide, by decide, by decide, by decide⟩ rfl rfl rfl rfl (Nat.le_of_ble_eq_true rfl) dX7_outOn_69 rfl ?_
          refine g_aload_n 73 0 K dX7_outOn_72 rfl rfl rfl ?_
          refine g_iload 75 6 K dX7_outOn_73 rfl rfl ?_
          refine g_iload 77 4 K dX7_outOn_75 rfl rfl ?_
          obtain ⟨r20, S19, hc21, hf⟩ := bd2_some hf
          refine g_callVi 80 0 [.int r17] K (Fx_ok adK adV) hs (c_X7_from hc21) km_X7_170 kI_X7_from kS_X7_from ki_X7 kC_X7_from mw_X7_from ⟨by decide, by decide, by decide, by decide⟩ rfl rfl rfl rfl (Nat.le_of_ble_eq_true rfl) dX7_outOn_77 rfl ?_
          refine g_join1 88 (fun (x24 : Int32) => [(0, .ref (q 0)), (1, .int a1), (2, .int a2), (3, .int r8), (4, .int x12), (5, .int x13), (6, .int x14)]) (fun (x24 : Int32) => [.int x24]) hf (fun S23 x24 hf => ?_) (fun j22 hj25 hf => ?_)
          · refine g_istore (lv' := [(5, .int x24), (0, .ref (q 0)), (1, .int a1), (2, .int a2), (3, .int r8), (4, .int x12), (6, .int x14)]) 90 5 K dX7_outOn_88 rfl (by decide) rfl ?_
            refine g_iload 92 0 K dX7_outOn_90 rfl rfl ?_
            refine g_if_eq 118 95 K hf dX7_outOn_92 (by decide) rfl (fun hf => ?_) (fun hf => ?_)
            · refine g_iconst 119 0 K dX7_outOn_118 rfl (by decide) ?_
              refine g_istore (lv' := [(4, .int 0), (5, .int x24), (0, .ref (q 0)), (1, .int a1), (2, .int a2), (3, .int r8), (6, .int x14)]) 121 4 K dX7_outOn_119 rfl (by decide) rfl ?_
              refine g_iinc (lv' := [(6, .int (x14 + 1)), (4, .int 0), (5, .int x24), (0, .ref (q 0)), (1, .int a1), (2, .int a2), (3, .int r8)]) 124 6 1 K dX7_outOn_121 rfl rfl (by decide) (by decide) rfl ?_
              refine g_goto 57 K dX7_outOn_124 (by decide) ?_
              exact g_sub [3, 4, 5, 6, 1, 2, 0] rfl (hk15 _ _ _ _ hf)
            · refine g_iload 97 5 K dX7_outOn_95 rfl rfl ?_
              refine g_aload_n 98 1 K dX7_outOn_97 rfl rfl rfl ?_
              refine gf_M_0_15 101 K dX7_outOn_98 rfl ?_
              refine g_icmp_ge 111 104 K hf dX7_outOn_101 (by decide) rfl (fun hf => ?_) (fun hf => ?_)
              · refine g_aload_n 112 1 K dX7_outOn_111 rfl rfl rfl ?_
                refine gf_M_0_15 115 K dX7_outOn_112 rfl ?_
                refine g_goto 119 K dX7_outOn_115 (by decide) ?_
                refine g_istore (lv' := [(4, .int (S23.1 15)), (5, .int x24), (0, .ref (q 0)), (1, .int a1), (2, .int a2), (3, .int r8), (6, .int x14)]) 121 4 K dX7_outOn_119 rfl (by decide) rfl ?_
                refine g_iinc (lv' := [(6, .int (x14 + 1)), (4, .int (S23.1 15)), (5, .int x24), (0, .ref (q 0)), (1, .int a1), (2, .int a2), (3, .int r8)]) 124 6 1 K dX7_outOn_121 rfl rfl (by decide) (by decide) rfl ?_
                refine g_goto 57 K dX7_outOn_124 (by decide) ?_
                exact g_sub [3, 4, 5, 6, 1, 2, 0] rfl (hk15 _ _ _ _ hf)
              · refine g_iload 106 5 K dX7_outOn_104 rfl rfl ?_
                refine g_iconst 107 1 K dX7_outOn_106 rfl (by decide) ?_
                refine g_iadd 108 K dX7_outOn_107 rfl ?_
                refine g_goto 119 K dX7_outOn_108 (by decide) ?_
                refine g_istore (lv' := [(4, .int (x12 + 1)), (5, .int x24), (0, .ref (q 0)), (1, .int a1), (2, .int a2), (3, .int r8), (6, .int x14)]) 121 4 K dX7_outOn_119 rfl (by decide) rfl ?_
                refine g_iinc (lv' := [(6, .int (x14 + 1)), (4, .int (x12 + 1)), (5, .int x24), (0, .ref (q 0)), (1, .int a1), (2, .int a2), (3, .int r8)]) 124 6 1 K dX7_outOn_121 rfl rfl (by decide) (by decide) rfl ?_
                refine g_goto 57 K dX7_outOn_124 (by decide) ?_
                exact g_sub [3, 4, 5, 6, 1, 2, 0] rfl (hk15 _ _ _ _ hf)
          · refine g_icmp_eq 87 83 K hf dX7_outOn_80 (by decide) rfl (fun hf => ?_) (fun hf => ?_)
            · refine g_iconst 88 0 K dX7_outOn_87 rfl (by decide) ?_
              exact g_sub [0, 1, 2, 3, 4, 5, 6] rfl (hj25 _ _ hf)
            · refine g_iconst 84 1 K dX7_outOn_83 rfl (by decide) ?_
              refine g_goto 88 K dX7_outOn_84 (by decide) ?_
              exact g_sub [0, 1, 2, 3, 4, 5, 6] rfl (hj25 _ _ hf)
def f_X7_put (N n : Nat) (S : St) (a1 : Int32) : Option St :=
  (wr S 11 200 (S.1 17) (vp_nar .byte ((a1 >>> (24 &&& 31)).toInt8.toInt32))).bind fun S1 =>
  (wr S1 11 200 ((S1.1 17) + 1) (vp_nar .byte ((a1 >>> (16 &&& 31)).toInt8.toInt32))).bind fun S2 =>
  (wr S2 11 200 ((S2.1 17) + 2) (vp_nar .byte ((a1 >>> (8 &&& 31)).toInt8.toInt32))).bind fun S3 =>
  (wr S3 11 200 ((S3.1 17) + 3) (vp_nar .byte a1.toInt8.toInt32)).bind fun S4 =>
  lett (pF S4 17 ((S4.1 17) + 4)) fun S5 =>
  some S5
set_option maxRecDepth 20000 in
set_option maxHeartbeats 4000000 in
theorem c_X7_put {l : Launch} {D : va_G} {q : Nat → Nat} {n : Nat} {cI cB cZ : ClassId} {adK adV : Nat → Nat} {N : Nat} {S Sz : St} {a1 : Int32} (hf : f_X7_put N n S a1 = some Sz) : Cn l yX7_put cX7_put 2 none 0 0 D (tyL cI cB cZ) (Fx adK adV) (wM q n cI cB cZ) [.ref (q 0), .int a1] S none Sz := by
  refine c_of (by decide) fl_wM (Nat.le_of_ble_eq_true rfl) [(0, .ref (q 0)), (1, .int a1)] rfl ?_
  intro p e s m args below meth c K hr hlk hs
  have K : Ok p s m args c cX7_put 2 RX7 D (tyL cI cB cZ) (Aw (wM q n cI cB cZ) s.heap.size) (wM q n cI cB cZ) := K
  unfold f_X7_put at hf
  refine g_aload_n 1 0 K dX7_put_0 rfl rfl rfl ?_
  refine gf_M_0_16 4 K dX7_put_1 rfl ?_
  refine g_aload_n 5 0 K dX7_put_4 rfl rfl rfl ?_
  refine gf_M_0_17 8 K dX7_put_5 rfl ?_
  refine g_iload_n 9 1 K dX7_put_8 rfl rfl rfl ?_
  refine g_bipush 11 24 K dX7_put_9 rfl (by decide) ?_
  refine g_ishr 12 K dX7_put_11 rfl ?_
  refine g_i2b 13 K dX7_put_12 rfl ?_
  refine as_M_11 14 K hf dX7_put_13 rfl (fun S1 hf => ?_)
  refine g_aload_n 15 0 K dX7_put_14 rfl rfl rfl ?_
  refine gf_M_0_16 18 K dX7_put_15 rfl ?_
  refine g_aload_n 19 0 K dX7_put_18 rfl rfl rfl ?_
  refine gf_M_0_17 22 K dX7_put_19 rfl ?_
  refine g_iconst 23 1 K dX7_put_22 rfl (by decide) ?_
  refine g_iadd 24 K dX7_put_23 rfl ?_
  refine g_iload_n 25 1 K dX7_put_24 rfl rfl rfl ?_
  refine g_bipush 27 16 K dX7_put_25 rfl (by decide) ?_
  refine g_ishr 28 K dX7_put_27 rfl ?_
  refine g_i2b 29 K dX7_put_28 rfl ?_
  refine as_M_11 30 K hf dX7_put_29 rfl (fun S2 hf => ?_)
  refine g_aload_n 31 0 K dX7_put_30 rfl rfl rfl ?_
  refine gf_M_0_16 34 K dX7_put_31 rfl ?_
  refine g_aload_n 35 0 K dX7_put_34 rfl rfl rfl ?_
  refine gf_M_0_17 38 K dX7_put_35 rfl ?_
  refine g_iconst 39 2 K dX7_put_38 rfl (by decide) ?_
  refine g_iadd 40 K dX7_put_39 rfl ?_
  refine g_iload_n 41 1 K dX7_put_40 rfl rfl rfl ?_
  refine g_bipush 43 8 K dX7_put_41 rfl (by decide) ?_
  refine g_ishr 44 K dX7_put_43 rfl ?_
  refine g_i2b 45 K dX7_put_44 rfl ?_
  refine as_M_11 46 K hf dX7_put_45 rfl (fun S3 hf => ?_)
  refine g_aload_n 47 0 K dX7_put_46 rfl rfl rfl ?_
  refine gf_M_0_16 50 K dX7_put_47 rfl ?_
  refine g_aload_n 51 0 K dX7_put_50 rfl rfl rfl ?_
  refine gf_M_0_17 54 K dX7_put_51 rfl ?_
  refine g_iconst 55 3 K dX7_put_54 rfl (by decide) ?_
  refine g_iadd 56 K dX7_put_55 rfl ?_
  refine g_iload_n 57 1 K dX7_put_56 rfl rfl rfl ?_
  refine g_i2b 58 K dX7_put_57 rfl ?_
  refine as_M_11 59 K hf dX7_put_58 rfl (fun S4 hf => ?_)
  refine g_aload_n 60 0 K dX7_put_59 rfl rfl rfl ?_
  refine g_dup 61 K dX7_put_60 rfl rfl ?_
  refine gf_M_0_17 64 K dX7_put_61 rfl ?_
  refine g_iconst 65 4 K dX7_put_64 rfl (by decide) ?_
  refine g_iadd 66 K dX7_put_65 rfl ?_
  refine pf_M_0_17 69 K hf dX7_put_66 rfl (fun S5 hf => ?_)
  exact g_vret K hr hlk hf dX7_put_69
def f_X7_feed (N n : Nat) (S : St) (a1 : Int32) (a2 : Int32) (a3 : Int32) (a4 : Int32) (a5 : Int32) : Option (Int32 × St) :=
  if ((S.1 17) + 20) ≤ 200 then
    (f_X7_put N n S a1).bind fun S1 =>
    (f_X7_put N n S1 a2).bind fun S4 =>
    (f_X7_put N n S4 a3).bind fun S7 =>
    (f_X7_put N n S7 a4).bind fun S10 =>
    (f_X7_put N n S10 a5).bind fun S13 =>
    some (S13.1 17, S13)
  else
    some ((-1), S)
set_option maxRecDepth 20000 in
set_option maxHeartbeats 4000000 in
theorem c_X7_feed {l : Launch} {D : va_G} {q : Nat → Nat} {n : Nat} {cI cB cZ : ClassId} {adK adV : Nat → Nat} {N : Nat} {S Sz : St} {rz : Int32} {a1 : Int32} {a2 : Int32} {a3 : Int32} {a4 : Int32} {a5 : Int32} (hf : f_X7_feed N n S a1 a2 a3 a4 a5 = some (rz, Sz)) : Cn l yX7_feed cX7_feed 6 (some .int) 1 21 D (tyL cI cB cZ) (Fx adK adV) (wM q n cI cB cZ) [.ref (q 0), .int a1, .int a2, .int a3, .int a4, .int a5] S (some (.int rz)) Sz := by
  refine c_of (by decide) fl_wM (Nat.le_of_ble_eq_true rfl) [(0, .ref (q 0)), (1, .int a1), (2, .int a2), (3, .int a3), (4, .int a4), (5, .int a5)] rfl ?_
  intro p e s m args below meth c K hr hlk hs
  have K : Ok p s m args c cX7_feed 6 RX7 D (tyL cI cB cZ) (Aw (wM q n cI cB cZ) s.heap.size) (wM q n cI cB cZ) := K
  unfold f_X7_feed at hf
  refine g_aload_n 1 0 K dX7_feed_0 rfl rfl rfl ?_
  refine gf_M_0_17 4 K dX7_feed_1 rfl ?_
  refine g_bipush 6 20 K dX7_feed_4 rfl (by decide) ?_
  refine g_iadd 7 K dX7_feed_6 rfl ?_
  refine g_sipush 10 200 K dX7_feed_7 rfl (by decide) ?_
  refine g_icmp_le 15 13 K hf dX7_feed_10 (by decide) rfl (fun hf => ?_) (fun hf => ?_)
  · refine g_aload_n 16 0 K dX7_feed_15 rfl rfl rfl ?_
    refine g_iload_n 17 1 K dX7_feed_16 rfl rfl rfl ?_
    obtain ⟨S1, hc3, hf⟩ := bd_some hf
    refine g_callVv 20 0 [] K (Fx_ok adK adV) hs (c_X7_put hc3) km_X7_183 kI_X7_put kS_X7_put ki_X7 kC_X7_put mw_X7_put ⟨by decide, by decide, by decide, by decide⟩ rfl rfl rfl rfl (Nat.le_of_ble_eq_true rfl) dX7_feed_17 rfl ?_
    refine g_aload_n 21 0 K dX7_feed_20 rfl rfl rfl ?_
    refine g_iload_n 22 2 K dX7_feed_21 rfl rfl rfl ?_
    obtain ⟨S4, hc6, hf⟩ := bd_some hf
    refine g_callVv 25 0 [] K (Fx_ok adK adV) hs (c_X7_put hc6) km_X7_183 kI_X7_put kS_X7_put ki_X7 kC_X7_put mw_X7_put ⟨by decide, by decide, by decide, by decide⟩ rfl rfl rfl rfl (Nat.le_of_ble_eq_true rfl) dX7_feed_22 rfl ?_
    refine g_aload_n 26 0 K dX7_feed_25 rfl rfl rfl ?_
    refine g_iload_n 27 3 K dX7_feed_26 rfl rfl rfl ?_
    obtain ⟨S7, hc9, hf⟩ := bd_some hf
    refine g_callVv 30 0 [] K (Fx_ok adK adV) hs (c_X7_put hc9) km_X7_183 kI_X7_put kS_X7_put ki_X7 kC_X7_put mw_X7_put ⟨by decide, by decide, by decide, by decide⟩ rfl rfl rfl rfl (Nat.le_of_ble_eq_true rfl) dX7_feed_27 rfl ?_
    refine g_aload_n 31 0 K dX7_feed_30 rfl rfl rfl ?_
    refine g_iload 33 4 K dX7_feed_31 rfl rfl ?_
    obtain ⟨S10, hc12, hf⟩ := bd_some hf
    refine g_callVv 36 0 [] K (Fx_ok adK adV) hs (c_X7_put hc12) km_X7_183 kI_X7_put kS_X7_put ki_X7 kC_X7_put mw_X7_put ⟨by decide, by decide, by decide, by decide⟩ rfl rfl rfl rfl (Nat.le_of_ble_eq_true rfl) dX7_feed_33 rfl ?_
    refine g_aload_n 37 0 K dX7_feed_36 rfl rfl rfl ?_
    refine g_iload 39 5 K dX7_feed_37 rfl rfl ?_
    obtain ⟨S13, hc15, hf⟩ := bd_some hf
    refine g_callVv 42 0 [] K (Fx_ok adK adV) hs (c_X7_put hc15) km_X7_183 kI_X7_put kS_X7_put ki_X7 kC_X7_put mw_X7_put ⟨by decide, by decide, by decide, by decide⟩ rfl rfl rfl rfl (Nat.le_of_ble_eq_true rfl) dX7_feed_39 rfl ?_
    refine g_aload_n 43 0 K dX7_feed_42 rfl rfl rfl ?_
    refine gf_M_0_17 46 K dX7_feed_43 rfl ?_
    exact g_iret K hr hlk hf dX7_feed_46
  · refine g_iconst 14 (-1) K dX7_feed_13 rfl (by decide) ?_
    exact g_iret K hr hlk hf dX7_feed_14
def f_X7_end (N n : Nat) (S : St) (a1 : Int32) : Option (Int32 × St) :=
  bd2 (f_X7_in N n S (Int32.toInt64 a1) 0 (Int32.toInt64 (S.1 17))) fun r2 S1 =>
  if r2 = 0 then
    some ((-1), S1)
  else
    lett (pF S1 17 a1) fun S4 =>
    some (a1, S4)
set_option maxRecDepth 20000 in
set_option maxHeartbeats 4000000 in
theorem c_X7_end {l : Launch} {D : va_G} {q : Nat → Nat} {n : Nat} {cI cB cZ : ClassId} {adK adV : Nat → Nat} {N : Nat} {S Sz : St} {rz : Int32} {a1 : Int32} (hf : f_X7_end N n S a1 = some (rz, Sz)) : Cn l yX7_end cX7_end 2 (some .int) 1 25 D (tyL cI cB cZ) (Fx adK adV) (wM q n cI cB cZ) [.ref (q 0), .int a1] S (some (.int rz)) Sz := by
  refine c_of (by decide) fl_wM (Nat.le_of_ble_eq_true rfl) [(0, .ref (q 0)), (1, .int a1)] rfl ?_
  intro p e s m args below meth c K hr hlk hs
  have K : Ok p s m args c cX7_end 2 RX7 D (tyL cI cB cZ) (Aw (wM q n cI cB cZ) s.heap.size) (wM q n cI cB cZ) := K
  unfold f_X7_end at hf
  refine g_iload_n 1 1 K dX7_end_0 rfl rfl rfl ?_
  refine g_i2l 2 K dX7_end_1 rfl ?_
  refine g_lconst 3 0 K dX7_end_2 rfl (by decide) ?_
  refine g_aload_n 4 0 K dX7_end_3 rfl rfl rfl ?_
  refine gf_M_0_17 7 K dX7_end_4 rfl ?_
  refine g_i2l 8 K dX7_end_7 rfl ?_
  obtain ⟨r2, S1, hc3, hf⟩ := bd2_some hf
  refine g_callSi 11 [] K (Fx_ok adK adV) hs (c_X7_in hc3) km_X7_84 kt_X7_in ki_X7 kC_X7_in mw_X7_in ⟨by decide, by decide, by decide, by decide⟩ rfl rfl (Nat.le_of_ble_eq_true rfl) dX7_end_8 rfl ?_
  refine g_if_ne 16 14 K hf dX7_end_11 (by decide) rfl (fun hf => ?_) (fun hf => ?_)
  · refine g_iconst 15 (-1) K dX7_end_14 rfl (by decide) ?_
    exact g_iret K hr hlk hf dX7_end_15
  · refine g_aload_n 17 0 K dX7_end_16 rfl rfl rfl ?_
    refine g_iload_n 18 1 K dX7_end_17 rfl rfl rfl ?_
    refine pf_M_0_17 21 K hf dX7_end_18 rfl (fun S4 hf => ?_)
    refine g_iload_n 22 1 K dX7_end_21 rfl rfl rfl ?_
    exact g_iret K hr hlk hf dX7_end_22
def f_X7_isLetter (N n : Nat) (S : St) (a1 : Int32) : Option (Int32 × St) :=
  bd2 (f_X7_in N n S (Int32.toInt64 a1) 97 122) fun r2 S1 =>
  if r2 = 0 then
    bd2 (f_X7_in N n S1 (Int32.toInt64 a1) 65 90) fun r5 S4 =>
    if r5 = 0 then
      zr 0 S4
    else
      zr 1 S4
  else
    zr 1 S1
set_option maxRecDepth 20000 in
set_option maxHeartbeats 4000000 in
theorem c_X7_isLetter {l : Launch} {D : va_G} {q : Nat → Nat} {n : Nat} {cI cB cZ : ClassId} {adK adV : Nat → Nat} {N : Nat} {S Sz : St} {rz : Int32} {a1 : Int32} (hf : f_X7_isLetter N n S a1 = some (rz, Sz)) : Cn l yX7_isLetter cX7_isLetter 1 (some .boolean) 1 25 D (tyL cI cB cZ) (Fx adK adV) (wM q n cI cB cZ) [.int a1] S (some (.int rz)) Sz := by
  refine c_of (by decide) fl_wM (Nat.le_of_ble_eq_true rfl) [(0, .int a1)] rfl ?_
  intro p e s m args below meth c K hr hlk hs
  have K : Ok p s m args c cX7_isLetter 1 RX7 D (tyL cI cB cZ) (Aw (wM q n cI cB cZ) s.heap.size) (wM q n cI cB cZ) := K
  unfold f_X7_isLetter at hf
  refine g_iload_n 1 0 K dX7_isLetter_0 rfl rfl rfl ?_
  refine g_i2l 2 K dX7_isLetter_1 rfl ?_
  refine g_ldc2 5 97 K dX7_isLetter_2 rfl kc_X7_186 ?_
  refine g_ldc2 8 122 K dX7_isLetter_5 rfl kc_X7_188 ?_
  obtain ⟨r2, S1, hc3, hf⟩ := bd2_some hf
  refine g_callSi 11 [] K (Fx_ok adK adV) hs (c_X7_in hc3) km_X7_84 kt_X7_in ki_X7 kC_X7_in mw_X7_in ⟨by decide, by decide, by decide, by decide⟩ rfl rfl (Nat.le_of_ble_eq_true rfl) dX7_isLetter_8 rfl ?_
  refine g_if_ne 28 14 K hf dX7_isLetter_11 (by decide) rfl (fun hf => ?_) (fun hf => ?_)
  · refine g_iload_n 15 0 K dX7_isLetter_14 rfl rfl rfl ?_
    refine g_i2l 16 K dX7_isLetter_15 rfl ?_
    refine g_ldc2 19 65 K dX7_isLetter_16 rfl kc_X7_190 ?_
    refine g_ldc2 22 90 K dX7_isLetter_19 rfl kc_X7_192 ?_
    obtain ⟨r5, S4, hc6, hf⟩ := bd2_some hf
    refine g_callSi 25 [] K (Fx_ok adK adV) hs (c_X7_in hc6) km_X7_84 kt_X7_in ki_X7 kC_X7_in mw_X7_in ⟨by decide, by decide, by decide, by decide⟩ rfl rfl (Nat.le_of_ble_eq_true rfl) dX7_isLetter_22 rfl ?_
    refine g_if_eq 32 28 K hf dX7_isLetter_25 (by decide) rfl (fun hf => ?_) (fun hf => ?_)
    · refine g_iconst 33 0 K dX7_isLetter_32 rfl (by decide) ?_
      exact g_zret K hr hlk hf dX7_isLetter_33
    · refine g_iconst 29 1 K dX7_isLetter_28 rfl (by decide) ?_
      refine g_goto 33 K dX7_isLetter_29 (by decide) ?_
      exact g_zret K hr hlk hf dX7_isLetter_33
  · refine g_iconst 29 1 K dX7_isLetter_28 rfl (by decide) ?_
    refine g_goto 33 K dX7_isLetter_29 (by decide) ?_
    exact g_zret K hr hlk hf dX7_isLetter_33
def f_X7_wordOf (N n : Nat) (S : St) (a1 : Int64) : Option (Int32 × St) :=
  if (lg_cmp a1 13826860) = 0 then
    some (0, S)
  else
    if (lg_cmp a1 564009582) = 0 then
      some (1, S)
    else
      some ((-1), S)
set_option maxRecDepth 20000 in
set_option maxHeartbeats 4000000 in
theorem c_X7_wordOf {l : Launch} {D : va_G} {q : Nat → Nat} {n : Nat} {cI cB cZ : ClassId} {adK adV : Nat → Nat} {N : Nat} {S Sz : St} {rz : Int32} {a1 : Int64} (hf : f_X7_wordOf N n S a1 = some (rz, Sz)) : Cn l yX7_wordOf cX7_wordOf 2 (some .int) 0 0 D (tyL cI cB cZ) (Fx adK adV) (wM q n cI cB cZ) [.long a1] S (some (.int rz)) Sz := by
  refine c_of (by decide) fl_wM (Nat.le_of_ble_eq_true rfl) [(0, .long a1)] rfl ?_
  intro p e s m args below meth c K hr hlk hs
  have K : Ok p s m args c cX7_wordOf 2 RX7 D (tyL cI cB cZ) (Aw (wM q n cI cB cZ) s.heap.size) (wM q n cI cB cZ) := K
  unfold f_X7_wordOf at hf
  refine g_lload_n 1 0 K dX7_wordOf_0 rfl rfl rfl ?_
  refine g_ldc2 4 13826860 K dX7_wordOf_1 rfl kc_X7_194 ?_
  refine g_lcmp 5 K dX7_wordOf_4 rfl ?_
  refine g_if_ne 12 8 K hf dX7_wordOf_5 (by decide) rfl (fun hf => ?_) (fun hf => ?_)
  · refine g_iconst 9 0 K dX7_wordOf_8 rfl (by decide) ?_
    refine g_goto 25 K dX7_wordOf_9 (by decide) ?_
    exact g_iret K hr hlk hf dX7_wordOf_25
  · refine g_lload_n 13 0 K dX7_wordOf_12 rfl rfl rfl ?_
    refine g_ldc2 16 564009582 K dX7_wordOf_13 rfl kc_X7_196 ?_
    refine g_lcmp 17 K dX7_wordOf_16 rfl ?_
    refine g_if_ne 24 20 K hf dX7_wordOf_17 (by decide) rfl (fun hf => ?_) (fun hf => ?_)
    · refine g_iconst 21 1 K dX7_wordOf_20 rfl (by decide) ?_
      refine g_goto 25 K dX7_wordOf_21 (by decide) ?_
      exact g_iret K hr hlk hf dX7_wordOf_25
    · refine g_iconst 25 (-1) K dX7_wordOf_24 rfl (by decide) ?_
      exact g_iret K hr hlk hf dX7_wordOf_25
def f_X7_next (N n : Nat) (S : St) (a1 : Int32) : Option St :=
  loop0 (fun (k1 : St → Option St) (S2 : St) =>
    lett (fun (S5 : St) =>
      lett (pF S5 19 (S5.1 18)) fun S7 =>
      if (S7.1 18) = a1 then
        lett (pF S7 20 0) fun S64 =>
        some S64
      else
        (rd (S7.2 11) 200 (S7.1 18)).bind fun x8 =>
        bd2 (f_X7_isLetter N n S7 x8) fun r10 S9 =>
        if r10 = 0 then
          bd2 (f_X7_in N n S9 (Int32.toInt64 x8) 48 57) fun r13 S12 =>
          if r13 = 0 then
            lett (pF S12 18 ((S12.1 18) + 1)) fun S15 =>
            if x8 = 59 then
              lett (pF S15 20 3) fun S17 =>
              some S17
            else
              lett (pF S15 20 4) fun S16 =>
              some S16
          else
            lett (pF S12 20 2) fun S18 =>
            lett (pF S18 21 0) fun S19 =>
            loop0 (fun (k20 : St → Option St) (S21 : St) =>
              if a1 ≤ (S21.1 18) then
                some S21
              else
                (rd (S21.2 11) 200 (S21.1 18)).bind fun x23 =>
                bd2 (f_X7_in N n S21 (Int32.toInt64 x23) 48 57) fun r25 S24 =>
                if r25 = 0 then
                  some S24
                else
                  lett (fun (S28 : St) (x29 : Int32) =>
                    lett (pF S28 21 x29) fun S31 =>
                    lett (pF S31 18 ((S31.1 18) + 1)) fun S32 =>
                    k20 S32 ) fun j27 =>
                  if (S24.1 21) ≤ 99999 then
                    (rd (S24.2 11) 200 (S24.1 18)).bind fun x33 =>
                    j27 S24 (((10 * (S24.1 21)) + x33) - 48)
                  else
                    j27 S24 (S24.1 21)) N S19 
        else
          loop2 (fun (k34 : St → Int64 → Int32 → Option St) (S35 : St) (x36 : Int64) (x37 : Int32) =>
            lett (fun (S40 : St) (x41 : Int64) (x42 : Int32) =>
              lett (fun (S45 : St) (x46 : Int32) =>
                lett (pF S45 21 x46) fun S48 =>
                if 0 ≤ (S48.1 21) then
                  lett (pF S48 20 1) fun S49 =>
                  some S49
                else
                  lett (pF S48 20 4) fun S50 =>
                  some S50) fun j44 =>
              if x42 ≤ 5 then
                bd2 (f_X7_wordOf N n S40 x41) fun r52 S51 =>
                j44 S51 r52
              else
                j44 S40 (-1)) fun j39 =>
            if a1 ≤ (S35.1 18) then
              j39 S35 x36 x37
            else
              (rd (S35.2 11) 200 (S35.1 18)).bind fun x54 =>
              bd2 (f_X7_isLetter N n S35 x54) fun r56 S55 =>
              if r56 = 0 then
                j39 S55 x36 x37
              else
                lett (fun (S59 : St) (x60 : Int64) =>
                  lett (pF S59 18 ((S59.1 18) + 1)) fun S62 =>
                  k34 S62 x60 (x37 + 1)) fun j58 =>
                if 8 ≤ x37 then
                  j58 S55 x36
                else
                  (rd (S55.2 11) 200 (S55.1 18)).bind fun x63 =>
                  j58 S55 (((64 * x36) + (Int32.toInt64 x63)) - 64)) N S9 0 0) fun j4 =>
    if a1 ≤ (S2.1 18) then
      j4 S2 
    else
      (rd (S2.2 11) 200 (S2.1 18)).bind fun x65 =>
      if x65 = 32 then
        lett (pF S2 18 ((S2.1 18) + 1)) fun S66 =>
        k1 S66 
      else
        j4 S2 ) N S 
set_option maxRecDepth 20000 in
set_option maxHeartbeats 4000000 in
theorem c_X7_next {l : Launch} {D : va_G} {q : Nat → Nat} {n : Nat} {cI cB cZ : ClassId} {adK adV : Nat → Nat} {N : Nat} {S Sz : St} {a1 : Int32} (hf : f_X7_next N n S a1 = some Sz) : Cn l yX7_next cX7_next 6 none 2 45 D (tyL cI cB cZ) (Fx adK adV) (wM q n cI cB cZ) [.ref (q 0), .int a1] S none Sz := by
  refine c_of (by decide) fl_wM (Nat.le_of_ble_eq_true rfl) [(0, .ref (q 0)), (1, .int a1)] rfl ?_
  intro p e s m args below meth c K hr hlk hs
  have K : Ok p s m args c cX7_next 6 RX7 D (tyL cI cB cZ) (Aw (wM q n cI cB cZ) s.heap.size) (wM q n cI cB cZ) := K
  unfold f_X7_next at hf
  refine g_sub [0, 1] rfl ?_
  refine g_loop0 [(0, .ref (q 0)), (1, .int a1)] hf ?_
  intro k1 S2  hk3 hf
  refine g_aload_n 1 0 K dX7_next_0 rfl rfl rfl ?_
  refine gf_M_0_18 4 K dX7_next_1 rfl ?_
  refine g_iload_n 5 1 K dX7_next_4 rfl rfl rfl ?_
  refine g_join0 35 [(0, .ref (q 0)), (1, .int a1)] [] hf (fun S5  hf => ?_) (fun j4 hj6 hf => ?_)
  · refine g_aload_n 36 0 K dX7_next_35 rfl rfl rfl ?_
    refine g_aload_n 37 0 K dX7_next_36 rfl rfl rfl ?_
    refine gf_M_0_18 40 K dX7_next_37 rfl ?_
    refine pf_M_0_19 43 K hf dX7_next_40 rfl (fun S7 hf => ?_)
    refine g_aload_n 44 0 K dX7_next_43 rfl rfl rfl ?_
    refine gf_M_0_18 47 K dX7_next_44 rfl ?_
    refine g_iload_n 48 1 K dX7_next_47 rfl rfl rfl ?_
    refine g_icmp_ne 57 51 K hf dX7_next_48 (by decide) rfl (fun hf => ?_) (fun hf => ?_)
    · refine g_aload_n 52 0 K dX7_next_51 rfl rfl rfl ?_
      refine g_iconst 53 0 K dX7_next_52 rfl (by decide) ?_
      refine pf_M_0_20 56 K hf dX7_next_53 rfl (fun S64 hf => ?_)
      exact g_vret K hr hlk hf dX7_next_56
    · refine g_aload_n 58 0 K dX7_next_57 rfl rfl rfl ?_
      refine gf_M_0_16 61 K dX7_next_58 rfl ?_
      refine g_aload_n 62 0 K dX7_next_61 rfl rfl rfl ?_
      refine gf_M_0_18 65 K dX7_next_62 rfl ?_
      refine al_M_11 66 K hf dX7_next_65 rfl (fun x8 hf => ?_)
      refine g_istore_n (lv' := [(2, .int x8), (0, .ref (q 0)), (1, .int a1)]) 67 2 K dX7_next_66 rfl rfl (by decide) rfl ?_
      refine g_iload_n 68 0 K dX7_next_67 rfl rfl rfl ?_
      obtain ⟨r10, S9, hc11, hf⟩ := bd2_some hf
      refine g_callSi 71 [] K (Fx_ok adK adV) hs (c_X7_isLetter hc11) km_X7_207 kt_X7_isLetter ki_X7 kC_X7_isLetter mw_X7_isLetter ⟨by decide, by decide, by decide, by decide⟩ rfl rfl (Nat.le_of_ble_eq_true rfl) dX7_next_68 rfl ?_
      refine g_if_eq 187 74 K hf dX7_next_71 (by decide) rfl (fun hf => ?_) (fun hf => ?_)
      · refine g_iload_n 188 0 K dX7_next_187 rfl rfl rfl ?_
        refine g_i2l 189 K dX7_next_188 rfl ?_
        refine g_ldc2 192 48 K dX7_next_189 rfl kc_X7_219 ?_
        refine g_ldc2 195 57 K dX7_next_192 rfl kc_X7_221 ?_
        obtain ⟨r13, S12, hc14, hf⟩ := bd2_some hf
        refine g_callSi 198 [] K (Fx_ok adK adV) hs (c_X7_in hc14) km_X7_84 kt_X7_in ki_X7 kC_X7_in mw_X7_in ⟨by decide, by decide, by decide, by decide⟩ rfl rfl (Nat.le_of_ble_eq_true rfl) dX7_next_195 rfl ?_
        refine g_if_eq 294 201 K hf dX7_next_198 (by decide) rfl (fun hf => ?_) (fun hf => ?_)
        · refine g_aload_n 295 1 K dX7_next_294 rfl rfl rfl ?_
          refine g_dup 296 K dX7_next_295 rfl rfl ?_
          refine gf_M_0_18 299 K dX7_next_296 rfl ?_
          refine g_iconst 300 1 K dX7_next_299 rfl (by decide) ?_
          refine g_iadd 301 K dX7_next_300 rfl ?_
          refine pf_M_0_18 304 K hf dX7_next_301 rfl (fun S15 hf => ?_)
          refine g_aload_n 305 1 K dX7_next_304 rfl rfl rfl ?_
          refine g_iload_n 306 0 K dX7_next_305 rfl rfl rfl ?_
          refine g_bipush 308 59 K dX7_next_306 rfl (by decide) ?_
          refine g_icmp_ne 315 311 K hf dX7_next_308 (by decide) rfl (fun hf => ?_) (fun hf => ?_)
          · refine g_iconst 312 3 K dX7_next_311 rfl (by decide) ?_
            refine g_goto 316 K dX7_next_312 (by decide) ?_
            refine pf_M_0_20 319 K hf dX7_next_316 rfl (fun S17 hf => ?_)
            exact g_vret K hr hlk hf dX7_next_319
          · refine g_iconst 316 4 K dX7_next_315 rfl (by decide) ?_
            refine pf_M_0_20 319 K hf dX7_next_316 rfl (fun S16 hf => ?_)
            exact g_vret K hr hlk hf dX7_next_319
        · refine g_aload_n 202 1 K dX7_next_201 rfl rfl rfl ?_
          refine g_iconst 203 2 K dX7_next_202 rfl (by decide) ?_
          refine pf_M_0_20 206 K hf dX7_next_203 rfl (fun S18 hf => ?_)
          refine g_aload_n 207 1 K dX7_next_206 rfl rfl rfl ?_
          refine g_iconst 208 0 K dX7_next_207 rfl (by decide) ?_
          refine pf_M_0_21 211 K hf dX7_next_208 rfl (fun S19 hf => ?_)
          refine g_sub [1, 2, 0] rfl ?_
          refine g_loop0 [(0, .ref (q 0)), (1, .int a1), (2, .int x8)] hf ?_
          intro k20 S21  hk22 hf
          refine g_aload_n 212 0 K dX7_next_211 rfl rfl rfl ?_
          refine gf_M_0_18 215 K dX7_next_212 rfl ?_
          refine g_iload_n 216 1 K dX7_next_215 rfl rfl rfl ?_
          refine g_icmp_ge 319 219 K hf dX7_next_216 (by decide) rfl (fun hf => ?_) (fun hf => ?_)
          · exact g_vret K hr hlk hf dX7_next_319
          · refine g_aload_n 220 0 K dX7_next_219 rfl rfl rfl ?_
            refine gf_M_0_16 223 K dX7_next_220 rfl ?_
            refine g_aload_n 224 0 K dX7_next_223 rfl rfl rfl ?_
            refine gf_M_0_18 227 K dX7_next_224 rfl ?_
            refine al_M_11 228 K hf dX7_next_227 rfl (fun x23 hf => ?_)
            refine g_i2l 229 K dX7_next_228 rfl ?_
            refine g_ldc2 232 48 K dX7_next_229 rfl kc_X7_219 ?_
            refine g_ldc2 235 57 K dX7_next_232 rfl kc_X7_221 ?_
            obtain ⟨r25, S24, hc26, hf⟩ := bd2_some hf
            refine g_callSi 238 [] K (Fx_ok adK adV) hs (c_X7_in hc26) km_X7_84 kt_X7_in ki_X7 kC_X7_in mw_X7_in ⟨by decide, by decide, by decide, by decide⟩ rfl rfl (Nat.le_of_ble_eq_true rfl) dX7_next_235 rfl ?_
            refine g_if_eq 319 241 K hf dX7_next_238 (by decide) rfl (fun hf => ?_) (fun hf => ?_)
            · exact g_vret K hr hlk hf dX7_next_319
            · refine g_aload_n 242 0 K dX7_next_241 rfl rfl rfl ?_
              refine g_aload_n 243 0 K dX7_next_242 rfl rfl rfl ?_
              refine gf_M_0_21 246 K dX7_next_243 rfl ?_
              refine g_ldc 248 99999 K dX7_next_246 rfl kc_X7_223 ?_
              refine g_join1 278 (fun (x29 : Int32) => [(0, .ref (q 0)), (1, .int a1), (2, .int x8)]) (fun (x29 : Int32) => [.int x29, .ref (q 0)]) hf (fun S28 x29 hf => ?_) (fun j27 hj30 hf => ?_)
              · refine pf_M_0_21 281 K hf dX7_next_278 rfl (fun S31 hf => ?_)
                refine g_aload_n 282 0 K dX7_next_281 rfl rfl rfl ?_
                refine g_dup 283 K dX7_next_282 rfl rfl ?_
                refine gf_M_0_18 286 K dX7_next_283 rfl ?_
                refine g_iconst 287 1 K dX7_next_286 rfl (by decide) ?_
                refine g_iadd 288 K dX7_next_287 rfl ?_
                refine pf_M_0_18 291 K hf dX7_next_288 rfl (fun S32 hf => ?_)
                refine g_goto 211 K dX7_next_291 (by decide) ?_
                exact g_sub [0, 1, 2] rfl (hk22 _ hf)
              · refine g_icmp_le 258 251 K hf dX7_next_248 (by decide) rfl (fun hf => ?_) (fun hf => ?_)
                · refine g_bipush 260 10 K dX7_next_258 rfl (by decide) ?_
                  refine g_aload_n 261 0 K dX7_next_260 rfl rfl rfl ?_
                  refine gf_M_0_21 264 K dX7_next_261 rfl ?_
                  refine g_imul 265 K dX7_next_264 rfl ?_
                  refine g_aload_n 266 0 K dX7_next_265 rfl rfl rfl ?_
                  refine gf_M_0_16 269 K dX7_next_266 rfl ?_
                  refine g_aload_n 270 0 K dX7_next_269 rfl rfl rfl ?_
                  refine gf_M_0_18 273 K dX7_next_270 rfl ?_
                  refine al_M_11 274 K hf dX7_next_273 rfl (fun x33 hf => ?_)
                  refine g_iadd 275 K dX7_next_274 rfl ?_
                  refine g_bipush 277 48 K dX7_next_275 rfl (by decide) ?_
                  refine g_isub 278 K dX7_next_277 rfl ?_
                  exact g_sub [0, 1, 2] rfl (hj30 _ _ hf)
                · refine g_aload_n 252 0 K dX7_next_251 rfl rfl rfl ?_
                  refine gf_M_0_21 255 K dX7_next_252 rfl ?_
                  refine g_goto 278 K dX7_next_255 (by decide) ?_
                  exact g_sub [0, 1, 2] rfl (hj30 _ _ hf)
      · refine g_lconst 75 0 K dX7_next_74 rfl (by decide) ?_
        refine g_lstore_n (lv' := [(3, .long 0), (2, .int x8), (0, .ref (q 0)), (1, .int a1)]) 76 3 K dX7_next_75 rfl rfl (by decide) rfl ?_
        refine g_iconst 77 0 K dX7_next_76 rfl (by decide) ?_
        refine g_istore (lv' := [(5, .int 0), (3, .long 0), (2, .int x8), (0, .ref (q 0)), (1, .int a1)]) 79 5 K dX7_next_77 rfl (by decide) rfl ?_
        refine g_sub [3, 4, 2, 1, 0] rfl ?_
        refine g_loop2 (fun (x36 : Int64) (x37 : Int32) => [(0, .ref (q 0)), (1, .int a1), (2, .int x8), (3, .long x36), (5, .int x37)]) hf ?_
        intro k34 S35 x36 x37 hk38 hf
        refine g_aload_n 80 0 K dX7_next_79 rfl rfl rfl ?_
        refine gf_M_0_18 83 K dX7_next_80 rfl ?_
        refine g_iload_n 84 1 K dX7_next_83 rfl rfl rfl ?_
        refine g_join2 150 (fun (x41 : Int64) (x42 : Int32) => [(0, .ref (q 0)), (1, .int a1), (2, .int x8), (3, .long x41), (5, .int x42)]) (fun (x41 : Int64) (x42 : Int32) => []) hf (fun S40 x41 x42 hf => ?_) (fun j39 hj43 hf => ?_)
        · refine g_aload_n 151 0 K dX7_next_150 rfl rfl rfl ?_
          refine g_iload 153 4 K dX7_next_151 rfl rfl ?_
          refine g_iconst 154 5 K dX7_next_153 rfl (by decide) ?_
          refine g_join1 165 (fun (x46 : Int32) => [(0, .ref (q 0)), (1, .int a1), (2, .int x8), (3, .long x41), (5, .int x42)]) (fun (x46 : Int32) => [.int x46, .ref (q 0)]) hf (fun S45 x46 hf => ?_) (fun j44 hj47 hf => ?_)
          · refine pf_M_0_21 168 K hf dX7_next_165 rfl (fun S48 hf => ?_)
            refine g_aload_n 169 0 K dX7_next_168 rfl rfl rfl ?_
            refine g_aload_n 170 0 K dX7_next_169 rfl rfl rfl ?_
            refine gf_M_0_21 173 K dX7_next_170 rfl ?_
            refine g_if_ge 180 176 K hf dX7_next_173 (by decide) rfl (fun hf => ?_) (fun hf => ?_)
            · refine g_iconst 181 1 K dX7_next_180 rfl (by decide) ?_
              refine pf_M_0_20 184 K hf dX7_next_181 rfl (fun S49 hf => ?_)
              refine g_goto 319 K dX7_next_184 (by decide) ?_
              exact g_vret K hr hlk hf dX7_next_319
            · refine g_iconst 177 4 K dX7_next_176 rfl (by decide) ?_
              refine g_goto 181 K dX7_next_177 (by decide) ?_
              refine pf_M_0_20 184 K hf dX7_next_181 rfl (fun S50 hf => ?_)
              refine g_goto 319 K dX7_next_184 (by decide) ?_
              exact g_vret K hr hlk hf dX7_next_319
          · refine g_icmp_le 161 157 K hf dX7_next_154 (by decide) rfl (fun hf => ?_) (fun hf => ?_)
            · refine g_lload_n 162 3 K dX7_next_161 rfl rfl rfl ?_
              obtain ⟨r52, S51, hc53, hf⟩ := bd2_some hf
              refine g_callSi 165 [.ref (q 0)] K (Fx_ok adK adV) hs (c_X7_wordOf hc53) km_X7_212 kt_X7_wordOf ki_X7 kC_X7_wordOf mw_X7_wordOf ⟨by decide, by decide, by decide, by decide⟩ rfl rfl (Nat.le_of_ble_eq_true rfl) dX7_next_162 rfl ?_
              exact g_sub [0, 1, 2, 3, 4] rfl (hj47 _ _ hf)
            · refine g_iconst 158 (-1) K dX7_next_157 rfl (by decide) ?_
              refine g_goto 165 K dX7_next_158 (by decide) ?_
              exact g_sub [0, 1, 2, 3, 4] rfl (hj47 _ _ hf)
        · refine g_icmp_ge 150 87 K hf dX7_next_84 (by decide) rfl (fun hf => ?_) (fun hf => ?_)
          · exact g_sub [0, 1, 2, 3, 4] rfl (hj43 _ _ _ hf)
          · refine g_aload_n 88 0 K dX7_next_87 rfl rfl rfl ?_
            refine gf_M_0_16 91 K dX7_next_88 rfl ?_
            refine g_aload_n 92 0 K dX7_next_91 rfl rfl rfl ?_
            refine gf_M_0_18 95 K dX7_next_92 rfl ?_
            refine al_M_11 96 K hf dX7_next_95 rfl (fun x54 hf => ?_)
            obtain ⟨r56, S55, hc57, hf⟩ := bd2_some hf
            refine g_callSi 99 [] K (Fx_ok adK adV) hs (c_X7_isLetter hc57) km_X7_207 kt_X7_isLetter ki_X7 kC_X7_isLetter mw_X7_isLetter ⟨by decide, by decide, by decide, by decide⟩ rfl rfl (Nat.le_of_ble_eq_true rfl) dX7_next_96 rfl ?_
            refine g_if_eq 150 102 K hf dX7_next_99 (by decide) rfl (fun hf => ?_) (fun hf => ?_)
            · exact g_sub [0, 1, 2, 3, 4] rfl (hj43 _ _ _ hf)
            · refine g_iload 104 4 K dX7_next_102 rfl rfl ?_
              refine g_bipush 106 8 K dX7_next_104 rfl (by decide) ?_
              refine g_join1 133 (fun (x60 : Int64) => [(0, .ref (q 0)), (1, .int a1), (2, .int x8), (3, .long x36), (5, .int x37)]) (fun (x60 : Int64) => [.long x60]) hf (fun S59 x60 hf => ?_) (fun j58 hj61 hf => ?_)
              · refine g_lstore_n (lv' := [(3, .long x60), (0, .ref (q 0)), (1, .int a1), (2, .int x8), (5, .int x37)]) 134 3 K dX7_next_133 rfl rfl (by decide) rfl ?_
                refine g_iinc (lv' := [(5, .int (x37 + 1)), (3, .long x60), (0, .ref (q 0)), (1, .int a1), (2, .int x8)]) 137 4 1 K dX7_next_134 rfl rfl (by decide) (by decide) rfl ?_
                refine g_aload_n 138 2 K dX7_next_137 rfl rfl rfl ?_
                refine g_dup 139 K dX7_next_138 rfl rfl ?_
                refine gf_M_0_18 142 K dX7_next_139 rfl ?_
                refine g_iconst 143 1 K dX7_next_142 rfl (by decide) ?_
                refine g_iadd 144 K dX7_next_143 rfl ?_
                refine pf_M_0_18 147 K hf dX7_next_144 rfl (fun S62 hf => ?_)
                refine g_goto 79 K dX7_next_147 (by decide) ?_
                exact g_sub [2, 3, 4, 1, 0] rfl (hk38 _ _ _ hf)
              · refine g_icmp_ge 132 109 K hf dX7_next_106 (by decide) rfl (fun hf => ?_) (fun hf => ?_)
                · refine g_lload_n 133 3 K dX7_next_132 rfl rfl rfl ?_
                  exact g_sub [0, 1, 2, 3, 4] rfl (hj61 _ _ hf)
                · refine g_ldc2 112 64 K dX7_next_109 rfl kc_X7_210 ?_
                  refine g_lload_n 113 3 K dX7_next_112 rfl rfl rfl ?_
                  refine g_lmul 114 K dX7_next_113 rfl ?_
                  refine g_aload_n 115 0 K dX7_next_114 rfl rfl rfl ?_
                  refine gf_M_0_16 118 K dX7_next_115 rfl ?_
                  refine g_aload_n 119 0 K dX7_next_118 rfl rfl rfl ?_
                  refine gf_M_0_18 122 K dX7_next_119 rfl ?_
                  refine al_M_11 123 K hf dX7_next_122 rfl (fun x63 hf => ?_)
                  refine g_i2l 124 K dX7_next_123 rfl ?_
                  refine g_ladd 125 K dX7_next_124 rfl ?_
                  refine g_ldc2 128 64 K dX7_next_125 rfl kc_X7_210 ?_
                  refine g_lsub 129 K dX7_next_128 rfl ?_
                  refine g_goto 133 K dX7_next_129 (by decide) ?_
                  exact g_sub [0, 1, 2, 3, 4] rfl (hj61 _ _ hf)
  · refine g_icmp_ge 35 8 K hf dX7_next_5 (by decide) rfl (fun hf => ?_) (fun hf => ?_)
    · exact g_sub [0, 1] rfl (hj6 _ hf)
    · refine g_aload_n 9 0 K dX7_next_8 rfl rfl rfl ?_
      refine gf_M_0_16 12 K dX7_next_9 rfl ?_
      refine g_aload_n 13 0 K dX7_next_12 rfl rfl rfl ?_
      refine gf_M_0_18 16 K dX7_next_13 rfl ?_
      refine al_M_11 17 K hf dX7_next_16 rfl (fun x65 hf => ?_)
      refine g_bipush 19 32 K dX7_next_17 rfl (by decide) ?_
      refine g_icmp_ne 35 22 K hf dX7_next_19 (by decide) rfl (fun hf => ?_) (fun hf => ?_)
      · refine g_aload_n 23 0 K dX7_next_22 rfl rfl rfl ?_
        refine g_dup 24 K dX7_next_23 rfl rfl ?_
        refine gf_M_0_18 27 K dX7_next_24 rfl ?_
        refine g_iconst 28 1 K dX7_next_27 rfl (by decide) ?_
        refine g_iadd 29 K dX7_next_28 rfl ?_
        refine pf_M_0_18 32 K hf dX7_next_29 rfl (fun S66 hf => ?_)
        refine g_goto 0 K dX7_next_32 (by decide) ?_
        exact g_sub [0, 1] rfl (hk3 _ hf)
      · exact g_sub [0, 1] rfl (hj6 _ hf)
def f_X7_fails (N n : Nat) (S : St) (a1 : Int32) : Option St :=
  if (S.1 22) = 0 then
    lett (pF S 22 a1) fun S1 =>
    lett (pF S1 23 (S1.1 19)) fun S2 =>
    some S2
  else
    some S
set_option maxRecDepth 20000 in
set_option maxHeartbeats 4000000 in
theorem c_X7_fails {l : Launch} {D : va_G} {q : Nat → Nat} {n : Nat} {cI cB cZ : ClassId} {adK adV : Nat → Nat} {N : Nat} {S Sz : St} {a1 : Int32} (hf : f_X7_fails N n S a1 = some Sz) : Cn l yX7_fails cX7_fails 2 none 0 0 D (tyL cI cB cZ) (Fx adK adV) (wM q n cI cB cZ) [.ref (q 0), .int a1] S none Sz := by
  refine c_of (by decide) fl_wM (Nat.le_of_ble_eq_true rfl) [(0, .ref (q 0)), (1, .int a1)] rfl ?_
  intro p e s m args below meth c K hr hlk hs
  have K : Ok p s m args c cX7_fails 2 RX7 D (tyL cI cB cZ) (Aw (wM q n cI cB cZ) s.heap.size) (wM q n cI cB cZ) := K
  unfold f_X7_fails at hf
  refine g_aload_n 1 0 K dX7_fails_0 rfl rfl rfl ?_
  refine gf_M_0_22 4 K dX7_fails_1 rfl ?_
  refine g_if_ne 20 7 K hf dX7_fails_4 (by decide) rfl (fun hf => ?_) (fun hf => ?_)
  · refine g_aload_n 8 0 K dX7_fails_7 rfl rfl rfl ?_
    refine g_iload_n 9 1 K dX7_fails_8 rfl rfl rfl ?_
    refine pf_M_0_22 12 K hf dX7_fails_9 rfl (fun S1 hf => ?_)
    refine g_aload_n 13 0 K dX7_fails_12 rfl rfl rfl ?_
    refine g_aload_n 14 0 K dX7_fails_13 rfl rfl rfl ?_
    refine gf_M_0_19 17 K dX7_fails_14 rfl ?_
    refine pf_M_0_23 20 K hf dX7_fails_17 rfl (fun S2 hf => ?_)
    exact g_vret K hr hlk hf dX7_fails_20
  · exact g_vret K hr hlk hf dX7_fails_20
def f_X7_clause (N n : Nat) (S : St) (a1 : Int32) : Option St :=
  if (S.1 20) = 1 then
    (f_X7_next N n S a1).bind fun S1 =>
    if (S1.1 20) = 2 then
      bd2 (f_X7_in N n S1 (Int32.toInt64 (S1.1 21)) 0 5) fun r5 S4 =>
      lett (fun (S8 : St) =>
        if (S8.1 22) ≤ 0 then
          (f_X7_next N n S8 a1).bind fun S10 =>
          lett (fun (S14 : St) =>
            if (S14.1 22) ≤ 0 then
              lett (fun (S17 : St) =>
                (f_X7_next N n S17 a1).bind fun S19 =>
                if (S19.1 20) = 3 then
                  (f_X7_next N n S19 a1).bind fun S22 =>
                  some S22
                else
                  (f_X7_fails N n S19 1).bind fun S25 =>
                  some S25) fun j16 =>
              if (S.1 21) = 0 then
                (wr S14 12 6 (S1.1 21) (S14.1 21)).bind fun S29 =>
                j16 S29 
              else
                (wr S14 13 6 (S1.1 21) (S14.1 21)).bind fun S28 =>
                j16 S28 
            else
              some S14) fun j13 =>
          if (S10.1 20) = 2 then
            bd2 (f_X7_in N n S10 (Int32.toInt64 (S10.1 21)) (Int32.toInt64 (S.1 21)) 999) fun r31 S30 =>
            if r31 = 0 then
              (f_X7_fails N n S30 3).bind fun S33 =>
              j13 S33 
            else
              j13 S30 
          else
            (f_X7_fails N n S10 1).bind fun S36 =>
            j13 S36 
        else
          some S8) fun j7 =>
      lett (fun (S40 : St) =>
        bd2 (f_X7_in N n S40 (Int32.toInt64 (S1.1 21)) 0 5) fun r43 S42 =>
        if r43 = 0 then
          (f_X7_fails N n S42 3).bind fun S45 =>
          j7 S45 
        else
          j7 S42 ) fun j39 =>
      if r5 = 0 then
        j39 S4 
      else
        if (S.1 21) = 0 then
          (rd (S4.2 12) 6 (S1.1 21)).bind fun x52 =>
          if x52 < 0 then
            j39 S4 
          else
            (f_X7_fails N n S4 2).bind fun S53 =>
            j7 S53 
        else
          (rd (S4.2 13) 6 (S1.1 21)).bind fun x48 =>
          if x48 < 0 then
            j39 S4 
          else
            (f_X7_fails N n S4 2).bind fun S49 =>
            j7 S49 
    else
      (f_X7_fails N n S1 1).bind fun S56 =>
      some S56
  else
    (f_X7_fails N n S 1).bind fun S59 =>
    some S59
set_option maxRecDepth 20000 in
set_option maxHeartbeats 4000000 in
theorem c_X7_clause {l : Launch} {D : va_G} {q : Nat → Nat} {n : Nat} {cI cB cZ : ClassId} {adK adV : Nat → Nat} {N : Nat} {S Sz : St} {a1 : Int32} (hf : f_X7_clause N n S a1 = some Sz) : Cn l yX7_clause cX7_clause 4 none 3 70 D (tyL cI cB cZ) (Fx adK adV) (wM q n cI cB cZ) [.ref (q 0), .int a1] S none Sz := by
  refine c_of (by decide) fl_wM (Nat.le_of_ble_eq_true rfl) [(0, .ref (q 0)), (1, .int a1)] rfl ?_
  intro p e s m args below meth c K hr hlk hs
  have K : Ok p s m args c cX7_clause 4 RX7 D (tyL cI cB cZ) (Aw (wM q n cI cB cZ) s.heap.size) (wM q n cI cB cZ) := K
  unfold f_X7_clause at hf
  refine g_aload_n 1 0 K dX7_clause_0 rfl rfl rfl ?_
  refine gf_M_0_20 4 K dX7_clause_1 rfl ?_
  refine g_iconst 5 1 K dX7_clause_4 rfl (by decide) ?_
  refine g_icmp_eq 14 8 K hf dX7_clause_5 (by decide) rfl (fun hf => ?_) (fun hf => ?_)
  · refine g_aload_n 15 0 K dX7_clause_14 rfl rfl rfl ?_
    refine gf_M_0_21 18 K dX7_clause_15 rfl ?_
    refine g_istore_n (lv' := [(2, .int (S.1 21)), (0, .ref (q 0)), (1, .int a1)]) 19 2 K dX7_clause_18 rfl rfl (by decide) rfl ?_
    refine g_aload_n 20 1 K dX7_clause_19 rfl rfl rfl ?_
    refine g_iload_n 21 2 K dX7_clause_20 rfl rfl rfl ?_
    obtain ⟨S1, hc3, hf⟩ := bd_some hf
    refine g_callVv 24 0 [] K (Fx_ok adK adV) hs (c_X7_next hc3) km_X7_233 kI_X7_next kS_X7_next ki_X7 kC_X7_next mw_X7_next ⟨by decide, by decide, by decide, by decide⟩ rfl rfl rfl rfl (Nat.le_of_ble_eq_true rfl) dX7_clause_21 rfl ?_
    refine g_aload_n 25 1 K dX7_clause_24 rfl rfl rfl ?_
    refine gf_M_0_20 28 K dX7_clause_25 rfl ?_
    refine g_iconst 29 2 K dX7_clause_28 rfl (by decide) ?_
    refine g_icmp_eq 38 32 K hf dX7_clause_29 (by decide) rfl (fun hf => ?_) (fun hf => ?_)
    · refine g_aload_n 39 1 K dX7_clause_38 rfl rfl rfl ?_
      refine gf_M_0_21 42 K dX7_clause_39 rfl ?_
      refine g_istore_n (lv' := [(3, .int (S1.1 21)), (2, .int (S.1 21)), (0, .ref (q 0)), (1, .int a1)]) 43 3 K dX7_clause_42 rfl rfl (by decide) rfl ?_
      refine g_iload_n 44 0 K dX7_clause_43 rfl rfl rfl ?_
      refine g_i2l 45 K dX7_clause_44 rfl ?_
      refine g_lconst 46 0 K dX7_clause_45 rfl (by decide) ?_
      refine g_ldc2 49 5 K dX7_clause_46 rfl kc_X7_236 ?_
      obtain ⟨r5, S4, hc6, hf⟩ := bd2_some hf
      refine g_callSi 52 [] K (Fx_ok adK adV) hs (c_X7_in hc6) km_X7_84 kt_X7_in ki_X7 kC_X7_in mw_X7_in ⟨by decide, by decide, by decide, by decide⟩ rfl rfl (Nat.le_of_ble_eq_true rfl) dX7_clause_49 rfl ?_
      refine g_join0 102 [(0, .ref (q 0)), (1, .int a1), (2, .int (S.1 21)), (3, .int (S1.1 21))] [] hf (fun S8  hf => ?_) (fun j7 hj9 hf => ?_)
      · refine g_aload_n 103 0 K dX7_clause_102 rfl rfl rfl ?_
        refine gf_M_0_22 106 K dX7_clause_103 rfl ?_
        refine g_if_le 110 109 K hf dX7_clause_106 (by decide) rfl (fun hf => ?_) (fun hf => ?_)
        · refine g_aload_n 111 0 K dX7_clause_110 rfl rfl rfl ?_
          refine g_iload_n 112 1 K dX7_clause_111 rfl rfl rfl ?_
          obtain ⟨S10, hc12, hf⟩ := bd_some hf
          refine g_callVv 115 0 [] K (Fx_ok adK adV) hs (c_X7_next hc12) km_X7_233 kI_X7_next kS_X7_next ki_X7 kC_X7_next mw_X7_next ⟨by decide, by decide, by decide, by decide⟩ rfl rfl rfl rfl (Nat.le_of_ble_eq_true rfl) dX7_clause_112 rfl ?_
          refine g_aload_n 116 0 K dX7_clause_115 rfl rfl rfl ?_
          refine gf_M_0_20 119 K dX7_clause_116 rfl ?_
          refine g_iconst 120 2 K dX7_clause_119 rfl (by decide) ?_
          refine g_join0 152 [(0, .ref (q 0)), (1, .int a1), (2, .int (S.1 21)), (3, .int (S1.1 21))] [] hf (fun S14  hf => ?_) (fun j13 hj15 hf => ?_)
          · refine g_aload_n 153 0 K dX7_clause_152 rfl rfl rfl ?_
            refine gf_M_0_22 156 K dX7_clause_153 rfl ?_
            refine g_if_le 160 159 K hf dX7_clause_156 (by decide) rfl (fun hf => ?_) (fun hf => ?_)
            · refine g_iload_n 161 2 K dX7_clause_160 rfl rfl rfl ?_
              refine g_join0 187 [(0, .ref (q 0)), (1, .int a1), (2, .int (S.1 21)), (3, .int (S1.1 21))] [] hf (fun S17  hf => ?_) (fun j16 hj18 hf => ?_)
              · refine g_aload_n 188 0 K dX7_clause_187 rfl rfl rfl ?_
                refine g_iload_n 189 1 K dX7_clause_188 rfl rfl rfl ?_
                obtain ⟨S19, hc21, hf⟩ := bd_some hf
                refine g_callVv 192 0 [] K (Fx_ok adK adV) hs (c_X7_next hc21) km_X7_233 kI_X7_next kS_X7_next ki_X7 kC_X7_next mw_X7_next ⟨by decide, by decide, by decide, by decide⟩ rfl rfl rfl rfl (Nat.le_of_ble_eq_true rfl) dX7_clause_189 rfl ?_
                refine g_aload_n 193 0 K dX7_clause_192 rfl rfl rfl ?_
                refine gf_M_0_20 196 K dX7_clause_193 rfl ?_
                refine g_iconst 197 3 K dX7_clause_196 rfl (by decide) ?_
                refine g_icmp_eq 208 200 K hf dX7_clause_197 (by decide) rfl (fun hf => ?_) (fun hf => ?_)
                · refine g_aload_n 209 0 K dX7_clause_208 rfl rfl rfl ?_
                  refine g_iload_n 210 1 K dX7_clause_209 rfl rfl rfl ?_
                  obtain ⟨S22, hc24, hf⟩ := bd_some hf
                  refine g_callVv 213 0 [] K (Fx_ok adK adV) hs (c_X7_next hc24) km_X7_233 kI_X7_next kS_X7_next ki_X7 kC_X7_next mw_X7_next ⟨by decide, by decide, by decide, by decide⟩ rfl rfl rfl rfl (Nat.le_of_ble_eq_true rfl) dX7_clause_210 rfl ?_
                  exact g_vret K hr hlk hf dX7_clause_213
                · refine g_aload_n 201 0 K dX7_clause_200 rfl rfl rfl ?_
                  refine g_iconst 202 1 K dX7_clause_201 rfl (by decide) ?_
                  obtain ⟨S25, hc27, hf⟩ := bd_some hf
                  refine g_callVv 205 0 [] K (Fx_ok adK adV) hs (c_X7_fails hc27) km_X7_230 kI_X7_fails kS_X7_fails ki_X7 kC_X7_fails mw_X7_fails ⟨by decide, by decide, by decide, by decide⟩ rfl rfl rfl rfl (Nat.le_of_ble_eq_true rfl) dX7_clause_202 rfl ?_
                  refine g_goto 213 K dX7_clause_205 (by decide) ?_
                  exact g_vret K hr hlk hf dX7_clause_213
              · refine g_if_ne 177 164 K hf dX7_clause_161 (by decide) rfl (fun hf => ?_) (fun hf => ?_)
                · refine g_aload_n 165 0 K dX7_clause_164 rfl rfl rfl ?_
                  refine gf_M_0_26 168 K dX7_clause_165 rfl ?_
                  refine g_iload_n 169 3 K dX7_clause_168 rfl rfl rfl ?_
                  refine g_aload_n 170 0 K dX7_clause_169 rfl rfl rfl ?_
                  refine gf_M_0_21 173 K dX7_clause_170 rfl ?_
                  refine as_M_12 174 K hf dX7_clause_173 rfl (fun S29 hf => ?_)
                  refine g_goto 187 K dX7_clause_174 (by decide) ?_
                  exact g_sub [0, 1, 2, 3] rfl (hj18 _ hf)
                · refine g_aload_n 178 0 K dX7_clause_177 rfl rfl rfl ?_
                  refine gf_M_0_27 181 K dX7_clause_178 rfl ?_
                  refine g_iload_n 182 3 K dX7_clause_181 rfl rfl rfl ?_
                  refine g_aload_n 183 0 K dX7_clause_182 rfl rfl rfl ?_
                  refine gf_M_0_21 186 K dX7_clause_183 rfl ?_
                  refine as_M_13 187 K hf dX7_clause_186 rfl (fun S28 hf => ?_)
                  exact g_sub [0, 1, 2, 3] rfl (hj18 _ hf)
            · exact g_vret K hr hlk hf dX7_clause_159
          · refine g_icmp_eq 131 123 K hf dX7_clause_120 (by decide) rfl (fun hf => ?_) (fun hf => ?_)
            · refine g_aload_n 132 0 K dX7_clause_131 rfl rfl rfl ?_
              refine gf_M_0_21 135 K dX7_clause_132 rfl ?_
              refine g_i2l 136 K dX7_clause_135 rfl ?_
              refine g_iload_n 137 2 K dX7_clause_136 rfl rfl rfl ?_
              refine g_i2l 138 K dX7_clause_137 rfl ?_
              refine g_ldc2 141 999 K dX7_clause_138 rfl kc_X7_238 ?_
              obtain ⟨r31, S30, hc32, hf⟩ := bd2_some hf
              refine g_callSi 144 [] K (Fx_ok adK adV) hs (c_X7_in hc32) km_X7_84 kt_X7_in ki_X7 kC_X7_in mw_X7_in ⟨by decide, by decide, by decide, by decide⟩ rfl rfl (Nat.le_of_ble_eq_true rfl) dX7_clause_141 rfl ?_
              refine g_if_ne 152 147 K hf dX7_clause_144 (by decide) rfl (fun hf => ?_) (fun hf => ?_)
              · refine g_aload_n 148 0 K dX7_clause_147 rfl rfl rfl ?_
                refine g_iconst 149 3 K dX7_clause_148 rfl (by decide) ?_
                obtain ⟨S33, hc35, hf⟩ := bd_some hf
                refine g_callVv 152 0 [] K (Fx_ok adK adV) hs (c_X7_fails hc35) km_X7_230 kI_X7_fails kS_X7_fails ki_X7 kC_X7_fails mw_X7_fails ⟨by decide, by decide, by decide, by decide⟩ rfl rfl rfl rfl (Nat.le_of_ble_eq_true rfl) dX7_clause_149 rfl ?_
                exact g_sub [0, 1, 2, 3] rfl (hj15 _ hf)
              · exact g_sub [0, 1, 2, 3] rfl (hj15 _ hf)
            · refine g_aload_n 124 0 K dX7_clause_123 rfl rfl rfl ?_
              refine g_iconst 125 1 K dX7_clause_124 rfl (by decide) ?_
              obtain ⟨S36, hc38, hf⟩ := bd_some hf
              refine g_callVv 128 0 [] K (Fx_ok adK adV) hs (c_X7_fails hc38) km_X7_230 kI_X7_fails kS_X7_fails ki_X7 kC_X7_fails mw_X7_fails ⟨by decide, by decide, by decide, by decide⟩ rfl rfl rfl rfl (Nat.le_of_ble_eq_true rfl) dX7_clause_125 rfl ?_
              refine g_goto 152 K dX7_clause_128 (by decide) ?_
              exact g_sub [0, 1, 2, 3] rfl (hj15 _ hf)
        · exact g_vret K hr hlk hf dX7_clause_109
      · refine g_join0 85 [(0, .ref (q 0)), (1, .int a1), (2, .int (S.1 21)), (3, .int (S1.1 21))] [] hf (fun S40  hf => ?_) (fun j39 hj41 hf => ?_)
        · refine g_iload_n 86 3 K dX7_clause_85 rfl rfl rfl ?_
          refine g_i2l 87 K dX7_clause_86 rfl ?_
          refine g_lconst 88 0 K dX7_clause_87 rfl (by decide) ?_
          refine g_ldc2 91 5 K dX7_clause_88 rfl kc_X7_236 ?_
          obtain ⟨r43, S42, hc44, hf⟩ := bd2_some hf
          refine g_callSi 94 [] K (Fx_ok adK adV) hs (c_X7_in hc44) km_X7_84 kt_X7_in ki_X7 kC_X7_in mw_X7_in ⟨by decide, by decide, by decide, by decide⟩ rfl rfl (Nat.le_of_ble_eq_true rfl) dX7_clause_91 rfl ?_
          refine g_if_ne 102 97 K hf dX7_clause_94 (by decide) rfl (fun hf => ?_) (fun hf => ?_)
          · refine g_aload_n 98 0 K dX7_clause_97 rfl rfl rfl ?_
            refine g_iconst 99 3 K dX7_clause_98 rfl (by decide) ?_
            obtain ⟨S45, hc47, hf⟩ := bd_some hf
            refine g_callVv 102 0 [] K (Fx_ok adK adV) hs (c_X7_fails hc47) km_X7_230 kI_X7_fails kS_X7_fails ki_X7 kC_X7_fails mw_X7_fails ⟨by decide, by decide, by decide, by decide⟩ rfl rfl rfl rfl (Nat.le_of_ble_eq_true rfl) dX7_clause_99 rfl ?_
            exact g_sub [0, 1, 2, 3] rfl (hj9 _ hf)
          · exact g_sub [0, 1, 2, 3] rfl (hj9 _ hf)
        · refine g_if_eq 85 55 K hf dX7_clause_52 (by decide) rfl (fun hf => ?_) (fun hf => ?_)
          · exact g_sub [2, 3, 1, 0] rfl (hj41 _ hf)
          · refine g_iload_n 56 1 K dX7_clause_55 rfl rfl rfl ?_
            refine g_if_ne 68 59 K hf dX7_clause_56 (by decide) rfl (fun hf => ?_) (fun hf => ?_)
            · refine g_aload_n 60 2 K dX7_clause_59 rfl rfl rfl ?_
              refine gf_M_0_26 63 K dX7_clause_60 rfl ?_
              refine g_iload_n 64 0 K dX7_clause_63 rfl rfl rfl ?_
              refine al_M_12 65 K hf dX7_clause_64 rfl (fun x52 hf => ?_)
              refine g_goto 74 K dX7_clause_65 (by decide) ?_
              refine g_if_lt 85 77 K hf dX7_clause_74 (by decide) rfl (fun hf => ?_) (fun hf => ?_)
              · exact g_sub [2, 3, 1, 0] rfl (hj41 _ hf)
              · refine g_aload_n 78 2 K dX7_clause_77 rfl rfl rfl ?_
                refine g_iconst 79 2 K dX7_clause_78 rfl (by decide) ?_
                obtain ⟨S53, hc55, hf⟩ := bd_some hf
                refine g_callVv 82 0 [] K (Fx_ok adK adV) hs (c_X7_fails hc55) km_X7_230 kI_X7_fails kS_X7_fails ki_X7 kC_X7_fails mw_X7_fails ⟨by decide, by decide, by decide, by decide⟩ rfl rfl rfl rfl (Nat.le_of_ble_eq_true rfl) dX7_clause_79 rfl ?_
                refine g_goto 102 K dX7_clause_82 (by decide) ?_
                exact g_sub [2, 3, 1, 0] rfl (hj9 _ hf)
            · refine g_aload_n 69 2 K dX7_clause_68 rfl rfl rfl ?_
              refine gf_M_0_27 72 K dX7_clause_69 rfl ?_
              refine g_iload_n 73 0 K dX7_clause_72 rfl rfl rfl ?_
              refine al_M_13 74 K hf dX7_clause_73 rfl (fun x48 hf => ?_)
              refine g_if_lt 85 77 K hf dX7_clause_74 (by decide) rfl (fun hf => ?_) (fun hf => ?_)
              · exact g_sub [2, 3, 1, 0] rfl (hj41 _ hf)
              · refine g_aload_n 78 2 K dX7_clause_77 rfl rfl rfl ?_
                refine g_iconst 79 2 K dX7_clause_78 rfl (by decide) ?_
                obtain ⟨S49, hc51, hf⟩ := bd_some hf
                refine g_callVv 82 0 [] K (Fx_ok adK adV) hs (c_X7_fails hc51) km_X7_230 kI_X7_fails kS_X7_fails ki_X7 kC_X7_fails mw_X7_fails ⟨by decide, by decide, by decide, by decide⟩ rfl rfl rfl rfl (Nat.le_of_ble_eq_true rfl) dX7_clause_79 rfl ?_
                refine g_goto 102 K dX7_clause_82 (by decide) ?_
                exact g_sub [2, 3, 1, 0] rfl (hj9 _ hf)
    · refine g_aload_n 33 1 K dX7_clause_32 rfl rfl rfl ?_
      refine g_iconst 34 1 K dX7_clause_33 rfl (by decide) ?_
      obtain ⟨S56, hc58, hf⟩ := bd_some hf
      refine g_callVv 37 0 [] K (Fx_ok adK adV) hs (c_X7_fails hc58) km_X7_230 kI_X7_fails kS_X7_fails ki_X7 kC_X7_fails mw_X7_fails ⟨by decide, by decide, by decide, by decide⟩ rfl rfl rfl rfl (Nat.le_of_ble_eq_true rfl) dX7_clause_34 rfl ?_
      exact g_vret K hr hlk hf dX7_clause_37
  · refine g_aload_n 9 0 K dX7_clause_8 rfl rfl rfl ?_
    refine g_iconst 10 1 K dX7_clause_9 rfl (by decide) ?_
    obtain ⟨S59, hc61, hf⟩ := bd_some hf
    refine g_callVv 13 0 [] K (Fx_ok adK adV) hs (c_X7_fails hc61) km_X7_230 kI_X7_fails kS_X7_fails ki_X7 kC_X7_fails mw_X7_fails ⟨by decide, by decide, by decide, by decide⟩ rfl rfl rfl rfl (Nat.le_of_ble_eq_true rfl) dX7_clause_10 rfl ?_
    exact g_vret K hr hlk hf dX7_clause_13
def f_X7_tolls (N n : Nat) (S : St)  : Option (Int32 × St) :=
  lett (pF S 17 0) fun S1 =>
  lett (pF S1 18 0) fun S2 =>
  lett (pF S2 22 0) fun S3 =>
  lett (pF S3 23 (-1)) fun S4 =>
  loop1 (fun (k5 : St → Int32 → Option (Int32 × St)) (S6 : St) (x7 : Int32) =>
    if 6 ≤ x7 then
      (f_X7_next N n S6 (S.1 17)).bind fun S9 =>
      loop1 (fun (k12 : St → Int32 → Option (Int32 × St)) (S13 : St) (x14 : Int32) =>
        lett (fun (S17 : St) (x18 : Int32) =>
          lett (pF S17 24 (S17.1 22)) fun S20 =>
          lett (pF S20 25 (S20.1 23)) fun S21 =>
          if (S21.1 22) ≤ 0 then
            loop1 (fun (k22 : St → Int32 → Option (Int32 × St)) (S23 : St) (x24 : Int32) =>
              if 6 ≤ x24 then
                some (x18, S23)
              else
                (rd (S23.2 12) 6 x24).bind fun x26 =>
                (wr S23 14 6 x24 x26).bind fun S27 =>
                (rd (S27.2 13) 6 x24).bind fun x28 =>
                (wr S27 15 6 x24 x28).bind fun S29 =>
                k22 S29 (x24 + 1)) N S21 0
          else
            some ((-1), S21)) fun j16 =>
        if (S13.1 20) = 0 then
          j16 S13 x14
        else
          if (S13.1 22) = 0 then
            (f_X7_clause N n S13 (S.1 17)).bind fun S30 =>
            k12 S30 (x14 + 1)
          else
            j16 S13 x14) N S9 0
    else
      (wr S6 12 6 x7 (-1)).bind fun S33 =>
      (wr S33 13 6 x7 (-1)).bind fun S34 =>
      k5 S34 (x7 + 1)) N S4 0
set_option maxRecDepth 20000 in
set_option maxHeartbeats 4000000 in
theorem c_X7_tolls {l : Launch} {D : va_G} {q : Nat → Nat} {n : Nat} {cI cB cZ : ClassId} {adK adV : Nat → Nat} {N : Nat} {S Sz : St} {rz : Int32}  (hf : f_X7_tolls N n S  = some (rz, Sz)) : Cn l yX7_tolls cX7_tolls 4 (some .int) 4 93 D (tyL cI cB cZ) (Fx adK adV) (wM q n cI cB cZ) [.ref (q 0)] S (some (.int rz)) Sz := by
  refine c_of (by decide) fl_wM (Nat.le_of_ble_eq_true rfl) [(0, .ref (q 0))] rfl ?_
  intro p e s m args below meth c K hr hlk hs
  have K : Ok p s m args c cX7_tolls 4 RX7 D (tyL cI cB cZ) (Aw (wM q n cI cB cZ) s.heap.size) (wM q n cI cB cZ) := K
  unfold f_X7_tolls at hf
  refine g_aload_n 1 0 K dX7_tolls_0 rfl rfl rfl ?_
  refine gf_M_0_17 4 K dX7_tolls_1 rfl ?_
  refine g_istore_n (lv' := [(1, .int (S.1 17)), (0, .ref (q 0))]) 5 1 K dX7_tolls_4 rfl rfl (by decide) rfl ?_
  refine g_aload_n 6 1 K dX7_tolls_5 rfl rfl rfl ?_
  refine g_iconst 7 0 K dX7_tolls_6 rfl (by decide) ?_
  refine pf_M_0_17 10 K hf dX7_tolls_7 rfl (fun S1 hf => ?_)
  refine g_aload_n 11 1 K dX7_tolls_10 rfl rfl rfl ?_
  refine g_iconst 12 0 K dX7_tolls_11 rfl (by decide) ?_
  refine pf_M_0_18 15 K hf dX7_tolls_12 rfl (fun S2 hf => ?_)
  refine g_aload_n 16 1 K dX7_tolls_15 rfl rfl rfl ?_
  refine g_iconst 17 0 K dX7_tolls_16 rfl (by decide) ?_
  refine pf_M_0_22 20 K hf dX7_tolls_17 rfl (fun S3 hf => ?_)
  refine g_aload_n 21 1 K dX7_tolls_20 rfl rfl rfl ?_
  refine g_iconst 22 (-1) K dX7_tolls_21 rfl (by decide) ?_
  refine pf_M_0_23 25 K hf dX7_tolls_22 rfl (fun S4 hf => ?_)
  refine g_iconst 26 0 K dX7_tolls_25 rfl (by decide) ?_
  refine g_istore_n (lv' := [(2, .int 0), (1, .int (S.1 17)), (0, .ref (q 0))]) 27 2 K dX7_tolls_26 rfl rfl (by decide) rfl ?_
  refine g_iconst 28 0 K dX7_tolls_27 rfl (by decide) ?_
  refine g_istore_n (lv' := [(3, .int 0), (2, .int 0), (1, .int (S.1 17)), (0, .ref (q 0))]) 29 3 K dX7_tolls_28 rfl rfl (by decide) rfl ?_
  refine g_sub [3, 2, 1, 0] rfl ?_
  refine g_loop1 (fun (x7 : Int32) => [(0, .ref (q 0)), (1, .int (S.1 17)), (2, .int 0), (3, .int x7)]) hf ?_
  intro k5 S6 x7 hk8 hf
  refine g_iload_n 30 3 K dX7_tolls_29 rfl rfl rfl ?_
  refine g_bipush 32 6 K dX7_tolls_30 rfl (by decide) ?_
  refine g_icmp_ge 55 35 K hf dX7_tolls_32 (by decide) rfl (fun hf => ?_) (fun hf => ?_)
  · refine g_aload_n 56 0 K dX7_tolls_55 rfl rfl rfl ?_
    refine g_iload_n 57 1 K dX7_tolls_56 rfl rfl rfl ?_
    obtain ⟨S9, hc11, hf⟩ := bd_some hf
    refine g_callVv 60 0 [] K (Fx_ok adK adV) hs (c_X7_next hc11) km_X7_233 kI_X7_next kS_X7_next ki_X7 kC_X7_next mw_X7_next ⟨by decide, by decide, by decide, by decide⟩ rfl rfl rfl rfl (Nat.le_of_ble_eq_true rfl) dX7_tolls_57 rfl ?_
    refine g_sub [0, 1, 2, 3] rfl ?_
    refine g_loop1 (fun (x14 : Int32) => [(0, .ref (q 0)), (1, .int (S.1 17)), (2, .int x14), (3, .int x7)]) hf ?_
    intro k12 S13 x14 hk15 hf
    refine g_aload_n 61 0 K dX7_tolls_60 rfl rfl rfl ?_
    refine gf_M_0_20 64 K dX7_tolls_61 rfl ?_
    refine g_join1 85 (fun (x18 : Int32) => [(0, .ref (q 0)), (1, .int (S.1 17)), (2, .int x18), (3, .int x7)]) (fun (x18 : Int32) => []) hf (fun S17 x18 hf => ?_) (fun j16 hj19 hf => ?_)
    · refine g_aload_n 86 0 K dX7_tolls_85 rfl rfl rfl ?_
      refine g_aload_n 87 0 K dX7_tolls_86 rfl rfl rfl ?_
      refine gf_M_0_22 90 K dX7_tolls_87 rfl ?_
      refine pf_M_0_24 93 K hf dX7_tolls_90 rfl (fun S20 hf => ?_)
      refine g_aload_n 94 0 K dX7_tolls_93 rfl rfl rfl ?_
      refine g_aload_n 95 0 K dX7_tolls_94 rfl rfl rfl ?_
      refine gf_M_0_23 98 K dX7_tolls_95 rfl ?_
      refine pf_M_0_25 101 K hf dX7_tolls_98 rfl (fun S21 hf => ?_)
      refine g_aload_n 102 0 K dX7_tolls_101 rfl rfl rfl ?_
      refine gf_M_0_22 105 K dX7_tolls_102 rfl ?_
      refine g_if_le 110 108 K hf dX7_tolls_105 (by decide) rfl (fun hf => ?_) (fun hf => ?_)
      · refine g_iconst 111 0 K dX7_tolls_110 rfl (by decide) ?_
        refine g_istore_n (lv' := [(3, .int 0), (0, .ref (q 0)), (1, .int (S.1 17)), (2, .int x18)]) 112 3 K dX7_tolls_111 rfl rfl (by decide) rfl ?_
        refine g_sub [1, 2, 3, 0] rfl ?_
        refine g_loop1 (fun (x24 : Int32) => [(0, .ref (q 0)), (1, .int (S.1 17)), (2, .int x18), (3, .int x24)]) hf ?_
        intro k22 S23 x24 hk25 hf
        refine g_iload_n 113 3 K dX7_tolls_112 rfl rfl rfl ?_
        refine g_bipush 115 6 K dX7_tolls_113 rfl (by decide) ?_
        refine g_icmp_ge 148 118 K hf dX7_tolls_115 (by decide) rfl (fun hf => ?_) (fun hf => ?_)
        · refine g_iload_n 149 2 K dX7_tolls_148 rfl rfl rfl ?_
          exact g_iret K hr hlk hf dX7_tolls_149
        · refine g_aload_n 119 0 K dX7_tolls_118 rfl rfl rfl ?_
          refine gf_M_0_28 122 K dX7_tolls_119 rfl ?_
          refine g_iload_n 123 3 K dX7_tolls_122 rfl rfl rfl ?_
          refine g_aload_n 124 0 K dX7_tolls_123 rfl rfl rfl ?_
          refine gf_M_0_26 127 K dX7_tolls_124 rfl ?_
          refine g_iload_n 128 3 K dX7_tolls_127 rfl rfl rfl ?_
          refine al_M_12 129 K hf dX7_tolls_128 rfl (fun x26 hf => ?_)
          refine as_M_14 130 K hf dX7_tolls_129 rfl (fun S27 hf => ?_)
          refine g_aload_n 131 0 K dX7_tolls_130 rfl rfl rfl ?_
          refine gf_M_0_29 134 K dX7_tolls_131 rfl ?_
          refine g_iload_n 135 3 K dX7_tolls_134 rfl rfl rfl ?_
          refine g_aload_n 136 0 K dX7_tolls_135 rfl rfl rfl ?_
          refine gf_M_0_27 139 K dX7_tolls_136 rfl ?_
          refine g_iload_n 140 3 K dX7_tolls_139 rfl rfl rfl ?_
          refine al_M_13 141 K hf dX7_tolls_140 rfl (fun x28 hf => ?_)
          refine as_M_15 142 K hf dX7_tolls_141 rfl (fun S29 hf => ?_)
          refine g_iinc (lv' := [(3, .int (x24 + 1)), (0, .ref (q 0)), (1, .int (S.1 17)), (2, .int x18)]) 145 3 1 K dX7_tolls_142 rfl rfl (by decide) (by decide) rfl ?_
          refine g_goto 112 K dX7_tolls_145 (by decide) ?_
          exact g_sub [1, 2, 3, 0] rfl (hk25 _ _ hf)
      · refine g_iconst 109 (-1) K dX7_tolls_108 rfl (by decide) ?_
        exact g_iret K hr hlk hf dX7_tolls_109
    · refine g_if_eq 85 67 K hf dX7_tolls_64 (by decide) rfl (fun hf => ?_) (fun hf => ?_)
      · exact g_sub [0, 1, 2, 3] rfl (hj19 _ _ hf)
      · refine g_aload_n 68 0 K dX7_tolls_67 rfl rfl rfl ?_
        refine gf_M_0_22 71 K dX7_tolls_68 rfl ?_
        refine g_if_ne 85 74 K hf dX7_tolls_71 (by decide) rfl (fun hf => ?_) (fun hf => ?_)
        · refine g_aload_n 75 0 K dX7_tolls_74 rfl rfl rfl ?_
          refine g_iload_n 76 1 K dX7_tolls_75 rfl rfl rfl ?_
          obtain ⟨S30, hc32, hf⟩ := bd_some hf
          refine g_callVv 79 0 [] K (Fx_ok adK adV) hs (c_X7_clause hc32) km_X7_240 kI_X7_clause kS_X7_clause ki_X7 kC_X7_clause mw_X7_clause ⟨by decide, by decide, by decide, by decide⟩ rfl rfl rfl rfl (Nat.le_of_ble_eq_true rfl) dX7_tolls_76 rfl ?_
          refine g_iinc (lv' := [(2, .int (x14 + 1)), (0, .ref (q 0)), (1, .int (S.1 17)), (3, .int x7)]) 82 2 1 K dX7_tolls_79 rfl rfl (by decide) (by decide) rfl ?_
          refine g_goto 60 K dX7_tolls_82 (by decide) ?_
          exact g_sub [1, 2, 0, 3] rfl (hk15 _ _ hf)
        · exact g_sub [0, 1, 2, 3] rfl (hj19 _ _ hf)
  · refine g_aload_n 36 0 K dX7_tolls_35 rfl rfl rfl ?_
    refine gf_M_0_26 39 K dX7_tolls_36 rfl ?_
    refine g_iload_n 40 3 K dX7_tolls_39 rfl rfl rfl ?_
    refine g_iconst 41 (-1) K dX7_tolls_40 rfl (by decide) ?_
    refine as_M_12 42 K hf dX7_tolls_41 rfl (fun S33 hf => ?_)
    refine g_aload_n 43 0 K dX7_tolls_42 rfl rfl rfl ?_
    refine gf_M_0_27 46 K dX7_tolls_43 rfl ?_
    refine g_iload_n 47 3 K dX7_tolls_46 rfl rfl rfl ?_
    refine g_iconst 48 (-1) K dX7_tolls_47 rfl (by decide) ?_
    refine as_M_13 49 K hf dX7_tolls_48 rfl (fun S34 hf => ?_)
    refine g_iinc (lv' := [(3, .int (x7 + 1)), (0, .ref (q 0)), (1, .int (S.1 17)), (2, .int 0)]) 52 3 1 K dX7_tolls_49 rfl rfl (by decide) (by decide) rfl ?_
    refine g_goto 29 K dX7_tolls_52 (by decide) ?_
    exact g_sub [1, 2, 3, 0] rfl (hk8 _ _ hf)
def f_X7_fault (N n : Nat) (S : St) (a1 : Int32) : Option (Int32 × St) :=
  if a1 = 0 then
    some (S.1 24, S)
  else
    if a1 = 1 then
      some (S.1 25, S)
    else
      some ((-1), S)
set_option maxRecDepth 20000 in
set_option maxHeartbeats 4000000 in
theorem c_X7_fault {l : Launch} {D : va_G} {q : Nat → Nat} {n : Nat} {cI cB cZ : ClassId} {adK adV : Nat → Nat} {N : Nat} {S Sz : St} {rz : Int32} {a1 : Int32} (hf : f_X7_fault N n S a1 = some (rz, Sz)) : Cn l yX7_fault cX7_fault 2 (some .int) 0 0 D (tyL cI cB cZ) (Fx adK adV) (wM q n cI cB cZ) [.ref (q 0), .int a1] S (some (.int rz)) Sz := by
  refine c_of (by decide) fl_wM (Nat.le_of_ble_eq_true rfl) [(0, .ref (q 0)), (1, .int a1)] rfl ?_
  intro p e s m args below meth c K hr hlk hs
  have K : Ok p s m args c cX7_fault 2 RX7 D (tyL cI cB cZ) (Aw (wM q n cI cB cZ) s.heap.size) (wM q n cI cB cZ) := K
  unfold f_X7_fault at hf
  refine g_iload_n 1 1 K dX7_fault_0 rfl rfl rfl ?_
  refine g_if_ne 11 4 K hf dX7_fault_1 (by decide) rfl (fun hf => ?_) (fun hf => ?_)
  · refine g_aload_n 5 0 K dX7_fault_4 rfl rfl rfl ?_
    refine gf_M_0_24 8 K dX7_fault_5 rfl ?_
    refine g_goto 24 K dX7_fault_8 (by decide) ?_
    exact g_iret K hr hlk hf dX7_fault_24
  · refine g_iload_n 12 1 K dX7_fault_11 rfl rfl rfl ?_
    refine g_iconst 13 1 K dX7_fault_12 rfl (by decide) ?_
    refine g_icmp_ne 23 16 K hf dX7_fault_13 (by decide) rfl (fun hf => ?_) (fun hf => ?_)
    · refine g_aload_n 17 0 K dX7_fault_16 rfl rfl rfl ?_
      refine gf_M_0_25 20 K dX7_fault_17 rfl ?_
      refine g_goto 24 K dX7_fault_20 (by decide) ?_
      exact g_iret K hr hlk hf dX7_fault_24
    · refine g_iconst 24 (-1) K dX7_fault_23 rfl (by decide) ?_
      exact g_iret K hr hlk hf dX7_fault_24
def f_X7_pass (N n : Nat) (S : St) (a1 : Int32) (a2 : Int32) (a3 : Int32) : Option (Int32 × St) :=
  bd2 (f_X7_in N n S (Int32.toInt64 a1) 0 5) fun r2 S1 =>
  if r2 = 0 then
    some ((-1), S1)
  else
    bd2 (f_X7_in N n S1 (Int32.toInt64 a2) 0 19) fun r5 S4 =>
    if r5 = 0 then
      some ((-1), S4)
    else
      bd2 (f_X7_in N n S4 (Int32.toInt64 a3) (Int32.toInt64 (S4.1 30)) 9999) fun r8 S7 =>
      if r8 = 0 then
        some ((-1), S7)
      else
        lett (pF S7 30 a3) fun S10 =>
        (rd (S10.2 16) 120 ((6 * a2) + a1)).bind fun x11 =>
        lett (fun (S13 : St) =>
          (rd (S13.2 14) 6 a1).bind fun x15 =>
          lett (fun (S17 : St) (x18 : Int32) =>
            lett (fun (S21 : St) (x22 : Int32) =>
              (wr S21 16 120 ((6 * a2) + a1) x22).bind fun S24 =>
              lett (pF S24 31 ((S24.1 31) + x18)) fun S25 =>
              some (x18, S25)) fun j20 =>
            if x18 ≤ 0 then
              (rd (S17.2 16) 120 ((6 * a2) + a1)).bind fun x26 =>
              j20 S17 x26
            else
              j20 S17 a3) fun j16 =>
          if 0 ≤ x15 then
            (rd (S13.2 14) 6 a1).bind fun x27 =>
            j16 S13 x27
          else
            j16 S13 0) fun j12 =>
        if x11 < 0 then
          j12 S10 
        else
          (rd (S10.2 15) 6 a1).bind fun x28 =>
          if x28 ≤ 0 then
            j12 S10 
          else
            (rd (S10.2 16) 120 ((6 * a2) + a1)).bind fun x29 =>
            (rd (S10.2 15) 6 a1).bind fun x30 =>
            if x30 < (a3 - x29) then
              j12 S10 
            else
              (wr S10 16 120 ((6 * a2) + a1) (-1)).bind fun S31 =>
              lett (pF S31 32 ((S31.1 32) + 1)) fun S32 =>
              some (0, S32)
set_option maxRecDepth 20000 in
set_option maxHeartbeats 4000000 in
theorem c_X7_pass {l : Launch} {D : va_G} {q : Nat → Nat} {n : Nat} {cI cB cZ : ClassId} {adK adV : Nat → Nat} {N : Nat} {S Sz : St} {rz : Int32} {a1 : Int32} {a2 : Int32} {a3 : Int32} (hf : f_X7_pass N n S a1 a2 a3 = some (rz, Sz)) : Cn l yX7_pass cX7_pass 6 (some .int) 1 25 D (tyL cI cB cZ) (Fx adK adV) (wM q n cI cB cZ) [.ref (q 0), .int a1, .int a2, .int a3] S (some (.int rz)) Sz := by
  refine c_of (by decide) fl_wM (Nat.le_of_ble_eq_true rfl) [(0, .ref (q 0)), (1, .int a1), (2, .int a2), (3, .int a3)] rfl ?_
  intro p e s m args below meth c K hr hlk hs
  have K : Ok p s m args c cX7_pass 6 RX7 D (tyL cI cB cZ) (Aw (wM q n cI cB cZ) s.heap.size) (wM q n cI cB cZ) := K
  unfold f_X7_pass at hf
  refine g_iload_n 1 1 K dX7_pass_0 rfl rfl rfl ?_
  refine g_i2l 2 K dX7_pass_1 rfl ?_
  refine g_lconst 3 0 K dX7_pass_2 rfl (by decide) ?_
  refine g_ldc2 6 5 K dX7_pass_3 rfl kc_X7_236 ?_
  obtain ⟨r2, S1, hc3, hf⟩ := bd2_some hf
  refine g_callSi 9 [] K (Fx_ok adK adV) hs (c_X7_in hc3) km_X7_84 kt_X7_in ki_X7 kC_X7_in mw_X7_in ⟨by decide, by decide, by decide, by decide⟩ rfl rfl (Nat.le_of_ble_eq_true rfl) dX7_pass_6 rfl ?_
  refine g_if_eq 40 12 K hf dX7_pass_9 (by decide) rfl (fun hf => ?_) (fun hf => ?_)
  · refine g_iconst 41 (-1) K dX7_pass_40 rfl (by decide) ?_
    exact g_iret K hr hlk hf dX7_pass_41
  · refine g_iload_n 13 2 K dX7_pass_12 rfl rfl rfl ?_
    refine g_i2l 14 K dX7_pass_13 rfl ?_
    refine g_lconst 15 0 K dX7_pass_14 rfl (by decide) ?_
    refine g_ldc2 18 19 K dX7_pass_15 rfl kc_X7_243 ?_
    obtain ⟨r5, S4, hc6, hf⟩ := bd2_some hf
    refine g_callSi 21 [] K (Fx_ok adK adV) hs (c_X7_in hc6) km_X7_84 kt_X7_in ki_X7 kC_X7_in mw_X7_in ⟨by decide, by decide, by decide, by decide⟩ rfl rfl (Nat.le_of_ble_eq_true rfl) dX7_pass_18 rfl ?_
    refine g_if_eq 40 24 K hf dX7_pass_21 (by decide) rfl (fun hf => ?_) (fun hf => ?_)
    · refine g_iconst 41 (-1) K dX7_pass_40 rfl (by decide) ?_
      exact g_iret K hr hlk hf dX7_pass_41
    · refine g_iload_n 25 3 K dX7_pass_24 rfl rfl rfl ?_
      refine g_i2l 26 K dX7_pass_25 rfl ?_
      refine g_aload_n 27 0 K dX7_pass_26 rfl rfl rfl ?_
      refine gf_M_0_30 30 K dX7_pass_27 rfl ?_
      refine g_i2l 31 K dX7_pass_30 rfl ?_
      refine g_ldc2 34 9999 K dX7_pass_31 rfl kc_X7_248 ?_
      obtain ⟨r8, S7, hc9, hf⟩ := bd2_some hf
      refine g_callSi 37 [] K (Fx_ok adK adV) hs (c_X7_in hc9) km_X7_84 kt_X7_in ki_X7 kC_X7_in mw_X7_in ⟨by decide, by decide, by decide, by decide⟩ rfl rfl (Nat.le_of_ble_eq_true rfl) dX7_pass_34 rfl ?_
      refine g_if_ne 42 40 K hf dX7_pass_37 (by decide) rfl (fun hf => ?_) (fun hf => ?_)
      · refine g_iconst 41 (-1) K dX7_pass_40 rfl (by decide) ?_
        exact g_iret K hr hlk hf dX7_pass_41
      · refine g_aload_n 43 0 K dX7_pass_42 rfl rfl rfl ?_
        refine g_iload_n 44 3 K dX7_pass_43 rfl rfl rfl ?_
        refine pf_M_0_30 47 K hf dX7_pass_44 rfl (fun S10 hf => ?_)
        refine g_bipush 49 6 K dX7_pass_47 rfl (by decide) ?_
        refine g_iload_n 50 2 K dX7_pass_49 rfl rfl rfl ?_
        refine g_imul 51 K dX7_pass_50 rfl ?_
        refine g_iload_n 52 1 K dX7_pass_51 rfl rfl rfl ?_
        refine g_iadd 53 K dX7_pass_52 rfl ?_
        refine g_istore (lv' := [(4, .int ((6 * a2) + a1)), (0, .ref (q 0)), (1, .int a1), (2, .int a2), (3, .int a3)]) 55 4 K dX7_pass_53 rfl (by decide) rfl ?_
        refine g_aload_n 56 1 K dX7_pass_55 rfl rfl rfl ?_
        refine gf_M_0_33 59 K dX7_pass_56 rfl ?_
        refine g_iload 61 0 K dX7_pass_59 rfl rfl ?_
        refine al_M_16 62 K hf dX7_pass_61 rfl (fun x11 hf => ?_)
        refine g_join0 112 [(0, .ref (q 0)), (1, .int a1), (2, .int a2), (3, .int a3), (4, .int ((6 * a2) + a1))] [] hf (fun S13  hf => ?_) (fun j12 hj14 hf => ?_)
        · refine g_aload_n 113 0 K dX7_pass_112 rfl rfl rfl ?_
          refine gf_M_0_28 116 K dX7_pass_113 rfl ?_
          refine g_iload_n 117 1 K dX7_pass_116 rfl rfl rfl ?_
          refine al_M_14 118 K hf dX7_pass_117 rfl (fun x15 hf => ?_)
          refine g_join1 131 (fun (x18 : Int32) => [(0, .ref (q 0)), (1, .int a1), (2, .int a2), (3, .int a3), (4, .int ((6 * a2) + a1))]) (fun (x18 : Int32) => [.int x18]) hf (fun S17 x18 hf => ?_) (fun j16 hj19 hf => ?_)
          · refine g_istore (lv' := [(5, .int x18), (0, .ref (q 0)), (1, .int a1), (2, .int a2), (3, .int a3), (4, .int ((6 * a2) + a1))]) 133 5 K dX7_pass_131 rfl (by decide) rfl ?_
            refine g_aload_n 134 1 K dX7_pass_133 rfl rfl rfl ?_
            refine gf_M_0_33 137 K dX7_pass_134 rfl ?_
            refine g_iload 139 5 K dX7_pass_137 rfl rfl ?_
            refine g_iload 141 0 K dX7_pass_139 rfl rfl ?_
            refine g_join1 155 (fun (x22 : Int32) => [(0, .ref (q 0)), (1, .int a1), (2, .int a2), (3, .int a3), (4, .int ((6 * a2) + a1)), (5, .int x18)]) (fun (x22 : Int32) => [.int x22, .int ((6 * a2) + a1), .ref (q 16)]) hf (fun S21 x22 hf => ?_) (fun j20 hj23 hf => ?_)
            · refine as_M_16 156 K hf dX7_pass_155 rfl (fun S24 hf => ?_)
              refine g_aload_n 157 0 K dX7_pass_156 rfl rfl rfl ?_
              refine g_dup 158 K dX7_pass_157 rfl rfl ?_
              refine gf_M_0_31 161 K dX7_pass_158 rfl ?_
              refine g_iload 163 5 K dX7_pass_161 rfl rfl ?_
              refine g_iadd 164 K dX7_pass_163 rfl ?_
              refine pf_M_0_31 167 K hf dX7_pass_164 rfl (fun S25 hf => ?_)
              refine g_iload 169 5 K dX7_pass_167 rfl rfl ?_
              exact g_iret K hr hlk hf dX7_pass_169
            · refine g_if_le 148 144 K hf dX7_pass_141 (by decide) rfl (fun hf => ?_) (fun hf => ?_)
              · refine g_aload_n 149 1 K dX7_pass_148 rfl rfl rfl ?_
                refine gf_M_0_33 152 K dX7_pass_149 rfl ?_
                refine g_iload 154 5 K dX7_pass_152 rfl rfl ?_
                refine al_M_16 155 K hf dX7_pass_154 rfl (fun x26 hf => ?_)
                exact g_sub [1, 2, 3, 4, 5, 0] rfl (hj23 _ _ hf)
              · refine g_iload_n 145 4 K dX7_pass_144 rfl rfl rfl ?_
                refine g_goto 155 K dX7_pass_145 (by decide) ?_
                exact g_sub [1, 2, 3, 4, 5, 0] rfl (hj23 _ _ hf)
          · refine g_if_ge 125 121 K hf dX7_pass_118 (by decide) rfl (fun hf => ?_) (fun hf => ?_)
            · refine g_aload_n 126 0 K dX7_pass_125 rfl rfl rfl ?_
              refine gf_M_0_28 129 K dX7_pass_126 rfl ?_
              refine g_iload_n 130 1 K dX7_pass_129 rfl rfl rfl ?_
              refine al_M_14 131 K hf dX7_pass_130 rfl (fun x27 hf => ?_)
              exact g_sub [0, 1, 2, 3, 4] rfl (hj19 _ _ hf)
            · refine g_iconst 122 0 K dX7_pass_121 rfl (by decide) ?_
              refine g_goto 131 K dX7_pass_122 (by decide) ?_
              exact g_sub [0, 1, 2, 3, 4] rfl (hj19 _ _ hf)
        · refine g_if_lt 112 65 K hf dX7_pass_62 (by decide) rfl (fun hf => ?_) (fun hf => ?_)
          · exact g_sub [1, 2, 3, 4, 0] rfl (hj14 _ hf)
          · refine g_aload_n 66 1 K dX7_pass_65 rfl rfl rfl ?_
            refine gf_M_0_29 69 K dX7_pass_66 rfl ?_
            refine g_iload_n 70 2 K dX7_pass_69 rfl rfl rfl ?_
            refine al_M_15 71 K hf dX7_pass_70 rfl (fun x28 hf => ?_)
            refine g_if_le 112 74 K hf dX7_pass_71 (by decide) rfl (fun hf => ?_) (fun hf => ?_)
            · exact g_sub [1, 2, 3, 4, 0] rfl (hj14 _ hf)
            · refine g_iload_n 75 4 K dX7_pass_74 rfl rfl rfl ?_
              refine g_aload_n 76 1 K dX7_pass_75 rfl rfl rfl ?_
              refine gf_M_0_33 79 K dX7_pass_76 rfl ?_
              refine g_iload 81 0 K dX7_pass_79 rfl rfl ?_
              refine al_M_16 82 K hf dX7_pass_81 rfl (fun x29 hf => ?_)
              refine g_isub 83 K dX7_pass_82 rfl ?_
              refine g_aload_n 84 1 K dX7_pass_83 rfl rfl rfl ?_
              refine gf_M_0_29 87 K dX7_pass_84 rfl ?_
              refine g_iload_n 88 2 K dX7_pass_87 rfl rfl rfl ?_
              refine al_M_15 89 K hf dX7_pass_88 rfl (fun x30 hf => ?_)
              refine g_icmp_gt 112 92 K hf dX7_pass_89 (by decide) rfl (fun hf => ?_) (fun hf => ?_)
              · exact g_sub [1, 2, 3, 4, 0] rfl (hj14 _ hf)
              · refine g_aload_n 93 1 K dX7_pass_92 rfl rfl rfl ?_
                refine gf_M_0_33 96 K dX7_pass_93 rfl ?_
                refine g_iload 98 0 K dX7_pass_96 rfl rfl ?_
                refine g_iconst 99 (-1) K dX7_pass_98 rfl (by decide) ?_
                refine as_M_16 100 K hf dX7_pass_99 rfl (fun S31 hf => ?_)
                refine g_aload_n 101 1 K dX7_pass_100 rfl rfl rfl ?_
                refine g_dup 102 K dX7_pass_101 rfl rfl ?_
                refine gf_M_0_32 105 K dX7_pass_102 rfl ?_
                refine g_iconst 106 1 K dX7_pass_105 rfl (by decide) ?_
                refine g_iadd 107 K dX7_pass_106 rfl ?_
                refine pf_M_0_32 110 K hf dX7_pass_107 rfl (fun S32 hf => ?_)
                refine g_iconst 111 0 K dX7_pass_110 rfl (by decide) ?_
                exact g_iret K hr hlk hf dX7_pass_111
def f_X7_about (N n : Nat) (S : St) (a1 : Int32) : Option (Int32 × St) :=
  bd2 (f_X7_in N n S (Int32.toInt64 a1) 20 25) fun r2 S1 =>
  if r2 = 0 then
    bd2 (f_X7_in N n S1 (Int32.toInt64 a1) 30 35) fun r5 S4 =>
    if r5 = 0 then
      if a1 = 0 then
        some (S4.1 0, S4)
      else
      if a1 = 1 then
        some (S4.1 4, S4)
      else
      if a1 = 2 then
        some (S4.1 7, S4)
      else
      if a1 = 3 then
        some (S4.1 9, S4)
      else
      if a1 = 4 then
        some (S4.1 31, S4)
      else
      if a1 = 5 then
        some (S4.1 32, S4)
      else
      if a1 = 6 then
        some (S4.1 17, S4)
      else
      some ((-1), S4)
    else
      (rd (S4.2 15) 6 (a1 - 30)).bind fun x7 =>
      if 0 ≤ x7 then
        (rd (S4.2 15) 6 (a1 - 30)).bind fun x8 =>
        some (x8, S4)
      else
        some (0, S4)
  else
    (rd (S1.2 14) 6 (a1 - 20)).bind fun x9 =>
    if 0 ≤ x9 then
      (rd (S1.2 14) 6 (a1 - 20)).bind fun x10 =>
      some (x10, S1)
    else
      some (0, S1)
set_option maxRecDepth 20000 in
set_option maxHeartbeats 4000000 in
theorem c_X7_about {l : Launch} {D : va_G} {q : Nat → Nat} {n : Nat} {cI cB cZ : ClassId} {adK adV : Nat → Nat} {N : Nat} {S Sz : St} {rz : Int32} {a1 : Int32} (hf : f_X7_about N n S a1 = some (rz, Sz)) : Cn l yX7_about cX7_about 2 (some .int) 1 25 D (tyL cI cB cZ) (Fx adK adV) (wM q n cI cB cZ) [.ref (q 0), .int a1] S (some (.int rz)) Sz := by
  refine c_of (by decide) fl_wM (Nat.le_of_ble_eq_true rfl) [(0, .ref (q 0)), (1, .int a1)] rfl ?_
  intro p e s m args below meth c K hr hlk hs
  have K : Ok p s m args c cX7_about 2 RX7 D (tyL cI cB cZ) (Aw (wM q n cI cB cZ) s.heap.size) (wM q n cI cB cZ) := K
  unfold f_X7_about at hf
  refine g_iload_n 1 1 K dX7_about_0 rfl rfl rfl ?_
  refine g_i2l 2 K dX7_about_1 rfl ?_
  refine g_ldc2 5 20 K dX7_about_2 rfl kc_X7_137 ?_
  refine g_ldc2 8 25 K dX7_about_5 rfl kc_X7_256 ?_
  obtain ⟨r2, S1, hc3, hf⟩ := bd2_some hf
  refine g_callSi 11 [] K (Fx_ok adK adV) hs (c_X7_in hc3) km_X7_84 kt_X7_in ki_X7 kC_X7_in mw_X7_in ⟨by decide, by decide, by decide, by decide⟩ rfl rfl (Nat.le_of_ble_eq_true rfl) dX7_about_8 rfl ?_
  refine g_if_eq 40 14 K hf dX7_about_11 (by decide) rfl (fun hf => ?_) (fun hf => ?_)
  · refine g_iload_n 41 1 K dX7_about_40 rfl rfl rfl ?_
    refine g_i2l 42 K dX7_about_41 rfl ?_
    refine g_ldc2 45 30 K dX7_about_42 rfl kc_X7_258 ?_
    refine g_ldc2 48 35 K dX7_about_45 rfl kc_X7_260 ?_
    obtain ⟨r5, S4, hc6, hf⟩ := bd2_some hf
    refine g_callSi 51 [] K (Fx_ok adK adV) hs (c_X7_in hc6) km_X7_84 kt_X7_in ki_X7 kC_X7_in mw_X7_in ⟨by decide, by decide, by decide, by decide⟩ rfl rfl (Nat.le_of_ble_eq_true rfl) dX7_about_48 rfl ?_
    refine g_if_eq 80 54 K hf dX7_about_51 (by decide) rfl (fun hf => ?_) (fun hf => ?_)
    · refine g_iload_n 81 1 K dX7_about_80 rfl rfl rfl ?_
      refine g_ite hf (fun hsw0 hf => ?_) (fun hsw0 hf => ?_)
      · refine g_tabIn 124 0 K hsw0 dX7_about_81 (by decide) (by decide) rfl (by decide) ?_
        refine g_aload_n 125 0 K dX7_about_124 rfl rfl rfl ?_
        refine gf_M_0_0 128 K dX7_about_125 rfl ?_
        exact g_iret K hr hlk hf dX7_about_128
      refine g_ite hf (fun hsw1 hf => ?_) (fun hsw1 hf => ?_)
      · refine g_tabIn 129 1 K hsw1 dX7_about_81 (by decide) (by decide) rfl (by decide) ?_
        refine g_aload_n 130 0 K dX7_about_129 rfl rfl rfl ?_
        refine gf_M_0_4 133 K dX7_about_130 rfl ?_
        exact g_iret K hr hlk hf dX7_about_133
      refine g_ite hf (fun hsw2 hf => ?_) (fun hsw2 hf => ?_)
      · refine g_tabIn 134 2 K hsw2 dX7_about_81 (by decide) (by decide) rfl (by decide) ?_
        refine g_aload_n 135 0 K dX7_about_134 rfl rfl rfl ?_
        refine gf_M_0_7 138 K dX7_about_135 rfl ?_
        exact g_iret K hr hlk hf dX7_about_138
      refine g_ite hf (fun hsw3 hf => ?_) (fun hsw3 hf => ?_)
      · refine g_tabIn 139 3 K hsw3 dX7_about_81 (by decide) (by decide) rfl (by decide) ?_
        refine g_aload_n 140 0 K dX7_about_139 rfl rfl rfl ?_
        refine gf_M_0_9 143 K dX7_about_140 rfl ?_
        exact g_iret K hr hlk hf dX7_about_143
      refine g_ite hf (fun hsw4 hf => ?_) (fun hsw4 hf => ?_)
      · refine g_tabIn 144 4 K hsw4 dX7_about_81 (by decide) (by decide) rfl (by decide) ?_
        refine g_aload_n 145 0 K dX7_about_144 rfl rfl rfl ?_
        refine gf_M_0_31 148 K dX7_about_145 rfl ?_
        exact g_iret K hr hlk hf dX7_about_148
      refine g_ite hf (fun hsw5 hf => ?_) (fun hsw5 hf => ?_)
      · refine g_tabIn 149 5 K hsw5 dX7_about_81 (by decide) (by decide) rfl (by decide) ?_
        refine g_aload_n 150 0 K dX7_about_149 rfl rfl rfl ?_
        refine gf_M_0_32 153 K dX7_about_150 rfl ?_
        exact g_iret K hr hlk hf dX7_about_153
      refine g_ite hf (fun hsw6 hf => ?_) (fun hsw6 hf => ?_)
      · refine g_tabIn 154 6 K hsw6 dX7_about_81 (by decide) (by decide) rfl (by decide) ?_
        refine g_aload_n 155 0 K dX7_about_154 rfl rfl rfl ?_
        refine gf_M_0_17 158 K dX7_about_155 rfl ?_
        exact g_iret K hr hlk hf dX7_about_158
      refine g_tabOut 159 K (sw_out6 hsw0 hsw1 hsw2 hsw3 hsw4 hsw5 hsw6) dX7_about_81 (by decide) ?_
      refine g_iconst 160 (-1) K dX7_about_159 rfl (by decide) ?_
      exact g_iret K hr hlk hf dX7_about_160
    · refine g_aload_n 55 0 K dX7_about_54 rfl rfl rfl ?_
      refine gf_M_0_29 58 K dX7_about_55 rfl ?_
      refine g_iload_n 59 1 K dX7_about_58 rfl rfl rfl ?_
      refine g_bipush 61 30 K dX7_about_59 rfl (by decide) ?_
      refine g_isub 62 K dX7_about_61 rfl ?_
      refine al_M_15 63 K hf dX7_about_62 rfl (fun x7 hf => ?_)
      refine g_if_ge 70 66 K hf dX7_about_63 (by decide) rfl (fun hf => ?_) (fun hf => ?_)
      · refine g_aload_n 71 0 K dX7_about_70 rfl rfl rfl ?_
        refine gf_M_0_29 74 K dX7_about_71 rfl ?_
        refine g_iload_n 75 1 K dX7_about_74 rfl rfl rfl ?_
        refine g_bipush 77 30 K dX7_about_75 rfl (by decide) ?_
        refine g_isub 78 K dX7_about_77 rfl ?_
        refine al_M_15 79 K hf dX7_about_78 rfl (fun x8 hf => ?_)
        exact g_iret K hr hlk hf dX7_about_79
      · refine g_iconst 67 0 K dX7_about_66 rfl (by decide) ?_
        refine g_goto 79 K dX7_about_67 (by decide) ?_
        exact g_iret K hr hlk hf dX7_about_79
  · refine g_aload_n 15 0 K dX7_about_14 rfl rfl rfl ?_
    refine gf_M_0_28 18 K dX7_about_15 rfl ?_
    refine g_iload_n 19 1 K dX7_about_18 rfl rfl rfl ?_
    refine g_bipush 21 20 K dX7_about_19 rfl (by decide) ?_
    refine g_isub 22 K dX7_about_21 rfl ?_
    refine al_M_14 23 K hf dX7_about_22 rfl (fun x9 hf => ?_)
    refine g_if_ge 30 26 K hf dX7_about_23 (by decide) rfl (fun hf => ?_) (fun hf => ?_)
    · refine g_aload_n 31 0 K dX7_about_30 rfl rfl rfl ?_
      refine gf_M_0_28 34 K dX7_about_31 rfl ?_
      refine g_iload_n 35 1 K dX7_about_34 rfl rfl rfl ?_
      refine g_bipush 37 20 K dX7_about_35 rfl (by decide) ?_
      refine g_isub 38 K dX7_about_37 rfl ?_
      refine al_M_14 39 K hf dX7_about_38 rfl (fun x10 hf => ?_)
      exact g_iret K hr hlk hf dX7_about_39
    · refine g_iconst 27 0 K dX7_about_26 rfl (by decide) ?_
      refine g_goto 39 K dX7_about_27 (by decide) ?_
      exact g_iret K hr hlk hf dX7_about_39