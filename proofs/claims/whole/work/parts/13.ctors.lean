def flA (N : Nat) (v : Int32) : Nat → Int32 := fun j => if j < N then v else 0
set_option maxRecDepth 20000 in
set_option maxHeartbeats 4000000 in
theorem ci_X0 {l : Launch} {D : va_G} {cI cB cZ : ClassId} {adK adV : Nat → Nat} {h : Nat} {a1 : Int32} {n : Nat} (hn : a1 = nI n ∧ 1 ≤ n ∧ n ≤ 12) : Ci l yX0_init cX0_init 2 1 23 7 64 D (tyL cI cB cZ) (Fx adK adV) [.ref h, .int a1] [(h, .inr (0, [.int 0, .null, .null, .null, .null, .null, .null, .null, .int 0, .int 0, .int 0, .int 0]))] (fun ws => ∃ b5 b6 b7 b1 b2 b3 b4 : Nat, ws = [(h, .inr (0, [.int a1, .ref b5, .ref b6, .ref b7, .ref b1, .ref b2, .ref b3, .ref b4, .int 0, .int 0, .int 0, .int 0])), (b5, .inl (cI, n, .inl (flA n 100))), (b6, .inl (cI, n, .inl (flA n 100))), (b7, .inl (cI, n, .inl (fun _ => 0))), (b1, .inl (cI, 10, .inl (fun _ => 0))), (b2, .inl (cI, 6, .inl (fun _ => 0))), (b3, .inl (cI, 6, .inl (fun _ => 0))), (b4, .inl (cI, 6, .inl (fun _ => 0)))]) := by
  refine ci_of (by decide) rfl (Nat.le_of_ble_eq_true rfl) [(0, .ref h), (1, .int a1)] rfl ?_
  intro p e s m args below meth c K hr hlk hin hs
  have K : Ok p s m args c cX0_init 2 RX0 D (tyL cI cB cZ) (Aw (cw [(h, .inr (0, [.int 0, .null, .null, .null, .null, .null, .null, .null, .int 0, .int 0, .int 0, .int 0]))]) s.heap.size) (cw [(h, .inr (0, [.int 0, .null, .null, .null, .null, .null, .null, .null, .int 0, .int 0, .int 0, .int 0]))]) := K
  have hcl : a1.toNatClampNeg = n := by rw [hn.1]; exact nI_clamp (by have := hn.2.2; omega)
  have hpos : ¬ a1 < 0 := by rw [hn.1]; exact nI_pos (by have := hn.2.2; omega)
  refine g_aload_n 1 0 K dX0_init_0 rfl rfl rfl ?_
  refine g_objInit 4 K km_X0_3 ⟨by decide, Nat.le_of_ble_eq_true rfl⟩ dX0_init_1 rfl ?_
  refine g_aload_n 5 0 K dX0_init_4 rfl rfl rfl ?_
  refine g_bipush 7 10 K dX0_init_5 rfl (by decide) ?_
  refine g_newan (fun b1 => [(h, .inr (0, [.int 0, .null, .null, .null, .null, .null, .null, .null, .int 0, .int 0, .int 0, .int 0])), (b1, .inl (cI, 10, .inl (fun _ => 0)))]) 9 10 1 10 0 K rfl rfl (fun _ h => h) rfl ka_int (by decide) rfl (by decide) ⟨by decide, by decide, by decide, by decide⟩ dX0_init_7 rfl (fun _ => rfl) (fun b1 hD => ?_)
  have K := Ok_w K hD
  refine g_putFc (ty := .array .int) (ws' := [(h, .inr (0, [.int 0, .null, .null, .null, .ref b1, .null, .null, .null, .int 0, .int 0, .int 0, .int 0])), (b1, .inl (cI, 10, .inl (fun _ => 0)))]) 12 0 4 K hin hin_X0 rfl (by decide) rfl kf_X0_9 tyX0 tyX0_ok nmX0 rfl rfl rfl (by decide +kernel) rfl rfl (Nat.le_of_ble_eq_true rfl) rfl dX0_init_9 rfl (fun hD => ?_)
  have K := Ok_w K hD
  refine g_aload_n 13 0 K dX0_init_12 rfl rfl rfl ?_
  refine g_bipush 15 6 K dX0_init_13 rfl (by decide) ?_
  refine g_newan (fun b2 => [(h, .inr (0, [.int 0, .null, .null, .null, .ref b1, .null, .null, .null, .int 0, .int 0, .int 0, .int 0])), (b1, .inl (cI, 10, .inl (fun _ => 0))), (b2, .inl (cI, 6, .inl (fun _ => 0)))]) 17 6 2 16 0 K rfl rfl (fun _ h => h) rfl ka_int (by decide) rfl (by decide) ⟨by decide, by decide, by decide, by decide⟩ dX0_init_15 rfl (fun _ => rfl) (fun b2 hD => ?_)
  have K := Ok_w K hD
  refine g_putFc (ty := .array .int) (ws' := [(h, .inr (0, [.int 0, .null, .null, .null, .ref b1, .ref b2, .null, .null, .int 0, .int 0, .int 0, .int 0])), (b1, .inl (cI, 10, .inl (fun _ => 0))), (b2, .inl (cI, 6, .inl (fun _ => 0)))]) 20 0 5 K hin hin_X0 rfl (by decide) rfl kf_X0_15 tyX0 tyX0_ok nmX0 rfl rfl rfl (by decide +kernel) rfl rfl (Nat.le_of_ble_eq_true rfl) rfl dX0_init_17 rfl (fun hD => ?_)
  have K := Ok_w K hD
  refine g_aload_n 21 0 K dX0_init_20 rfl rfl rfl ?_
  refine g_bipush 23 6 K dX0_init_21 rfl (by decide) ?_
  refine g_newan (fun b3 => [(h, .inr (0, [.int 0, .null, .null, .null, .ref b1, .ref b2, .null, .null, .int 0, .int 0, .int 0, .int 0])), (b1, .inl (cI, 10, .inl (fun _ => 0))), (b2, .inl (cI, 6, .inl (fun _ => 0))), (b3, .inl (cI, 6, .inl (fun _ => 0)))]) 25 6 3 22 0 K rfl rfl (fun _ h => h) rfl ka_int (by decide) rfl (by decide) ⟨by decide, by decide, by decide, by decide⟩ dX0_init_23 rfl (fun _ => rfl) (fun b3 hD => ?_)
  have K := Ok_w K hD
  refine g_putFc (ty := .array .int) (ws' := [(h, .inr (0, [.int 0, .null, .null, .null, .ref b1, .ref b2, .ref b3, .null, .int 0, .int 0, .int 0, .int 0])), (b1, .inl (cI, 10, .inl (fun _ => 0))), (b2, .inl (cI, 6, .inl (fun _ => 0))), (b3, .inl (cI, 6, .inl (fun _ => 0)))]) 28 0 6 K hin hin_X0 rfl (by decide) rfl kf_X0_18 tyX0 tyX0_ok nmX0 rfl rfl rfl (by decide +kernel) rfl rfl (Nat.le_of_ble_eq_true rfl) rfl dX0_init_25 rfl (fun hD => ?_)
  have K := Ok_w K hD
  refine g_aload_n 29 0 K dX0_init_28 rfl rfl rfl ?_
  refine g_bipush 31 6 K dX0_init_29 rfl (by decide) ?_
  refine g_newan (fun b4 => [(h, .inr (0, [.int 0, .null, .null, .null, .ref b1, .ref b2, .ref b3, .null, .int 0, .int 0, .int 0, .int 0])), (b1, .inl (cI, 10, .inl (fun _ => 0))), (b2, .inl (cI, 6, .inl (fun _ => 0))), (b3, .inl (cI, 6, .inl (fun _ => 0))), (b4, .inl (cI, 6, .inl (fun _ => 0)))]) 33 6 4 28 0 K rfl rfl (fun _ h => h) rfl ka_int (by decide) rfl (by decide) ⟨by decide, by decide, by decide, by decide⟩ dX0_init_31 rfl (fun _ => rfl) (fun b4 hD => ?_)
  have K := Ok_w K hD
  refine g_putFc (ty := .array .int) (ws' := [(h, .inr (0, [.int 0, .null, .null, .null, .ref b1, .ref b2, .ref b3, .ref b4, .int 0, .int 0, .int 0, .int 0])), (b1, .inl (cI, 10, .inl (fun _ => 0))), (b2, .inl (cI, 6, .inl (fun _ => 0))), (b3, .inl (cI, 6, .inl (fun _ => 0))), (b4, .inl (cI, 6, .inl (fun _ => 0)))]) 36 0 7 K hin hin_X0 rfl (by decide) rfl kf_X0_21 tyX0 tyX0_ok nmX0 rfl rfl rfl (by decide +kernel) rfl rfl (Nat.le_of_ble_eq_true rfl) rfl dX0_init_33 rfl (fun hD => ?_)
  have K := Ok_w K hD
  refine g_aload_n 37 0 K dX0_init_36 rfl rfl rfl ?_
  refine g_iload_n 38 1 K dX0_init_37 rfl rfl rfl ?_
  refine g_putFc (ty := .int) (ws' := [(h, .inr (0, [.int a1, .null, .null, .null, .ref b1, .ref b2, .ref b3, .ref b4, .int 0, .int 0, .int 0, .int 0])), (b1, .inl (cI, 10, .inl (fun _ => 0))), (b2, .inl (cI, 6, .inl (fun _ => 0))), (b3, .inl (cI, 6, .inl (fun _ => 0))), (b4, .inl (cI, 6, .inl (fun _ => 0)))]) 41 0 0 K hin hin_X0 rfl (by decide) rfl kf_X0_24 tyX0 tyX0_ok nmX0 rfl rfl rfl (by decide +kernel) rfl rfl (Nat.le_of_ble_eq_true rfl) rfl dX0_init_38 rfl (fun hD => ?_)
  have K := Ok_w K hD
  refine g_aload_n 42 0 K dX0_init_41 rfl rfl rfl ?_
  refine g_iload_n 43 1 K dX0_init_42 rfl rfl rfl ?_
  refine g_newan (fun b5 => [(h, .inr (0, [.int a1, .null, .null, .null, .ref b1, .ref b2, .ref b3, .ref b4, .int 0, .int 0, .int 0, .int 0])), (b1, .inl (cI, 10, .inl (fun _ => 0))), (b2, .inl (cI, 6, .inl (fun _ => 0))), (b3, .inl (cI, 6, .inl (fun _ => 0))), (b4, .inl (cI, 6, .inl (fun _ => 0))), (b5, .inl (cI, n, .inl (fun _ => 0)))]) 45 n 5 40 0 K rfl rfl (fun _ h => h) rfl ka_int hpos hcl (Nat.le_trans (Nat.mul_le_mul_right _ hn.2.2) (by decide)) ⟨by decide, by have := hn.2.2; omega, by decide, by decide⟩ dX0_init_43 rfl (fun _ => rfl) (fun b5 hD => ?_)
  have K := Ok_w K hD
  refine g_putFc (ty := .array .int) (ws' := [(h, .inr (0, [.int a1, .ref b5, .null, .null, .ref b1, .ref b2, .ref b3, .ref b4, .int 0, .int 0, .int 0, .int 0])), (b1, .inl (cI, 10, .inl (fun _ => 0))), (b2, .inl (cI, 6, .inl (fun _ => 0))), (b3, .inl (cI, 6, .inl (fun _ => 0))), (b4, .inl (cI, 6, .inl (fun _ => 0))), (b5, .inl (cI, n, .inl (fun _ => 0)))]) 48 0 1 K hin hin_X0 rfl (by decide) rfl kf_X0_28 tyX0 tyX0_ok nmX0 rfl rfl rfl (by decide +kernel) rfl rfl (Nat.le_of_ble_eq_true rfl) rfl dX0_init_45 rfl (fun hD => ?_)
  have K := Ok_w K hD
  refine g_aload_n 49 0 K dX0_init_48 rfl rfl rfl ?_
  refine g_iload_n 50 1 K dX0_init_49 rfl rfl rfl ?_
  refine g_newan (fun b6 => [(h, .inr (0, [.int a1, .ref b5, .null, .null, .ref b1, .ref b2, .ref b3, .ref b4, .int 0, .int 0, .int 0, .int 0])), (b1, .inl (cI, 10, .inl (fun _ => 0))), (b2, .inl (cI, 6, .inl (fun _ => 0))), (b3, .inl (cI, 6, .inl (fun _ => 0))), (b4, .inl (cI, 6, .inl (fun _ => 0))), (b5, .inl (cI, n, .inl (fun _ => 0))), (b6, .inl (cI, n, .inl (fun _ => 0)))]) 52 n 6 52 0 K rfl rfl (fun _ h => h) rfl ka_int hpos hcl (Nat.le_trans (Nat.mul_le_mul_right _ hn.2.2) (by decide)) ⟨by decide, by have := hn.2.2; omega, by decide, by decide⟩ dX0_init_50 rfl (fun _ => rfl) (fun b6 hD => ?_)
  have K := Ok_w K hD
  refine g_putFc (ty := .array .int) (ws' := [(h, .inr (0, [.int a1, .ref b5, .ref b6, .null, .ref b1, .ref b2, .ref b3, .ref b4, .int 0, .int 0, .int 0, .int 0])), (b1, .inl (cI, 10, .inl (fun _ => 0))), (b2, .inl (cI, 6, .inl (fun _ => 0))), (b3, .inl (cI, 6, .inl (fun _ => 0))), (b4, .inl (cI, 6, .inl (fun _ => 0))), (b5, .inl (cI, n, .inl (fun _ => 0))), (b6, .inl (cI, n, .inl (fun _ => 0)))]) 55 0 2 K hin hin_X0 rfl (by decide) rfl kf_X0_31 tyX0 tyX0_ok nmX0 rfl rfl rfl (by decide +kernel) rfl rfl (Nat.le_of_ble_eq_true rfl) rfl dX0_init_52 rfl (fun hD => ?_)
  have K := Ok_w K hD
  refine g_aload_n 56 0 K dX0_init_55 rfl rfl rfl ?_
  refine g_iload_n 57 1 K dX0_init_56 rfl rfl rfl ?_
  refine g_newan (fun b7 => [(h, .inr (0, [.int a1, .ref b5, .ref b6, .null, .ref b1, .ref b2, .ref b3, .ref b4, .int 0, .int 0, .int 0, .int 0])), (b1, .inl (cI, 10, .inl (fun _ => 0))), (b2, .inl (cI, 6, .inl (fun _ => 0))), (b3, .inl (cI, 6, .inl (fun _ => 0))), (b4, .inl (cI, 6, .inl (fun _ => 0))), (b5, .inl (cI, n, .inl (fun _ => 0))), (b6, .inl (cI, n, .inl (fun _ => 0))), (b7, .inl (cI, n, .inl (fun _ => 0)))]) 59 n 7 64 0 K rfl rfl (fun _ h => h) rfl ka_int hpos hcl (Nat.le_trans (Nat.mul_le_mul_right _ hn.2.2) (by decide)) ⟨by decide, by have := hn.2.2; omega, by decide, by decide⟩ dX0_init_57 rfl (fun _ => rfl) (fun b7 hD => ?_)
  have K := Ok_w K hD
  refine g_putFc (ty := .array .int) (ws' := [(h, .inr (0, [.int a1, .ref b5, .ref b6, .ref b7, .ref b1, .ref b2, .ref b3, .ref b4, .int 0, .int 0, .int 0, .int 0])), (b1, .inl (cI, 10, .inl (fun _ => 0))), (b2, .inl (cI, 6, .inl (fun _ => 0))), (b3, .inl (cI, 6, .inl (fun _ => 0))), (b4, .inl (cI, 6, .inl (fun _ => 0))), (b5, .inl (cI, n, .inl (fun _ => 0))), (b6, .inl (cI, n, .inl (fun _ => 0))), (b7, .inl (cI, n, .inl (fun _ => 0)))]) 62 0 3 K hin hin_X0 rfl (by decide) rfl kf_X0_34 tyX0 tyX0_ok nmX0 rfl rfl rfl (by decide +kernel) rfl rfl (Nat.le_of_ble_eq_true rfl) rfl dX0_init_59 rfl (fun hD => ?_)
  have K := Ok_w K hD
  refine g_aload_n 63 0 K dX0_init_62 rfl rfl rfl ?_
  refine g_get 66 0 1 K hin_X0 rfl (by decide) rfl kf_X0_28 rfl rfl dX0_init_63 rfl ?_
  refine g_bipush 68 100 K dX0_init_66 rfl (by decide) ?_
  refine g_fillc (ws' := [(h, .inr (0, [.int a1, .ref b5, .ref b6, .ref b7, .ref b1, .ref b2, .ref b3, .ref b4, .int 0, .int 0, .int 0, .int 0])), (b1, .inl (cI, 10, .inl (fun _ => 0))), (b2, .inl (cI, 6, .inl (fun _ => 0))), (b3, .inl (cI, 6, .inl (fun _ => 0))), (b4, .inl (cI, 6, .inl (fun _ => 0))), (b5, .inl (cI, n, .inl (flA n 100))), (b6, .inl (cI, n, .inl (fun _ => 0))), (b7, .inl (cI, n, .inl (fun _ => 0)))]) 71 5 [] K hs (by have := hn.2.2; omega) rfl rfl km_X0_37 ⟨by decide, by decide, by decide, by decide⟩ (Nat.le_of_ble_eq_true rfl) dX0_init_68 rfl (fun hD => ?_)
  have K := Ok_w K hD
  refine g_aload_n 72 0 K dX0_init_71 rfl rfl rfl ?_
  refine g_get 75 0 2 K hin_X0 rfl (by decide) rfl kf_X0_31 rfl rfl dX0_init_72 rfl ?_
  refine g_bipush 77 100 K dX0_init_75 rfl (by decide) ?_
  refine g_fillc (ws' := [(h, .inr (0, [.int a1, .ref b5, .ref b6, .ref b7, .ref b1, .ref b2, .ref b3, .ref b4, .int 0, .int 0, .int 0, .int 0])), (b1, .inl (cI, 10, .inl (fun _ => 0))), (b2, .inl (cI, 6, .inl (fun _ => 0))), (b3, .inl (cI, 6, .inl (fun _ => 0))), (b4, .inl (cI, 6, .inl (fun _ => 0))), (b5, .inl (cI, n, .inl (flA n 100))), (b6, .inl (cI, n, .inl (flA n 100))), (b7, .inl (cI, n, .inl (fun _ => 0)))]) 80 6 [] K hs (by have := hn.2.2; omega) rfl rfl km_X0_37 ⟨by decide, by decide, by decide, by decide⟩ (Nat.le_of_ble_eq_true rfl) dX0_init_77 rfl (fun hD => ?_)
  have K := Ok_w K hD
  refine g_order (ws' := [(h, .inr (0, [.int a1, .ref b5, .ref b6, .ref b7, .ref b1, .ref b2, .ref b3, .ref b4, .int 0, .int 0, .int 0, .int 0])), (b5, .inl (cI, n, .inl (flA n 100))), (b6, .inl (cI, n, .inl (flA n 100))), (b7, .inl (cI, n, .inl (fun _ => 0))), (b1, .inl (cI, 10, .inl (fun _ => 0))), (b2, .inl (cI, 6, .inl (fun _ => 0))), (b3, .inl (cI, 6, .inl (fun _ => 0))), (b4, .inl (cI, 6, .inl (fun _ => 0)))]) [0, 5, 6, 7, 1, 2, 3, 4] rfl ?_
  have K := Ok_w (ws' := [(h, .inr (0, [.int a1, .ref b5, .ref b6, .ref b7, .ref b1, .ref b2, .ref b3, .ref b4, .int 0, .int 0, .int 0, .int 0])), (b5, .inl (cI, n, .inl (flA n 100))), (b6, .inl (cI, n, .inl (flA n 100))), (b7, .inl (cI, n, .inl (fun _ => 0))), (b1, .inl (cI, 10, .inl (fun _ => 0))), (b2, .inl (cI, 6, .inl (fun _ => 0))), (b3, .inl (cI, 6, .inl (fun _ => 0))), (b4, .inl (cI, 6, .inl (fun _ => 0)))]) K ((K.2.2.2.2.2.2.1 S0).sub [0, 5, 6, 7, 1, 2, 3, 4] (by decide) rfl)
  exact g_vretI K hr hlk ⟨by decide, by decide⟩ ⟨b5, b6, b7, b1, b2, b3, b4, rfl⟩ dX0_init_80
set_option maxRecDepth 20000 in
set_option maxHeartbeats 4000000 in
theorem ci_X1 {l : Launch} {D : va_G} {cI cB cZ : ClassId} {adK adV : Nat → Nat} {h : Nat}  : Ci l yX1_init cX1_init 1 1 12 10 6853 D (tyL cI cB cZ) (Fx adK adV) [.ref h] [(h, .inr (1, [.null, .null, .null, .null, .null, .null, .null, .null, .null, .null, .int 0, .int 0, .int 0, .int 0, .int 0, .int 0, .int 0, .int 0, .int 0]))] (fun ws => ∃ b1 b2 b3 b4 b5 b6 b7 b8 b9 b10 : Nat, ws = [(h, .inr (1, [.ref b1, .ref b2, .ref b3, .ref b4, .ref b5, .ref b6, .ref b7, .ref b8, .ref b9, .ref b10, .int 0, .int 0, .int 3, .int 2, .int 3, .int 2, .int 0, .int 0, .int 0])), (b1, .inl (cI, 10, .inl (fun _ => 0))), (b2, .inl (cI, 11, .inl (fun _ => 0))), (b3, .inl (cI, 300, .inl (fun _ => 0))), (b4, .inl (cI, 241, .inl (fun _ => 0))), (b5, .inl (cI, 241, .inl (fun _ => 0))), (b6, .inl (cI, 3010, .inl (fun _ => 0))), (b7, .inl (cI, 3010, .inl (fun _ => 0))), (b8, .inl (cI, 10, .inl (fun _ => 0))), (b9, .inl (cI, 10, .inl (fun _ => 0))), (b10, .inl (cI, 10, .inl (fun _ => 0)))]) := by
  refine ci_of (by decide) rfl (Nat.le_of_ble_eq_true rfl) [(0, .ref h)] rfl ?_
  intro p e s m args below meth c K hr hlk hin hs
  have K : Ok p s m args c cX1_init 1 RX1 D (tyL cI cB cZ) (Aw (cw [(h, .inr (1, [.null, .null, .null, .null, .null, .null, .null, .null, .null, .null, .int 0, .int 0, .int 0, .int 0, .int 0, .int 0, .int 0, .int 0, .int 0]))]) s.heap.size) (cw [(h, .inr (1, [.null, .null, .null, .null, .null, .null, .null, .null, .null, .null, .int 0, .int 0, .int 0, .int 0, .int 0, .int 0, .int 0, .int 0, .int 0]))]) := K
  refine g_aload_n 1 0 K dX1_init_0 rfl rfl rfl ?_
  refine g_objInit 4 K km_X1_3 ⟨by decide, Nat.le_of_ble_eq_true rfl⟩ dX1_init_1 rfl ?_
  refine g_aload_n 5 0 K dX1_init_4 rfl rfl rfl ?_
  refine g_bipush 7 10 K dX1_init_5 rfl (by decide) ?_
  refine g_newan (fun b1 => [(h, .inr (1, [.null, .null, .null, .null, .null, .null, .null, .null, .null, .null, .int 0, .int 0, .int 0, .int 0, .int 0, .int 0, .int 0, .int 0, .int 0])), (b1, .inl (cI, 10, .inl (fun _ => 0)))]) 9 10 1 10 0 K rfl rfl (fun _ h => h) rfl ka_int (by decide) rfl (by decide) ⟨by decide, by decide, by decide, by decide⟩ dX1_init_7 rfl (fun _ => rfl) (fun b1 hD => ?_)
  have K := Ok_w K hD
  refine g_putFc (ty := .array .int) (ws' := [(h, .inr (1, [.ref b1, .null, .null, .null, .null, .null, .null, .null, .null, .null, .int 0, .int 0, .int 0, .int 0, .int 0, .int 0, .int 0, .int 0, .int 0])), (b1, .inl (cI, 10, .inl (fun _ => 0)))]) 12 0 0 K hin hin_X1 rfl (by decide) rfl kf_X1_9 tyX1 tyX1_ok nmX1 rfl rfl rfl (by decide +kernel) rfl rfl (Nat.le_of_ble_eq_true rfl) rfl dX1_init_9 rfl (fun hD => ?_)
  have K := Ok_w K hD
  refine g_aload_n 13 0 K dX1_init_12 rfl rfl rfl ?_
  refine g_bipush 15 11 K dX1_init_13 rfl (by decide) ?_
  refine g_newan (fun b2 => [(h, .inr (1, [.ref b1, .null, .null, .null, .null, .null, .null, .null, .null, .null, .int 0, .int 0, .int 0, .int 0, .int 0, .int 0, .int 0, .int 0, .int 0])), (b1, .inl (cI, 10, .inl (fun _ => 0))), (b2, .inl (cI, 11, .inl (fun _ => 0)))]) 17 11 2 21 0 K rfl rfl (fun _ h => h) rfl ka_int (by decide) rfl (by decide) ⟨by decide, by decide, by decide, by decide⟩ dX1_init_15 rfl (fun _ => rfl) (fun b2 hD => ?_)
  have K := Ok_w K hD
  refine g_putFc (ty := .array .int) (ws' := [(h, .inr (1, [.ref b1, .ref b2, .null, .null, .null, .null, .null, .null, .null, .null, .int 0, .int 0, .int 0, .int 0, .int 0, .int 0, .int 0, .int 0, .int 0])), (b1, .inl (cI, 10, .inl (fun _ => 0))), (b2, .inl (cI, 11, .inl (fun _ => 0)))]) 20 0 1 K hin hin_X1 rfl (by decide) rfl kf_X1_15 tyX1 tyX1_ok nmX1 rfl rfl rfl (by decide +kernel) rfl rfl (Nat.le_of_ble_eq_true rfl) rfl dX1_init_17 rfl (fun hD => ?_)
  have K := Ok_w K hD
  refine g_aload_n 21 0 K dX1_init_20 rfl rfl rfl ?_
  refine g_sipush 24 300 K dX1_init_21 rfl (by decide) ?_
  refine g_newan (fun b3 => [(h, .inr (1, [.ref b1, .ref b2, .null, .null, .null, .null, .null, .null, .null, .null, .int 0, .int 0, .int 0, .int 0, .int 0, .int 0, .int 0, .int 0, .int 0])), (b1, .inl (cI, 10, .inl (fun _ => 0))), (b2, .inl (cI, 11, .inl (fun _ => 0))), (b3, .inl (cI, 300, .inl (fun _ => 0)))]) 26 300 3 321 0 K rfl rfl (fun _ h => h) rfl ka_int (by decide) rfl (by decide) ⟨by decide, by decide, by decide, by decide⟩ dX1_init_24 rfl (fun _ => rfl) (fun b3 hD => ?_)
  have K := Ok_w K hD
  refine g_putFc (ty := .array .int) (ws' := [(h, .inr (1, [.ref b1, .ref b2, .ref b3, .null, .null, .null, .null, .null, .null, .null, .int 0, .int 0, .int 0, .int 0, .int 0, .int 0, .int 0, .int 0, .int 0])), (b1, .inl (cI, 10, .inl (fun _ => 0))), (b2, .inl (cI, 11, .inl (fun _ => 0))), (b3, .inl (cI, 300, .inl (fun _ => 0)))]) 29 0 2 K hin hin_X1 rfl (by decide) rfl kf_X1_18 tyX1 tyX1_ok nmX1 rfl rfl rfl (by decide +kernel) rfl rfl (Nat.le_of_ble_eq_true rfl) rfl dX1_init_26 rfl (fun hD => ?_)
  have K := Ok_w K hD
  refine g_aload_n 30 0 K dX1_init_29 rfl rfl rfl ?_
  refine g_sipush 33 241 K dX1_init_30 rfl (by decide) ?_
  refine g_newan (fun b4 => [(h, .inr (1, [.ref b1, .ref b2, .ref b3, .null, .null, .null, .null, .null, .null, .null, .int 0, .int 0, .int 0, .int 0, .int 0, .int 0, .int 0, .int 0, .int 0])), (b1, .inl (cI, 10, .inl (fun _ => 0))), (b2, .inl (cI, 11, .inl (fun _ => 0))), (b3, .inl (cI, 300, .inl (fun _ => 0))), (b4, .inl (cI, 241, .inl (fun _ => 0)))]) 35 241 4 562 0 K rfl rfl (fun _ h => h) rfl ka_int (by decide) rfl (by decide) ⟨by decide, by decide, by decide, by decide⟩ dX1_init_33 rfl (fun _ => rfl) (fun b4 hD => ?_)
  have K := Ok_w K hD
  refine g_putFc (ty := .array .int) (ws' := [(h, .inr (1, [.ref b1, .ref b2, .ref b3, .ref b4, .null, .null, .null, .null, .null, .null, .int 0, .int 0, .int 0, .int 0, .int 0, .int 0, .int 0, .int 0, .int 0])), (b1, .inl (cI, 10, .inl (fun _ => 0))), (b2, .inl (cI, 11, .inl (fun _ => 0))), (b3, .inl (cI, 300, .inl (fun _ => 0))), (b4, .inl (cI, 241, .inl (fun _ => 0)))]) 38 0 3 K hin hin_X1 rfl (by decide) rfl kf_X1_21 tyX1 tyX1_ok nmX1 rfl rfl rfl (by decide +kernel) rfl rfl (Nat.le_of_ble_eq_true rfl) rfl dX1_init_35 rfl (fun hD => ?_)
  have K := Ok_w K hD
  refine g_aload_n 39 0 K dX1_init_38 rfl rfl rfl ?_
  refine g_sipush 42 241 K dX1_init_39 rfl (by decide) ?_
  refine g_newan (fun b5 => [(h, .inr (1, [.ref b1, .ref b2, .ref b3, .ref b4, .null, .null, .null, .null, .null, .null, .int 0, .int 0, .int 0, .int 0, .int 0, .int 0, .int 0, .int 0, .int 0])), (b1, .inl (cI, 10, .inl (fun _ => 0))), (b2, .inl (cI, 11, .inl (fun _ => 0))), (b3, .inl (cI, 300, .inl (fun _ => 0))), (b4, .inl (cI, 241, .inl (fun _ => 0))), (b5, .inl (cI, 241, .inl (fun _ => 0)))]) 44 241 5 803 0 K rfl rfl (fun _ h => h) rfl ka_int (by decide) rfl (by decide) ⟨by decide, by decide, by decide, by decide⟩ dX1_init_42 rfl (fun _ => rfl) (fun b5 hD => ?_)
  have K := Ok_w K hD
  refine g_putFc (ty := .array .int) (ws' := [(h, .inr (1, [.ref b1, .ref b2, .ref b3, .ref b4, .ref b5, .null, .null, .null, .null, .null, .int 0, .int 0, .int 0, .int 0, .int 0, .int 0, .int 0, .int 0, .int 0])), (b1, .inl (cI, 10, .inl (fun _ => 0))), (b2, .inl (cI, 11, .inl (fun _ => 0))), (b3, .inl (cI, 300, .inl (fun _ => 0))), (b4, .inl (cI, 241, .inl (fun _ => 0))), (b5, .inl (cI, 241, .inl (fun _ => 0)))]) 47 0 4 K hin hin_X1 rfl (by decide) rfl kf_X1_24 tyX1 tyX1_ok nmX1 rfl rfl rfl (by decide +kernel) rfl rfl (Nat.le_of_ble_eq_true rfl) rfl dX1_init_44 rfl (fun hD => ?_)
  have K := Ok_w K hD
  refine g_aload_n 48 0 K dX1_init_47 rfl rfl rfl ?_
  refine g_sipush 51 3010 K dX1_init_48 rfl (by decide) ?_
  refine g_newan (fun b6 => [(h, .inr (1, [.ref b1, .ref b2, .ref b3, .ref b4, .ref b5, .null, .null, .null, .null, .null, .int 0, .int 0, .int 0, .int 0, .int 0, .int 0, .int 0, .int 0, .int 0])), (b1, .inl (cI, 10, .inl (fun _ => 0))), (b2, .inl (cI, 11, .inl (fun _ => 0))), (b3, .inl (cI, 300, .inl (fun _ => 0))), (b4, .inl (cI, 241, .inl (fun _ => 0))), (b5, .inl (cI, 241, .inl (fun _ => 0))), (b6, .inl (cI, 3010, .inl (fun _ => 0)))]) 53 3010 6 3813 0 K rfl rfl (fun _ h => h) rfl ka_int (by decide) rfl (by decide) ⟨by decide, by decide, by decide, by decide⟩ dX1_init_51 rfl (fun _ => rfl) (fun b6 hD => ?_)
  have K := Ok_w K hD
  refine g_putFc (ty := .array .int) (ws' := [(h, .inr (1, [.ref b1, .ref b2, .ref b3, .ref b4, .ref b5, .ref b6, .null, .null, .null, .null, .int 0, .int 0, .int 0, .int 0, .int 0, .int 0, .int 0, .int 0, .int 0])), (b1, .inl (cI, 10, .inl (fun _ => 0))), (b2, .inl (cI, 11, .inl (fun _ => 0))), (b3, .inl (cI, 300, .inl (fun _ => 0))), (b4, .inl (cI, 241, .inl (fun _ => 0))), (b5, .inl (cI, 241, .inl (fun _ => 0))), (b6, .inl (cI, 3010, .inl (fun _ => 0)))]) 56 0 5 K hin hin_X1 rfl (by decide) rfl kf_X1_27 tyX1 tyX1_ok nmX1 rfl rfl rfl (by decide +kernel) rfl rfl (Nat.le_of_ble_eq_true rfl) rfl dX1_init_53 rfl (fun hD => ?_)
  have K := Ok_w K hD
  refine g_aload_n 57 0 K dX1_init_56 rfl rfl rfl ?_
  refine g_sipush 60 3010 K dX1_init_57 rfl (by decide) ?_
  refine g_newan (fun b7 => [(h, .inr (1, [.ref b1, .ref b2, .ref b3, .ref b4, .ref b5, .ref b6, .null, .null, .null, .null, .int 0, .int 0, .int 0, .int 0, .int 0, .int 0, .int 0, .int 0, .int 0])), (b1, .inl (cI, 10, .inl (fun _ => 0))), (b2, .inl (cI, 11, .inl (fun _ => 0))), (b3, .inl (cI, 300, .inl (fun _ => 0))), (b4, .inl (cI, 241, .inl (fun _ => 0))), (b5, .inl (cI, 241, .inl (fun _ => 0))), (b6, .inl (cI, 3010, .inl (fun _ => 0))), (b7, .inl (cI, 3010, .inl (fun _ => 0)))]) 62 3010 7 6823 0 K rfl rfl (fun _ h => h) rfl ka_int (by decide) rfl (by decide) ⟨by decide, by decide, by decide, by decide⟩ dX1_init_60 rfl (fun _ => rfl) (fun b7 hD => ?_)
  have K := Ok_w K hD
  refine g_putFc (ty := .array .int) (ws' := [(h, .inr (1, [.ref b1, .ref b2, .ref b3, .ref b4, .ref b5, .ref b6, .ref b7, .null, .null, .null, .int 0, .int 0, .int 0, .int 0, .int 0, .int 0, .int 0, .int 0, .int 0])), (b1, .inl (cI, 10, .inl (fun _ => 0))), (b2, .inl (cI, 11, .inl (fun _ => 0))), (b3, .inl (cI, 300, .inl (fun _ => 0))), (b4, .inl (cI, 241, .inl (fun _ => 0))), (b5, .inl (cI, 241, .inl (fun _ => 0))), (b6, .inl (cI, 3010, .inl (fun _ => 0))), (b7, .inl (cI, 3010, .inl (fun _ => 0)))]) 65 0 6 K hin hin_X1 rfl (by decide) rfl kf_X1_30 tyX1 tyX1_ok nmX1 rfl rfl rfl (by decide +kernel) rfl rfl (Nat.le_of_ble_eq_true rfl) rfl dX1_init_62 rfl (fun hD => ?_)
  have K := Ok_w K hD
  refine g_aload_n 66 0 K dX1_init_65 rfl rfl rfl ?_
  refine g_bipush 68 10 K dX1_init_66 rfl (by decide) ?_
  refine g_newan (fun b8 => [(h, .inr (1, [.ref b1, .ref b2, .ref b3, .ref b4, .ref b5, .ref b6, .ref b7, .null, .null, .null, .int 0, .int 0, .int 0, .int 0, .int 0, .int 0, .int 0, .int 0, .int 0])), (b1, .inl (cI, 10, .inl (fun _ => 0))), (b2, .inl (cI, 11, .inl (fun _ => 0))), (b3, .inl (cI, 300, .inl (fun _ => 0))), (b4, .inl (cI, 241, .inl (fun _ => 0))), (b5, .inl (cI, 241, .inl (fun _ => 0))), (b6, .inl (cI, 3010, .inl (fun _ => 0))), (b7, .inl (cI, 3010, .inl (fun _ => 0))), (b8, .inl (cI, 10, .inl (fun _ => 0)))]) 70 10 8 6833 0 K rfl rfl (fun _ h => h) rfl ka_int (by decide) rfl (by decide) ⟨by decide, by decide, by decide, by decide⟩ dX1_init_68 rfl (fun _ => rfl) (fun b8 hD => ?_)
  have K := Ok_w K hD
  refine g_putFc (ty := .array .int) (ws' := [(h, .inr (1, [.ref b1, .ref b2, .ref b3, .ref b4, .ref b5, .ref b6, .ref b7, .ref b8, .null, .null, .int 0, .int 0, .int 0, .int 0, .int 0, .int 0, .int 0, .int 0, .int 0])), (b1, .inl (cI, 10, .inl (fun _ => 0))), (b2, .inl (cI, 11, .inl (fun _ => 0))), (b3, .inl (cI, 300, .inl (fun _ => 0))), (b4, .inl (cI, 241, .inl (fun _ => 0))), (b5, .inl (cI, 241, .inl (fun _ => 0))), (b6, .inl (cI, 3010, .inl (fun _ => 0))), (b7, .inl (cI, 3010, .inl (fun _ => 0))), (b8, .inl (cI, 10, .inl (fun _ => 0)))]) 73 0 7 K hin hin_X1 rfl (by decide) rfl kf_X1_33 tyX1 tyX1_ok nmX1 rfl rfl rfl (by decide +kernel) rfl rfl (Nat.le_of_ble_eq_true rfl) rfl dX1_init_70 rfl (fun hD => ?_)
  have K := Ok_w K hD
  refine g_aload_n 74 0 K dX1_init_73 rfl rfl rfl ?_
  refine g_bipush 76 10 K dX1_init_74 rfl (by decide) ?_
  refine g_newan (fun b9 => [(h, .inr (1, [.ref b1, .ref b2, .ref b3, .ref b4, .ref b5, .ref b6, .ref b7, .ref b8, .null, .null, .int 0, .int 0, .int 0, .int 0, .int 0, .int 0, .int 0, .int 0, .int 0])), (b1, .inl (cI, 10, .inl (fun _ => 0))), (b2, .inl (cI, 11, .inl (fun _ => 0))), (b3, .inl (cI, 300, .inl (fun _ => 0))), (b4, .inl (cI, 241, .inl (fun _ => 0))), (b5, .inl (cI, 241, .inl (fun _ => 0))), (b6, .inl (cI, 3010, .inl (fun _ => 0))), (b7, .inl (cI, 3010, .inl (fun _ => 0))), (b8, .inl (cI, 10, .inl (fun _ => 0))), (b9, .inl (cI, 10, .inl (fun _ => 0)))]) 78 10 9 6843 0 K rfl rfl (fun _ h => h) rfl ka_int (by decide) rfl (by decide) ⟨by decide, by decide, by decide, by decide⟩ dX1_init_76 rfl (fun _ => rfl) (fun b9 hD => ?_)
  have K := Ok_w K hD
  refine g_putFc (ty := .array .int) (ws' := [(h, .inr (1, [.ref b1, .ref b2, .ref b3, .ref b4, .ref b5, .ref b6, .ref b7, .ref b8, .ref b9, .null, .int 0, .int 0, .int 0, .int 0, .int 0, .int 0, .int 0, .int 0, .int 0])), (b1, .inl (cI, 10, .inl (fun _ => 0))), (b2, .inl (cI, 11, .inl (fun _ => 0))), (b3, .inl (cI, 300, .inl (fun _ => 0))), (b4, .inl (cI, 241, .inl (fun _ => 0))), (b5, .inl (cI, 241, .inl (fun _ => 0))), (b6, .inl (cI, 3010, .inl (fun _ => 0))), (b7, .inl (cI, 3010, .inl (fun _ => 0))), (b8, .inl (cI, 10, .inl (fun _ => 0))), (b9, .inl (cI, 10, .inl (fun _ => 0)))]) 81 0 8 K hin hin_X1 rfl (by decide) rfl kf_X1_36 tyX1 tyX1_ok nmX1 rfl rfl rfl (by decide +kernel) rfl rfl (Nat.le_of_ble_eq_true rfl) rfl dX1_init_78 rfl (fun hD => ?_)
  have K := Ok_w K hD
  refine g_aload_n 82 0 K dX1_init_81 rfl rfl rfl ?_
  refine g_bipush 84 10 K dX1_init_82 rfl (by decide) ?_
  refine g_newan (fun b10 => [(h, .inr (1, [.ref b1, .ref b2, .ref b3, .ref b4, .ref b5, .ref b6, .ref b7, .ref b8, .ref b9, .null, .int 0, .int 0, .int 0, .int 0, .int 0, .int 0, .int 0, .int 0, .int 0])), (b1, .inl (cI, 10, .inl (fun _ => 0))), (b2, .inl (cI, 11, .inl (fun _ => 0))), (b3, .inl (cI, 300, .inl (fun _ => 0))), (b4, .inl (cI, 241, .inl (fun _ => 0))), (b5, .inl (cI, 241, .inl (fun _ => 0))), (b6, .inl (cI, 3010, .inl (fun _ => 0))), (b7, .inl (cI, 3010, .inl (fun _ => 0))), (b8, .inl (cI, 10, .inl (fun _ => 0))), (b9, .inl (cI, 10, .inl (fun _ => 0))), (b10, .inl (cI, 10, .inl (fun _ => 0)))]) 86 10 10 6853 0 K rfl rfl (fun _ h => h) rfl ka_int (by decide) rfl (by decide) ⟨by decide, by decide, by decide, by decide⟩ dX1_init_84 rfl (fun _ => rfl) (fun b10 hD => ?_)
  have K := Ok_w K hD
  refine g_putFc (ty := .array .int) (ws' := [(h, .inr (1, [.ref b1, .ref b2, .ref b3, .ref b4, .ref b5, .ref b6, .ref b7, .ref b8, .ref b9, .ref b10, .int 0, .int 0, .int 0, .int 0, .int 0, .int 0, .int 0, .int 0, .int 0])), (b1, .inl (cI, 10, .inl (fun _ => 0))), (b2, .inl (cI, 11, .inl (fun _ => 0))), (b3, .inl (cI, 300, .inl (fun _ => 0))), (b4, .inl (cI, 241, .inl (fun _ => 0))), (b5, .inl (cI, 241, .inl (fun _ => 0))), (b6, .inl (cI, 3010, .inl (fun _ => 0))), (b7, .inl (cI, 3010, .inl (fun _ => 0))), (b8, .inl (cI, 10, .inl (fun _ => 0))), (b9, .inl (cI, 10, .inl (fun _ => 0))), (b10, .inl (cI, 10, .inl (fun _ => 0)))]) 89 0 9 K hin hin_X1 rfl (by decide) rfl kf_X1_39 tyX1 tyX1_ok nmX1 rfl rfl rfl (by decide +kernel) rfl rfl (Nat.le_of_ble_eq_true rfl) rfl dX1_init_86 rfl (fun hD => ?_)
  have K := Ok_w K hD
  refine g_aload_n 90 0 K dX1_init_89 rfl rfl rfl ?_
  refine g_iconst 91 3 K dX1_init_90 rfl (by decide) ?_
  refine g_putc (ty := .int) (ws' := [(h, .inr (1, [.ref b1, .ref b2, .ref b3, .ref b4, .ref b5, .ref b6, .ref b7, .ref b8, .ref b9, .ref b10, .int 0, .int 0, .int 3, .int 0, .int 0, .int 0, .int 0, .int 0, .int 0])), (b1, .inl (cI, 10, .inl (fun _ => 0))), (b2, .inl (cI, 11, .inl (fun _ => 0))), (b3, .inl (cI, 300, .inl (fun _ => 0))), (b4, .inl (cI, 241, .inl (fun _ => 0))), (b5, .inl (cI, 241, .inl (fun _ => 0))), (b6, .inl (cI, 3010, .inl (fun _ => 0))), (b7, .inl (cI, 3010, .inl (fun _ => 0))), (b8, .inl (cI, 10, .inl (fun _ => 0))), (b9, .inl (cI, 10, .inl (fun _ => 0))), (b10, .inl (cI, 10, .inl (fun _ => 0)))]) 94 0 12 K hin_X1 rfl (by decide) rfl kf_X1_42 tyX1 tyX1_ok nmX1 rfl rfl (by decide +kernel) rfl rfl (Nat.le_of_ble_eq_true rfl) rfl dX1_init_91 rfl (fun hD => ?_)
  have K := Ok_w K hD
  refine g_aload_n 95 0 K dX1_init_94 rfl rfl rfl ?_
  refine g_iconst 96 2 K dX1_init_95 rfl (by decide) ?_
  refine g_putc (ty := .int) (ws' := [(h, .inr (1, [.ref b1, .ref b2, .ref b3, .ref b4, .ref b5, .ref b6, .ref b7, .ref b8, .ref b9, .ref b10, .int 0, .int 0, .int 3, .int 2, .int 0, .int 0, .int 0, .int 0, .int 0])), (b1, .inl (cI, 10, .inl (fun _ => 0))), (b2, .inl (cI, 11, .inl (fun _ => 0))), (b3, .inl (cI, 300, .inl (fun _ => 0))), (b4, .inl (cI, 241, .inl (fun _ => 0))), (b5, .inl (cI, 241, .inl (fun _ => 0))), (b6, .inl (cI, 3010, .inl (fun _ => 0))), (b7, .inl (cI, 3010, .inl (fun _ => 0))), (b8, .inl (cI, 10, .inl (fun _ => 0))), (b9, .inl (cI, 10, .inl (fun _ => 0))), (b10, .inl (cI, 10, .inl (fun _ => 0)))]) 99 0 13 K hin_X1 rfl (by decide) rfl kf_X1_46 tyX1 tyX1_ok nmX1 rfl rfl (by decide +kernel) rfl rfl (Nat.le_of_ble_eq_true rfl) rfl dX1_init_96 rfl (fun hD => ?_)
  have K := Ok_w K hD
  refine g_aload_n 100 0 K dX1_init_99 rfl rfl rfl ?_
  refine g_iconst 101 3 K dX1_init_100 rfl (by decide) ?_
  refine g_putc (ty := .int) (ws' := [(h, .inr (1, [.ref b1, .ref b2, .ref b3, .ref b4, .ref b5, .ref b6, .ref b7, .ref b8, .ref b9, .ref b10, .int 0, .int 0, .int 3, .int 2, .int 3, .int 0, .int 0, .int 0, .int 0])), (b1, .inl (cI, 10, .inl (fun _ => 0))), (b2, .inl (cI, 11, .inl (fun _ => 0))), (b3, .inl (cI, 300, .inl (fun _ => 0))), (b4, .inl (cI, 241, .inl (fun _ => 0))), (b5, .inl (cI, 241, .inl (fun _ => 0))), (b6, .inl (cI, 3010, .inl (fun _ => 0))), (b7, .inl (cI, 3010, .inl (fun _ => 0))), (b8, .inl (cI, 10, .inl (fun _ => 0))), (b9, .inl (cI, 10, .inl (fun _ => 0))), (b10, .inl (cI, 10, .inl (fun _ => 0)))]) 104 0 14 K hin_X1 rfl (by decide) rfl kf_X1_49 tyX1 tyX1_ok nmX1 rfl rfl (by decide +kernel) rfl rfl (Nat.le_of_ble_eq_true rfl) rfl dX1_init_101 rfl (fun hD => ?_)
  have K := Ok_w K hD
  refine g_aload_n 105 0 K dX1_init_104 rfl rfl rfl ?_
  refine g_iconst 106 2 K dX1_init_105 rfl (by decide) ?_
  refine g_putc (ty := .int) (ws' := [(h, .inr (1, [.ref b1, .ref b2, .ref b3, .ref b4, .ref b5, .ref b6, .ref b7, .ref b8, .ref b9, .ref b10, .int 0, .int 0, .int 3, .int 2, .int 3, .int 2, .int 0, .int 0, .int 0])), (b1, .inl (cI, 10, .inl (fun _ => 0))), (b2, .inl (cI, 11, .inl (fun _ => 0))), (b3, .inl (cI, 300, .inl (fun _ => 0))), (b4, .inl (cI, 241, .inl (fun _ => 0))), (b5, .inl (cI, 241, .inl (fun _ => 0))), (b6, .inl (cI, 3010, .inl (fun _ => 0))), (b7, .inl (cI, 3010, .inl (fun _ => 0))), (b8, .inl (cI, 10, .inl (fun _ => 0))), (b9, .inl (cI, 10, .inl (fun _ => 0))), (b10, .inl (cI, 10, .inl (fun _ => 0)))]) 109 0 15 K hin_X1 rfl (by decide) rfl kf_X1_52 tyX1 tyX1_ok nmX1 rfl rfl (by decide +kernel) rfl rfl (Nat.le_of_ble_eq_true rfl) rfl dX1_init_106 rfl (fun hD => ?_)
  have K := Ok_w K hD
  refine g_order (ws' := [(h, .inr (1, [.ref b1, .ref b2, .ref b3, .ref b4, .ref b5, .ref b6, .ref b7, .ref b8, .ref b9, .ref b10, .int 0, .int 0, .int 3, .int 2, .int 3, .int 2, .int 0, .int 0, .int 0])), (b1, .inl (cI, 10, .inl (fun _ => 0))), (b2, .inl (cI, 11, .inl (fun _ => 0))), (b3, .inl (cI, 300, .inl (fun _ => 0))), (b4, .inl (cI, 241, .inl (fun _ => 0))), (b5, .inl (cI, 241, .inl (fun _ => 0))), (b6, .inl (cI, 3010, .inl (fun _ => 0))), (b7, .inl (cI, 3010, .inl (fun _ => 0))), (b8, .inl (cI, 10, .inl (fun _ => 0))), (b9, .inl (cI, 10, .inl (fun _ => 0))), (b10, .inl (cI, 10, .inl (fun _ => 0)))]) [0, 1, 2, 3, 4, 5, 6, 7, 8, 9, 10] rfl ?_
  have K := Ok_w (ws' := [(h, .inr (1, [.ref b1, .ref b2, .ref b3, .ref b4, .ref b5, .ref b6, .ref b7, .ref b8, .ref b9, .ref b10, .int 0, .int 0, .int 3, .int 2, .int 3, .int 2, .int 0, .int 0, .int 0])), (b1, .inl (cI, 10, .inl (fun _ => 0))), (b2, .inl (cI, 11, .inl (fun _ => 0))), (b3, .inl (cI, 300, .inl (fun _ => 0))), (b4, .inl (cI, 241, .inl (fun _ => 0))), (b5, .inl (cI, 241, .inl (fun _ => 0))), (b6, .inl (cI, 3010, .inl (fun _ => 0))), (b7, .inl (cI, 3010, .inl (fun _ => 0))), (b8, .inl (cI, 10, .inl (fun _ => 0))), (b9, .inl (cI, 10, .inl (fun _ => 0))), (b10, .inl (cI, 10, .inl (fun _ => 0)))]) K ((K.2.2.2.2.2.2.1 S0).sub [0, 1, 2, 3, 4, 5, 6, 7, 8, 9, 10] (by decide) rfl)
  exact g_vretI K hr hlk ⟨by decide, by decide⟩ ⟨b1, b2, b3, b4, b5, b6, b7, b8, b9, b10, rfl⟩ dX1_init_109
set_option maxRecDepth 20000 in
set_option maxHeartbeats 4000000 in
theorem ci_X2 {l : Launch} {D : va_G} {cI cB cZ : ClassId} {adK adV : Nat → Nat} {h : Nat}  : Ci l yX2_init cX2_init 1 1 23 3 730 D (tyL cI cB cZ) (Fx adK adV) [.ref h] [(h, .inr (2, [.null, .null, .null, .int 0, .int 0, .int 0]))] (fun ws => ∃ b1 b2 b3 : Nat, ws = [(h, .inr (2, [.ref b1, .ref b2, .ref b3, .int 50, .int 3, .int 0])), (b1, .inl (cI, 60, .inl (flA 60 (-1)))), (b2, .inl (cZ, 60, .inl (fun _ => 0))), (b3, .inl (cI, 610, .inl (fun _ => 0)))]) := by
  refine ci_of (by decide) rfl (Nat.le_of_ble_eq_true rfl) [(0, .ref h)] rfl ?_
  intro p e s m args below meth c K hr hlk hin hs
  have K : Ok p s m args c cX2_init 1 RX2 D (tyL cI cB cZ) (Aw (cw [(h, .inr (2, [.null, .null, .null, .int 0, .int 0, .int 0]))]) s.heap.size) (cw [(h, .inr (2, [.null, .null, .null, .int 0, .int 0, .int 0]))]) := K
  refine g_aload_n 1 0 K dX2_init_0 rfl rfl rfl ?_
  refine g_objInit 4 K km_X2_3 ⟨by decide, Nat.le_of_ble_eq_true rfl⟩ dX2_init_1 rfl ?_
  refine g_aload_n 5 0 K dX2_init_4 rfl rfl rfl ?_
  refine g_bipush 7 60 K dX2_init_5 rfl (by decide) ?_
  refine g_newan (fun b1 => [(h, .inr (2, [.null, .null, .null, .int 0, .int 0, .int 0])), (b1, .inl (cI, 60, .inl (fun _ => 0)))]) 9 60 1 60 0 K rfl rfl (fun _ h => h) rfl ka_int (by decide) rfl (by decide) ⟨by decide, by decide, by decide, by decide⟩ dX2_init_7 rfl (fun _ => rfl) (fun b1 hD => ?_)
  have K := Ok_w K hD
  refine g_putFc (ty := .array .int) (ws' := [(h, .inr (2, [.ref b1, .null, .null, .int 0, .int 0, .int 0])), (b1, .inl (cI, 60, .inl (fun _ => 0)))]) 12 0 0 K hin hin_X2 rfl (by decide) rfl kf_X2_9 tyX2 tyX2_ok nmX2 rfl rfl rfl (by decide +kernel) rfl rfl (Nat.le_of_ble_eq_true rfl) rfl dX2_init_9 rfl (fun hD => ?_)
  have K := Ok_w K hD
  refine g_aload_n 13 0 K dX2_init_12 rfl rfl rfl ?_
  refine g_bipush 15 60 K dX2_init_13 rfl (by decide) ?_
  refine g_newan (fun b2 => [(h, .inr (2, [.ref b1, .null, .null, .int 0, .int 0, .int 0])), (b1, .inl (cI, 60, .inl (fun _ => 0))), (b2, .inl (cZ, 60, .inl (fun _ => 0)))]) 17 60 2 120 2 K rfl rfl (fun _ h => h) rfl ka_boolean (by decide) rfl (by decide) ⟨by decide, by decide, by decide, by decide⟩ dX2_init_15 rfl (fun _ => rfl) (fun b2 hD => ?_)
  have K := Ok_w K hD
  refine g_putFc (ty := .array .boolean) (ws' := [(h, .inr (2, [.ref b1, .ref b2, .null, .int 0, .int 0, .int 0])), (b1, .inl (cI, 60, .inl (fun _ => 0))), (b2, .inl (cZ, 60, .inl (fun _ => 0)))]) 20 0 1 K hin hin_X2 rfl (by decide) rfl kf_X2_15 tyX2 tyX2_ok nmX2 rfl rfl rfl (by decide +kernel) rfl rfl (Nat.le_of_ble_eq_true rfl) rfl dX2_init_17 rfl (fun hD => ?_)
  have K := Ok_w K hD
  refine g_aload_n 21 0 K dX2_init_20 rfl rfl rfl ?_
  refine g_sipush 24 610 K dX2_init_21 rfl (by decide) ?_
  refine g_newan (fun b3 => [(h, .inr (2, [.ref b1, .ref b2, .null, .int 0, .int 0, .int 0])), (b1, .inl (cI, 60, .inl (fun _ => 0))), (b2, .inl (cZ, 60, .inl (fun _ => 0))), (b3, .inl (cI, 610, .inl (fun _ => 0)))]) 26 610 3 730 0 K rfl rfl (fun _ h => h) rfl ka_int (by decide) rfl (by decide) ⟨by decide, by decide, by decide, by decide⟩ dX2_init_24 rfl (fun _ => rfl) (fun b3 hD => ?_)
  have K := Ok_w K hD
  refine g_putFc (ty := .array .int) (ws' := [(h, .inr (2, [.ref b1, .ref b2, .ref b3, .int 0, .int 0, .int 0])), (b1, .inl (cI, 60, .inl (fun _ => 0))), (b2, .inl (cZ, 60, .inl (fun _ => 0))), (b3, .inl (cI, 610, .inl (fun _ => 0)))]) 29 0 2 K hin hin_X2 rfl (by decide) rfl kf_X2_19 tyX2 tyX2_ok nmX2 rfl rfl rfl (by decide +kernel) rfl rfl (Nat.le_of_ble_eq_true rfl) rfl dX2_init_26 rfl (fun hD => ?_)
  have K := Ok_w K hD
  refine g_aload_n 30 0 K dX2_init_29 rfl rfl rfl ?_
  refine g_bipush 32 50 K dX2_init_30 rfl (by decide) ?_
  refine g_putc (ty := .int) (ws' := [(h, .inr (2, [.ref b1, .ref b2, .ref b3, .int 50, .int 0, .int 0])), (b1, .inl (cI, 60, .inl (fun _ => 0))), (b2, .inl (cZ, 60, .inl (fun _ => 0))), (b3, .inl (cI, 610, .inl (fun _ => 0)))]) 35 0 3 K hin_X2 rfl (by decide) rfl kf_X2_22 tyX2 tyX2_ok nmX2 rfl rfl (by decide +kernel) rfl rfl (Nat.le_of_ble_eq_true rfl) rfl dX2_init_32 rfl (fun hD => ?_)
  have K := Ok_w K hD
  refine g_aload_n 36 0 K dX2_init_35 rfl rfl rfl ?_
  refine g_iconst 37 3 K dX2_init_36 rfl (by decide) ?_
  refine g_putc (ty := .int) (ws' := [(h, .inr (2, [.ref b1, .ref b2, .ref b3, .int 50, .int 3, .int 0])), (b1, .inl (cI, 60, .inl (fun _ => 0))), (b2, .inl (cZ, 60, .inl (fun _ => 0))), (b3, .inl (cI, 610, .inl (fun _ => 0)))]) 40 0 4 K hin_X2 rfl (by decide) rfl kf_X2_26 tyX2 tyX2_ok nmX2 rfl rfl (by decide +kernel) rfl rfl (Nat.le_of_ble_eq_true rfl) rfl dX2_init_37 rfl (fun hD => ?_)
  have K := Ok_w K hD
  refine g_aload_n 41 0 K dX2_init_40 rfl rfl rfl ?_
  refine g_get 44 0 0 K hin_X2 rfl (by decide) rfl kf_X2_9 rfl rfl dX2_init_41 rfl ?_
  refine g_iconst 45 (-1) K dX2_init_44 rfl (by decide) ?_
  refine g_fillc (ws' := [(h, .inr (2, [.ref b1, .ref b2, .ref b3, .int 50, .int 3, .int 0])), (b1, .inl (cI, 60, .inl (flA 60 (-1)))), (b2, .inl (cZ, 60, .inl (fun _ => 0))), (b3, .inl (cI, 610, .inl (fun _ => 0)))]) 48 1 [] K hs (by decide) rfl rfl km_X2_29 ⟨by decide, by decide, by decide, by decide⟩ (Nat.le_of_ble_eq_true rfl) dX2_init_45 rfl (fun hD => ?_)
  have K := Ok_w K hD
  refine g_order (ws' := [(h, .inr (2, [.ref b1, .ref b2, .ref b3, .int 50, .int 3, .int 0])), (b1, .inl (cI, 60, .inl (flA 60 (-1)))), (b2, .inl (cZ, 60, .inl (fun _ => 0))), (b3, .inl (cI, 610, .inl (fun _ => 0)))]) [0, 1, 2, 3] rfl ?_
  have K := Ok_w (ws' := [(h, .inr (2, [.ref b1, .ref b2, .ref b3, .int 50, .int 3, .int 0])), (b1, .inl (cI, 60, .inl (flA 60 (-1)))), (b2, .inl (cZ, 60, .inl (fun _ => 0))), (b3, .inl (cI, 610, .inl (fun _ => 0)))]) K ((K.2.2.2.2.2.2.1 S0).sub [0, 1, 2, 3] (by decide) rfl)
  exact g_vretI K hr hlk ⟨by decide, by decide⟩ ⟨b1, b2, b3, rfl⟩ dX2_init_48
set_option maxRecDepth 20000 in
set_option maxHeartbeats 4000000 in
theorem ci_X3 {l : Launch} {D : va_G} {cI cB cZ : ClassId} {adK adV : Nat → Nat} {h : Nat}  : Ci l yX3_init cX3_init 1 1 12 1 200 D (tyL cI cB cZ) (Fx adK adV) [.ref h] [(h, .inr (3, [.null, .int 0]))] (fun ws => ∃ b1 : Nat, ws = [(h, .inr (3, [.ref b1, .int 0])), (b1, .inl (cB, 200, .inl (fun _ => 0)))]) := by
  refine ci_of (by decide) rfl (Nat.le_of_ble_eq_true rfl) [(0, .ref h)] rfl ?_
  intro p e s m args below meth c K hr hlk hin hs
  have K : Ok p s m args c cX3_init 1 RX3 D (tyL cI cB cZ) (Aw (cw [(h, .inr (3, [.null, .int 0]))]) s.heap.size) (cw [(h, .inr (3, [.null, .int 0]))]) := K
  refine g_aload_n 1 0 K dX3_init_0 rfl rfl rfl ?_
  refine g_objInit 4 K km_X3_3 ⟨by decide, Nat.le_of_ble_eq_true rfl⟩ dX3_init_1 rfl ?_
  refine g_aload_n 5 0 K dX3_init_4 rfl rfl rfl ?_
  refine g_sipush 8 200 K dX3_init_5 rfl (by decide) ?_
  refine g_newan (fun b1 => [(h, .inr (3, [.null, .int 0])), (b1, .inl (cB, 200, .inl (fun _ => 0)))]) 10 200 1 200 1 K rfl rfl (fun _ h => h) rfl ka_byte (by decide) rfl (by decide) ⟨by decide, by decide, by decide, by decide⟩ dX3_init_8 rfl (fun _ => rfl) (fun b1 hD => ?_)
  have K := Ok_w K hD
  refine g_putFc (ty := .array .byte) (ws' := [(h, .inr (3, [.ref b1, .int 0])), (b1, .inl (cB, 200, .inl (fun _ => 0)))]) 13 0 0 K hin hin_X3 rfl (by decide) rfl kf_X3_9 tyX3 tyX3_ok nmX3 rfl rfl rfl (by decide +kernel) rfl rfl (Nat.le_of_ble_eq_true rfl) rfl dX3_init_10 rfl (fun hD => ?_)
  have K := Ok_w K hD
  refine g_order (ws' := [(h, .inr (3, [.ref b1, .int 0])), (b1, .inl (cB, 200, .inl (fun _ => 0)))]) [0, 1] rfl ?_
  have K := Ok_w (ws' := [(h, .inr (3, [.ref b1, .int 0])), (b1, .inl (cB, 200, .inl (fun _ => 0)))]) K ((K.2.2.2.2.2.2.1 S0).sub [0, 1] (by decide) rfl)
  exact g_vretI K hr hlk ⟨by decide, by decide⟩ ⟨b1, rfl⟩ dX3_init_13
set_option maxRecDepth 20000 in
set_option maxHeartbeats 4000000 in
theorem ci_X4 {l : Launch} {D : va_G} {cI cB cZ : ClassId} {adK adV : Nat → Nat} {h : Nat}  : Ci l yX4_init cX4_init 1 1 23 3 132 D (tyL cI cB cZ) (Fx adK adV) [.ref h] [(h, .inr (4, [.null, .null, .null, .int 0, .int 0, .int 0]))] (fun ws => ∃ b1 b2 b3 : Nat, ws = [(h, .inr (4, [.ref b1, .ref b2, .ref b3, .int 0, .int 0, .int 0])), (b1, .inl (cI, 6, .inl (fun _ => 0))), (b2, .inl (cI, 6, .inl (fun _ => 0))), (b3, .inl (cI, 120, .inl (flA 120 (-1))))]) := by
  refine ci_of (by decide) rfl (Nat.le_of_ble_eq_true rfl) [(0, .ref h)] rfl ?_
  intro p e s m args below meth c K hr hlk hin hs
  have K : Ok p s m args c cX4_init 1 RX4 D (tyL cI cB cZ) (Aw (cw [(h, .inr (4, [.null, .null, .null, .int 0, .int 0, .int 0]))]) s.heap.size) (cw [(h, .inr (4, [.null, .null, .null, .int 0, .int 0, .int 0]))]) := K
  refine g_aload_n 1 0 K dX4_init_0 rfl rfl rfl ?_
  refine g_objInit 4 K km_X4_3 ⟨by decide, Nat.le_of_ble_eq_true rfl⟩ dX4_init_1 rfl ?_
  refine g_aload_n 5 0 K dX4_init_4 rfl rfl rfl ?_
  refine g_bipush 7 6 K dX4_init_5 rfl (by decide) ?_
  refine g_newan (fun b1 => [(h, .inr (4, [.null, .null, .null, .int 0, .int 0, .int 0])), (b1, .inl (cI, 6, .inl (fun _ => 0)))]) 9 6 1 6 0 K rfl rfl (fun _ h => h) rfl ka_int (by decide) rfl (by decide) ⟨by decide, by decide, by decide, by decide⟩ dX4_init_7 rfl (fun _ => rfl) (fun b1 hD => ?_)
  have K := Ok_w K hD
  refine g_putFc (ty := .array .int) (ws' := [(h, .inr (4, [.ref b1, .null, .null, .int 0, .int 0, .int 0])), (b1, .inl (cI, 6, .inl (fun _ => 0)))]) 12 0 0 K hin hin_X4 rfl (by decide) rfl kf_X4_9 tyX4 tyX4_ok nmX4 rfl rfl rfl (by decide +kernel) rfl rfl (Nat.le_of_ble_eq_true rfl) rfl dX4_init_9 rfl (fun hD => ?_)
  have K := Ok_w K hD
  refine g_aload_n 13 0 K dX4_init_12 rfl rfl rfl ?_
  refine g_bipush 15 6 K dX4_init_13 rfl (by decide) ?_
  refine g_newan (fun b2 => [(h, .inr (4, [.ref b1, .null, .null, .int 0, .int 0, .int 0])), (b1, .inl (cI, 6, .inl (fun _ => 0))), (b2, .inl (cI, 6, .inl (fun _ => 0)))]) 17 6 2 12 0 K rfl rfl (fun _ h => h) rfl ka_int (by decide) rfl (by decide) ⟨by decide, by decide, by decide, by decide⟩ dX4_init_15 rfl (fun _ => rfl) (fun b2 hD => ?_)
  have K := Ok_w K hD
  refine g_putFc (ty := .array .int) (ws' := [(h, .inr (4, [.ref b1, .ref b2, .null, .int 0, .int 0, .int 0])), (b1, .inl (cI, 6, .inl (fun _ => 0))), (b2, .inl (cI, 6, .inl (fun _ => 0)))]) 20 0 1 K hin hin_X4 rfl (by decide) rfl kf_X4_15 tyX4 tyX4_ok nmX4 rfl rfl rfl (by decide +kernel) rfl rfl (Nat.le_of_ble_eq_true rfl) rfl dX4_init_17 rfl (fun hD => ?_)
  have K := Ok_w K hD
  refine g_aload_n 21 0 K dX4_init_20 rfl rfl rfl ?_
  refine g_bipush 23 120 K dX4_init_21 rfl (by decide) ?_
  refine g_newan (fun b3 => [(h, .inr (4, [.ref b1, .ref b2, .null, .int 0, .int 0, .int 0])), (b1, .inl (cI, 6, .inl (fun _ => 0))), (b2, .inl (cI, 6, .inl (fun _ => 0))), (b3, .inl (cI, 120, .inl (fun _ => 0)))]) 25 120 3 132 0 K rfl rfl (fun _ h => h) rfl ka_int (by decide) rfl (by decide) ⟨by decide, by decide, by decide, by decide⟩ dX4_init_23 rfl (fun _ => rfl) (fun b3 hD => ?_)
  have K := Ok_w K hD
  refine g_putFc (ty := .array .int) (ws' := [(h, .inr (4, [.ref b1, .ref b2, .ref b3, .int 0, .int 0, .int 0])), (b1, .inl (cI, 6, .inl (fun _ => 0))), (b2, .inl (cI, 6, .inl (fun _ => 0))), (b3, .inl (cI, 120, .inl (fun _ => 0)))]) 28 0 2 K hin hin_X4 rfl (by decide) rfl kf_X4_18 tyX4 tyX4_ok nmX4 rfl rfl rfl (by decide +kernel) rfl rfl (Nat.le_of_ble_eq_true rfl) rfl dX4_init_25 rfl (fun hD => ?_)
  have K := Ok_w K hD
  refine g_aload_n 29 0 K dX4_init_28 rfl rfl rfl ?_
  refine g_get 32 0 2 K hin_X4 rfl (by decide) rfl kf_X4_18 rfl rfl dX4_init_29 rfl ?_
  refine g_iconst 33 (-1) K dX4_init_32 rfl (by decide) ?_
  refine g_fillc (ws' := [(h, .inr (4, [.ref b1, .ref b2, .ref b3, .int 0, .int 0, .int 0])), (b1, .inl (cI, 6, .inl (fun _ => 0))), (b2, .inl (cI, 6, .inl (fun _ => 0))), (b3, .inl (cI, 120, .inl (flA 120 (-1))))]) 36 3 [] K hs (by decide) rfl rfl km_X4_21 ⟨by decide, by decide, by decide, by decide⟩ (Nat.le_of_ble_eq_true rfl) dX4_init_33 rfl (fun hD => ?_)
  have K := Ok_w K hD
  refine g_order (ws' := [(h, .inr (4, [.ref b1, .ref b2, .ref b3, .int 0, .int 0, .int 0])), (b1, .inl (cI, 6, .inl (fun _ => 0))), (b2, .inl (cI, 6, .inl (fun _ => 0))), (b3, .inl (cI, 120, .inl (flA 120 (-1))))]) [0, 1, 2, 3] rfl ?_
  have K := Ok_w (ws' := [(h, .inr (4, [.ref b1, .ref b2, .ref b3, .int 0, .int 0, .int 0])), (b1, .inl (cI, 6, .inl (fun _ => 0))), (b2, .inl (cI, 6, .inl (fun _ => 0))), (b3, .inl (cI, 120, .inl (flA 120 (-1))))]) K ((K.2.2.2.2.2.2.1 S0).sub [0, 1, 2, 3] (by decide) rfl)
  exact g_vretI K hr hlk ⟨by decide, by decide⟩ ⟨b1, b2, b3, rfl⟩ dX4_init_36
set_option maxRecDepth 20000 in
set_option maxHeartbeats 4000000 in
theorem ci_X5 {l : Launch} {D : va_G} {cI cB cZ : ClassId} {adK adV : Nat → Nat} {h : Nat}  : Ci l yX5_init cX5_init 1 1 12 2 12 D (tyL cI cB cZ) (Fx adK adV) [.ref h] [(h, .inr (5, [.null, .null, .int 0, .int 0, .int 0, .int 0, .int 0, .int 0, .int 0, .int 0, .int 0, .int 0]))] (fun ws => ∃ b1 b2 : Nat, ws = [(h, .inr (5, [.ref b1, .ref b2, .int 0, .int (-1), .int (-1), .int 0, .int 0, .int 0, .int 0, .int 0, .int 0, .int 0])), (b1, .inl (cI, 6, .inl (fun _ => 0))), (b2, .inl (cI, 6, .inl (fun _ => 0)))]) := by
  refine ci_of (by decide) rfl (Nat.le_of_ble_eq_true rfl) [(0, .ref h)] rfl ?_
  intro p e s m args below meth c K hr hlk hin hs
  have K : Ok p s m args c cX5_init 1 RX5 D (tyL cI cB cZ) (Aw (cw [(h, .inr (5, [.null, .null, .int 0, .int 0, .int 0, .int 0, .int 0, .int 0, .int 0, .int 0, .int 0, .int 0]))]) s.heap.size) (cw [(h, .inr (5, [.null, .null, .int 0, .int 0, .int 0, .int 0, .int 0, .int 0, .int 0, .int 0, .int 0, .int 0]))]) := K
  refine g_aload_n 1 0 K dX5_init_0 rfl rfl rfl ?_
  refine g_objInit 4 K km_X5_3 ⟨by decide, Nat.le_of_ble_eq_true rfl⟩ dX5_init_1 rfl ?_
  refine g_aload_n 5 0 K dX5_init_4 rfl rfl rfl ?_
  refine g_bipush 7 6 K dX5_init_5 rfl (by decide) ?_
  refine g_newan (fun b1 => [(h, .inr (5, [.null, .null, .int 0, .int 0, .int 0, .int 0, .int 0, .int 0, .int 0, .int 0, .int 0, .int 0])), (b1, .inl (cI, 6, .inl (fun _ => 0)))]) 9 6 1 6 0 K rfl rfl (fun _ h => h) rfl ka_int (by decide) rfl (by decide) ⟨by decide, by decide, by decide, by decide⟩ dX5_init_7 rfl (fun _ => rfl) (fun b1 hD => ?_)
  have K := Ok_w K hD
  refine g_putFc (ty := .array .int) (ws' := [(h, .inr (5, [.ref b1, .null, .int 0, .int 0, .int 0, .int 0, .int 0, .int 0, .int 0, .int 0, .int 0, .int 0])), (b1, .inl (cI, 6, .inl (fun _ => 0)))]) 12 0 0 K hin hin_X5 rfl (by decide) rfl kf_X5_9 tyX5 tyX5_ok nmX5 rfl rfl rfl (by decide +kernel) rfl rfl (Nat.le_of_ble_eq_true rfl) rfl dX5_init_9 rfl (fun hD => ?_)
  have K := Ok_w K hD
  refine g_aload_n 13 0 K dX5_init_12 rfl rfl rfl ?_
  refine g_bipush 15 6 K dX5_init_13 rfl (by decide) ?_
  refine g_newan (fun b2 => [(h, .inr (5, [.ref b1, .null, .int 0, .int 0, .int 0, .int 0, .int 0, .int 0, .int 0, .int 0, .int 0, .int 0])), (b1, .inl (cI, 6, .inl (fun _ => 0))), (b2, .inl (cI, 6, .inl (fun _ => 0)))]) 17 6 2 12 0 K rfl rfl (fun _ h => h) rfl ka_int (by decide) rfl (by decide) ⟨by decide, by decide, by decide, by decide⟩ dX5_init_15 rfl (fun _ => rfl) (fun b2 hD => ?_)
  have K := Ok_w K hD
  refine g_putFc (ty := .array .int) (ws' := [(h, .inr (5, [.ref b1, .ref b2, .int 0, .int 0, .int 0, .int 0, .int 0, .int 0, .int 0, .int 0, .int 0, .int 0])), (b1, .inl (cI, 6, .inl (fun _ => 0))), (b2, .inl (cI, 6, .inl (fun _ => 0)))]) 20 0 1 K hin hin_X5 rfl (by decide) rfl kf_X5_15 tyX5 tyX5_ok nmX5 rfl rfl rfl (by decide +kernel) rfl rfl (Nat.le_of_ble_eq_true rfl) rfl dX5_init_17 rfl (fun hD => ?_)
  have K := Ok_w K hD
  refine g_aload_n 21 0 K dX5_init_20 rfl rfl rfl ?_
  refine g_iconst 22 (-1) K dX5_init_21 rfl (by decide) ?_
  refine g_putc (ty := .int) (ws' := [(h, .inr (5, [.ref b1, .ref b2, .int 0, .int (-1), .int 0, .int 0, .int 0, .int 0, .int 0, .int 0, .int 0, .int 0])), (b1, .inl (cI, 6, .inl (fun _ => 0))), (b2, .inl (cI, 6, .inl (fun _ => 0)))]) 25 0 3 K hin_X5 rfl (by decide) rfl kf_X5_18 tyX5 tyX5_ok nmX5 rfl rfl (by decide +kernel) rfl rfl (Nat.le_of_ble_eq_true rfl) rfl dX5_init_22 rfl (fun hD => ?_)
  have K := Ok_w K hD
  refine g_aload_n 26 0 K dX5_init_25 rfl rfl rfl ?_
  refine g_iconst 27 (-1) K dX5_init_26 rfl (by decide) ?_
  refine g_putc (ty := .int) (ws' := [(h, .inr (5, [.ref b1, .ref b2, .int 0, .int (-1), .int (-1), .int 0, .int 0, .int 0, .int 0, .int 0, .int 0, .int 0])), (b1, .inl (cI, 6, .inl (fun _ => 0))), (b2, .inl (cI, 6, .inl (fun _ => 0)))]) 30 0 4 K hin_X5 rfl (by decide) rfl kf_X5_22 tyX5 tyX5_ok nmX5 rfl rfl (by decide +kernel) rfl rfl (Nat.le_of_ble_eq_true rfl) rfl dX5_init_27 rfl (fun hD => ?_)
  have K := Ok_w K hD
  refine g_order (ws' := [(h, .inr (5, [.ref b1, .ref b2, .int 0, .int (-1), .int (-1), .int 0, .int 0, .int 0, .int 0, .int 0, .int 0, .int 0])), (b1, .inl (cI, 6, .inl (fun _ => 0))), (b2, .inl (cI, 6, .inl (fun _ => 0)))]) [0, 1, 2] rfl ?_
  have K := Ok_w (ws' := [(h, .inr (5, [.ref b1, .ref b2, .int 0, .int (-1), .int (-1), .int 0, .int 0, .int 0, .int 0, .int 0, .int 0, .int 0])), (b1, .inl (cI, 6, .inl (fun _ => 0))), (b2, .inl (cI, 6, .inl (fun _ => 0)))]) K ((K.2.2.2.2.2.2.1 S0).sub [0, 1, 2] (by decide) rfl)
  exact g_vretI K hr hlk ⟨by decide, by decide⟩ ⟨b1, b2, rfl⟩ dX5_init_30
