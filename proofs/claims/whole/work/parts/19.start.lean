theorem mw_L_cell : Dsc yL_cell RL 2 := ⟨rfl, by decide +kernel, by decide +kernel, by decide +kernel⟩
theorem k_arr {s : State} {args : Array Value} {ty : FieldType} (h : (Cond.arrayClass ty).before args s = true) (hra : ∀ c, s.vm.findClass ("[" ++ ty.toString) = some c → va_RA s c ty) : ∃ cA : ClassId, ArrOfT s cA ty ∧ va_RA s cA ty := by
  obtain ⟨cA, kA, comp, h1, h2, h3⟩ := Cond.arrayClass_spec h
  exact ⟨cA, fun n z => ⟨fun k h => (by cases h), kA, h2, comp, h3⟩, hra cA h1⟩
set_option maxRecDepth 20000 in
set_option maxHeartbeats 4000000 in
theorem start_K {s : State} {args : Array Value} (hts : ∀ x ∈ big, x.before args s = true) : ∃ (D : va_G) (cI cB cZ : ClassId), va_K D vwCl (tyL cI cB cZ) s := by
  obtain ⟨c0, i0, hn0⟩ := u_known (C := RX0) (T := TX0) (N := 12) (n := 12) hts hin_X0 (hts _ kn_X0)
  obtain ⟨c1, i1, hn1⟩ := u_known (C := RX1) (T := TX1) (N := 19) (n := 19) hts hin_X1 (hts _ kn_X1)
  obtain ⟨c2, i2, hn2⟩ := u_known (C := RX2) (T := TX2) (N := 6) (n := 6) hts hin_X2 (hts _ kn_X2)
  obtain ⟨c3, i3, hn3⟩ := u_known (C := RX3) (T := TX3) (N := 2) (n := 2) hts hin_X3 (hts _ kn_X3)
  obtain ⟨c4, i4, hn4⟩ := u_known (C := RX4) (T := TX4) (N := 6) (n := 6) hts hin_X4 (hts _ kn_X4)
  obtain ⟨c5, i5, hn5⟩ := u_known (C := RX5) (T := TX5) (N := 12) (n := 12) hts hin_X5 (hts _ kn_X5)
  obtain ⟨c6, i6, hn6⟩ := u_known (C := RX6) (T := TX6) (N := 6) (n := 6) hts hin_X6 (hts _ kn_X6)
  obtain ⟨c7, i7, hn7⟩ := u_known (C := RX7) (T := TX7) (N := 40) (n := 40) hts hin_X7 (hts _ kn_X7)
  obtain ⟨cI, hI1, hI2⟩ := k_arr (hts _ ka_int) (fun _ h => h)
  obtain ⟨cB, hB1, hB2⟩ := k_arr (hts _ ka_byte) (fun _ h => h)
  obtain ⟨cZ, hZ1, hZ2⟩ := k_arr (hts _ ka_boolean) (fun _ h => h)
  refine ⟨(fun k => if k = 0 then c0 else if k = 1 then c1 else if k = 2 then c2 else if k = 3 then c3 else if k = 4 then c4 else if k = 5 then c5 else if k = 6 then c6 else c7, fun k => if k = 0 then i0 else if k = 1 then i1 else if k = 2 then i2 else if k = 3 then i3 else if k = 4 then i4 else if k = 5 then i5 else if k = 6 then i6 else i7), cI, cB, cZ, ?_, ?_⟩
  · intro k x hx
    match k, hx with
    | 0, hx => cases hx; exact hn0
    | 1, hx => cases hx; exact hn1
    | 2, hx => cases hx; exact hn2
    | 3, hx => cases hx; exact hn3
    | 4, hx => cases hx; exact hn4
    | 5, hx => cases hx; exact hn5
    | 6, hx => cases hx; exact hn6
    | 7, hx => cases hx; exact hn7
    | k + 8, hx => simp [vwCl] at hx
  · intro k x hx
    match k, hx with
    | 0, hx => cases hx; exact ⟨hI1, hI2⟩
    | 1, hx => cases hx; exact ⟨hB1, hB2⟩
    | 2, hx => cases hx; exact ⟨hZ1, hZ2⟩
    | k + 3, hx => simp at hx
set_option maxRecDepth 20000 in
set_option maxHeartbeats 4000000 in
theorem start_F {s : State} {args : Array Value} (hts : ∀ x ∈ lw_tbl, x.before args s = true) (hgv : (Jvm.Cond.and given_1 narrow_1).before args s = true) : ∃ adK adV : Nat → Nat, Fx adK adV (fun x : Nat => s.heap.size ≤ x) s := by
  have hv := flat_of_before _ hgv
  have hA : ∀ a : Nat, a < s.heap.size → ¬ (fun x : Nat => s.heap.size ≤ x) a := fun a h => Nat.not_le.mpr h
  obtain ⟨adK, adV, hS, hE⟩ := vk_Sof (args := args) (s := s) (N := 2) (tm := fun i => if i = 0 then .string "BoatBridge$TollReader" 91 else .string "BoatBridge$TollReader" 97) (len := [4, 5]) (byt := [[116, 111, 108, 108], [97, 103, 97, 105, 110]]) (A := fun x : Nat => s.heap.size ≤ x) (by decide)
    (fun i hi => by rcases (show i = 0 ∨ i = 1 by omega) with rfl | rfl <;> exact hv _ (by decide +kernel))
    (fun i hi => by rcases (show i = 0 ∨ i = 1 by omega) with rfl | rfl <;> exact hv _ (by decide +kernel))
    (fun i hi => by rcases (show i = 0 ∨ i = 1 by omega) with rfl | rfl <;> exact hv _ (by decide +kernel))
    (fun i hi => by rcases (show i = 0 ∨ i = 1 by omega) with rfl | rfl <;> exact hv _ (by decide +kernel))
    (fun i hi j hj => by
      rcases (show i = 0 ∨ i = 1 by omega) with rfl | rfl
      · rcases (show j = 0 ∨ j = 1 ∨ j = 2 ∨ j = 3 by simp at hj; omega) with rfl | rfl | rfl | rfl <;> exact hv _ (by decide +kernel)
      · rcases (show j = 0 ∨ j = 1 ∨ j = 2 ∨ j = 3 ∨ j = 4 by simp at hj; omega) with rfl | rfl | rfl | rfl | rfl <;> exact hv _ (by decide +kernel))
    (fun i j hi hj hne => by
      rcases (show i = 0 ∨ i = 1 by omega) with rfl | rfl
      · rcases (show j = 0 ∨ j = 1 by omega) with rfl | rfl
        · exact absurd rfl hne
        · exact Or.inl (hv _ (by decide +kernel))
      · rcases (show j = 0 ∨ j = 1 by omega) with rfl | rfl
        · exact Or.inr (hv _ (by decide +kernel))
        · exact absurd rfl hne) hA
  have hR : ∀ (own tx : String) (k a : Nat), Cond.stringRef own k tx ∈ lw_tbl → (Term.string own k).eval args s none [] s = some (.ref a) → vk_R own k tx a s := fun own tx k a h1 h2 => by
    have h3 := vk_R.of (hts _ h1) h2
    exact h3
  refine ⟨adK, adV, ⟨va_Nw.of rfl (hts _ kN_X0_46), va_Nw.of rfl (hts _ kN_X1_75), va_Nw.of rfl (hts _ kN_X3_19), va_Nw.of rfl (hts _ kN_X5_123), va_Nw.of rfl (hts _ kN_X6_29), va_Nw.of rfl (hts _ kN_X6_43), va_Nw.of rfl (hts _ kN_X6_50)⟩, ⟨hR _ _ _ _ kR_X5_91 (hE 0 (by decide)), hR _ _ _ _ kR_X5_97 (hE 1 (by decide))⟩, hS, ?_, ?_⟩
  · exact va_Zof (hts _ kZ_J0_COMPACT_STRINGS) (hts _ (List.mem_filter.mp ki_J0).1) (va_eqi (hv _ (by decide +kernel))) hA
  · exact va_Zqof (hts _ kZ_J3_SIOOBE_FORMATTER) (hts _ (List.mem_filter.mp ki_J3).1) (hv _ (by decide +kernel)) hA
set_option maxRecDepth 20000 in
set_option maxHeartbeats 4000000 in
/-- the law from its entry, over any relation that holds at the start and that every call keeps -/
theorem whole_open {p : Program} {e : Env} {s : State} {m : MethodId} {below : List Frame} {meth : Method} {c : Code} (l : Launch) {b L : Nat} {xs : Nat → Int32} (hL : L ≤ 3073) (C0 : lw_At p s m meth c b L xs) {N : Nat} {Rl : Nat → St → St → Prop} (hinit : ∀ n, 1 ≤ n → n ≤ 12 → Rl n (SC0 n) (SM0 n)) (hall : SpAll N Rl) : W p l e room_1 s m #[Value.ref b] below meth c s.heap [] 0 0 (lw_Z below #[Value.ref b] s) (entryFrame m ([Value.ref b] : List Value).toArray 4) := by
  obtain ⟨hx, hb, hr, hml, hown, hts, hX, hbl, hlocks, hgv⟩ := C0
  have htb : ∀ x ∈ big, x.before #[Value.ref b] s = true := fun x h => hts x (List.mem_filter.mp h).1
  obtain ⟨D, cI, cB, cZ, hK⟩ := start_K htb
  obtain ⟨adK, adV, hs⟩ := start_F hts hgv
  have hbA : ¬ (fun x : Nat => s.heap.size ≤ x) b := Nat.not_le.mpr hbl
  have hD0 : va_D (fun x : Nat => s.heap.size ≤ x) [] := ⟨fun i j p q h => by simp at h, fun k q h => by simp at h⟩
  have K : Ok p s m #[Value.ref b] c code 4 RL D (tyL cI cB cZ) (fun x : Nat => s.heap.size ≤ x) (cw []) := ⟨hx, hb, hml, hown, htb, hK, fun _ => hD0, fun _ h => h, fun _ => rfl⟩
  have hFL : FL b L xs (fun x : Nat => s.heap.size ≤ x) s := ⟨hX, hbl, hbA⟩
  suffices hG : G p l e room_1 s m #[Value.ref b] below meth c 0 0 (lw_Z below #[Value.ref b] s) 4 D (fun x : Nat => s.heap.size ≤ x) (cw []) S0 0 [(0, .ref b)] [] by
    have hl := lv_entry ([.ref b]) (n := 4) (Nat.le_of_ble_eq_true rfl)
    rw [lg_entry_eq]
    exact hG s.heap [] _ (fun k q h => by simp at h) va_S.rf hl
  refine g_newon (fun x1 => [(x1, .inr (6, [.null, .null, .null, .null, .null, .null]))]) 3 1 6 K hin_X6 tyX6 tyX6_ok kq_L_7 kn_X6 ki_X6 rfl (by decide) ⟨by decide, by decide, by decide, by decide⟩ dL_law_0 rfl (fun _ => rfl) (fun x1 hD => ?_)
  have K := Ok_w K hD
  refine g_dup 4 K dL_law_3 rfl rfl ?_
  refine g_aload_n 5 0 K dL_law_4 rfl rfl rfl ?_
  refine g_iconst 6 0 K dL_law_5 rfl (by decide) ?_
  refine g_callSi 9 [.ref x1, .ref x1] K (FL_ok b L xs) hFL (c_cell (fun _ => rfl) hL) km_L_9 kt_L_cell ki_L kC_L_cell mw_L_cell ⟨by decide, by decide, by decide, by decide⟩ rfl rfl (Nat.le_of_ble_eq_true rfl) dL_law_6 rfl ?_
  refine g_ctorI (n := 1) (As := [.int (cel L xs)]) 12 33 8054 [] [.ref x1] (e0 := .inr (6, [.null, .null, .null, .null, .null, .null])) K (Fx_ok adK adV) hs ci_X6 km_L_15 kI_X6_init ki_X6 kC_X6_init rfl ⟨by decide +kernel, by decide +kernel, by decide +kernel⟩ ⟨by decide, by decide, by decide, by decide⟩ ⟨rfl, rfl⟩ rfl rfl (Nat.le_of_ble_eq_true rfl) dL_law_9 rfl (fun w1 hw1 hDn => ?_)
  obtain ⟨q, hq, rfl⟩ := hw1
  subst hq
  have hn := (clV_nI (cel L xs)).2
  generalize hne : clN (cel L xs) = n at hDn hn ⊢
  have hD1 : va_D (fun x : Nat => s.heap.size ≤ x) (wC q n cI cB cZ (SC0 n)) := hDn
  refine g_eqw (ws' := wC q n cI cB cZ (SC0 n)) rfl ?_
  have K : Ok p s m #[Value.ref b] c code 4 RL D (tyL cI cB cZ) (fun x : Nat => s.heap.size ≤ x) (cw (wC q n cI cB cZ (SC0 n))) := Ok_w K hD1
  refine g_astore_n (lv' := [(1, .ref (q 0)), (0, .ref b)]) 13 1 K dL_law_12 rfl rfl (by decide) rfl ?_
  refine g_newon (fun x2 => wC q n cI cB cZ (SC0 n) ++ [(x2, .inr (7, [.int 0, .null, .null, .null, .int 0, .null, .null, .int 0, .null, .int 0, .null, .null, .null, .null, .int 0, .int 0, .null, .int 0, .int 0, .int 0, .int 0, .int 0, .int 0, .int 0, .int 0, .int 0, .null, .null, .null, .null, .int 0, .int 0, .int 0, .null, .int 0, .int 0, .int 0, .null, .null, .null]))]) 16 34 8094 K hin_X7 tyX7 tyX7_ok kq_L_18 kn_X7 ki_X7 rfl (by decide) ⟨by decide, by decide, by decide, by decide⟩ dL_law_13 rfl (fun _ => rfl) (fun x2 hD => ?_)
  have K := Ok_w K hD
  refine g_dup 17 K dL_law_16 rfl rfl ?_
  refine g_aload_n 18 1 K dL_law_17 rfl rfl rfl ?_
  refine g_iconst 19 0 K dL_law_18 rfl (by decide) ?_
  refine g_callSi 22 [.ref x2, .ref x2] K (FL_ok b L xs) hFL (c_cell (fun _ => rfl) hL) km_L_9 kt_L_cell ki_L kC_L_cell mw_L_cell ⟨by decide, by decide, by decide, by decide⟩ rfl rfl (Nat.le_of_ble_eq_true rfl) dL_law_19 rfl ?_
  refine g_ctorI (R := room_1) (n := 1) (As := [.int (cel L xs)]) 25 53 12579 (wC q n cI cB cZ (SC0 n)) [.ref x2] (e0 := .inr (7, [.int 0, .null, .null, .null, .int 0, .null, .null, .int 0, .null, .int 0, .null, .null, .null, .null, .int 0, .int 0, .null, .int 0, .int 0, .int 0, .int 0, .int 0, .int 0, .int 0, .int 0, .int 0, .null, .null, .null, .null, .int 0, .int 0, .int 0, .null, .int 0, .int 0, .int 0, .null, .null, .null])) K (Fx_ok adK adV) hs ci_X7 km_L_20 kI_X7_init ki_X7 kC_X7_init rfl ⟨by decide +kernel, by decide +kernel, by decide +kernel⟩ ⟨by decide, by decide, by decide, by decide⟩ ⟨rfl, rfl⟩ rfl rfl (Nat.le_of_ble_eq_true rfl) dL_law_22 rfl (fun w1 hw1 hDn => ?_)
  rw [hne] at hw1
  obtain ⟨q', hq', rfl⟩ := hw1
  subst hq'
  have hD2 : va_D (fun x : Nat => s.heap.size ≤ x) (wL q q' n cI cB cZ (SC0 n) (SM0 n)) := hDn
  refine g_eqw (ws' := wL q q' n cI cB cZ (SC0 n) (SM0 n)) rfl ?_
  have K0 : Ok p s m #[Value.ref b] c code 4 RL D (tyL cI cB cZ) (fun x : Nat => s.heap.size ≤ x) (cw (wL q q' n cI cB cZ S0 S0)) := Ok_w K (D_wL hD2 S0 S0)
  have K : Ok p s m #[Value.ref b] c code 4 RL D (tyL cI cB cZ) (fun x : Nat => s.heap.size ≤ x) (cw (wL q q' n cI cB cZ (SC0 n) (SM0 n))) := Ok_w K hD2
  refine g_astore_n (lv' := [(2, .ref (q' 0)), (1, .ref (q 0)), (0, .ref b)]) 26 2 K dL_law_25 rfl rfl (by decide) rfl ?_
  refine g_iconst 27 1 K dL_law_26 rfl (by decide) ?_
  refine g_istore_n (lv' := [(3, .int 1), (2, .ref (q' 0)), (1, .ref (q 0)), (0, .ref b)]) 28 3 K dL_law_27 rfl rfl (by decide) rfl ?_
  refine g_sub [3, 2, 1, 0] rfl ?_
  exact law_loop (D_wL hD2) K0 hs hX hbl hL hx hb hr hlocks hall (L + 1) 1 _ _ (by omega) (by omega) (hinit n hn.1 hn.2)
