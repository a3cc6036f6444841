def Sp0 (fC fM : Nat → Nat → St → Option (Int32 × St)) (N : Nat) (Rl : Nat → St → St → Prop) : Prop := ∀ (n : Nat) (S T : St), Rl n S T → ∃ (r : Int32) (S2 T2 : St), fC N n S = some (r, S2) ∧ fM N n T = some (r, T2) ∧ Rl n S2 T2
def Sp1 (fC fM : Nat → Nat → St → Int32 → Option (Int32 × St)) (N : Nat) (Rl : Nat → St → St → Prop) : Prop := ∀ (n : Nat) (S T : St) (a1 : Int32), Rl n S T → ∃ (r : Int32) (S2 T2 : St), fC N n S a1 = some (r, S2) ∧ fM N n T a1 = some (r, T2) ∧ Rl n S2 T2
def Sp2 (fC fM : Nat → Nat → St → Int32 → Int32 → Option (Int32 × St)) (N : Nat) (Rl : Nat → St → St → Prop) : Prop := ∀ (n : Nat) (S T : St) (a1 : Int32) (a2 : Int32), Rl n S T → ∃ (r : Int32) (S2 T2 : St), fC N n S a1 a2 = some (r, S2) ∧ fM N n T a1 a2 = some (r, T2) ∧ Rl n S2 T2
def Sp3 (fC fM : Nat → Nat → St → Int32 → Int32 → Int32 → Option (Int32 × St)) (N : Nat) (Rl : Nat → St → St → Prop) : Prop := ∀ (n : Nat) (S T : St) (a1 : Int32) (a2 : Int32) (a3 : Int32), Rl n S T → ∃ (r : Int32) (S2 T2 : St), fC N n S a1 a2 a3 = some (r, S2) ∧ fM N n T a1 a2 a3 = some (r, T2) ∧ Rl n S2 T2
def Sp4 (fC fM : Nat → Nat → St → Int32 → Int32 → Int32 → Int32 → Option (Int32 × St)) (N : Nat) (Rl : Nat → St → St → Prop) : Prop := ∀ (n : Nat) (S T : St) (a1 : Int32) (a2 : Int32) (a3 : Int32) (a4 : Int32), Rl n S T → ∃ (r : Int32) (S2 T2 : St), fC N n S a1 a2 a3 a4 = some (r, S2) ∧ fM N n T a1 a2 a3 a4 = some (r, T2) ∧ Rl n S2 T2
def Sp5 (fC fM : Nat → Nat → St → Int32 → Int32 → Int32 → Int32 → Int32 → Option (Int32 × St)) (N : Nat) (Rl : Nat → St → St → Prop) : Prop := ∀ (n : Nat) (S T : St) (a1 : Int32) (a2 : Int32) (a3 : Int32) (a4 : Int32) (a5 : Int32), Rl n S T → ∃ (r : Int32) (S2 T2 : St), fC N n S a1 a2 a3 a4 a5 = some (r, S2) ∧ fM N n T a1 a2 a3 a4 a5 = some (r, T2) ∧ Rl n S2 T2
/-- every call of the one answers as the same call of the other, and the relation stays -/
def SpAll (N : Nat) (Rl : Nat → St → St → Prop) : Prop := Sp3 f_X6_hull f_X7_hull N Rl ∧ Sp2 f_X6_pull f_X7_pull N Rl ∧ Sp1 f_X6_drags f_X7_drags N Rl ∧ Sp2 f_X6_cart f_X7_cart N Rl ∧ Sp0 f_X6_clear f_X7_clear N Rl ∧ Sp2 f_X6_pressed f_X7_pressed N Rl ∧ Sp1 f_X6_worst f_X7_worst N Rl ∧ Sp0 f_X6_gap f_X7_gap N Rl ∧ Sp1 f_X6_ship f_X7_ship N Rl ∧ Sp1 f_X6_crosser f_X7_crosser N Rl ∧ Sp4 f_X6_times f_X7_times N Rl ∧ Sp0 f_X6_waits f_X7_waits N Rl ∧ Sp2 f_X6_opening f_X7_opening N Rl ∧ Sp0 f_X6_atOnce f_X7_atOnce N Rl ∧ Sp3 f_X6_level f_X7_level N Rl ∧ Sp2 f_X6_flood f_X7_flood N Rl ∧ Sp0 f_X6_out f_X7_out N Rl ∧ Sp2 f_X6_outOn f_X7_outOn N Rl ∧ Sp5 f_X6_feed f_X7_feed N Rl ∧ Sp1 f_X6_end f_X7_end N Rl ∧ Sp0 f_X6_tolls f_X7_tolls N Rl ∧ Sp1 f_X6_fault f_X7_fault N Rl ∧ Sp3 f_X6_pass f_X7_pass N Rl ∧ Sp1 f_X6_about f_X7_about N Rl
theorem law_sw {x : Int32} (h0 : ¬ x = 0) (h1 : ¬ x = 1) (h2 : ¬ x = 2) (h3 : ¬ x = 3) (h4 : ¬ x = 4) (h5 : ¬ x = 5) (h6 : ¬ x = 6) (h7 : ¬ x = 7) (h8 : ¬ x = 8) (h9 : ¬ x = 9) (h10 : ¬ x = 10) (h11 : ¬ x = 11) (h12 : ¬ x = 12) (h13 : ¬ x = 13) (h14 : ¬ x = 14) (h15 : ¬ x = 15) (h16 : ¬ x = 16) (h17 : ¬ x = 17) (h18 : ¬ x = 18) (h19 : ¬ x = 19) (h20 : ¬ x = 20) (h21 : ¬ x = 21) (h22 : ¬ x = 22) (h23 : ¬ x = 23) : x.toInt < 0 ∨ 23 < x.toInt := by
  have b0 := sw_ne (k := 0) h0 rfl
  have b1 := sw_ne (k := 1) h1 rfl
  have b2 := sw_ne (k := 2) h2 rfl
  have b3 := sw_ne (k := 3) h3 rfl
  have b4 := sw_ne (k := 4) h4 rfl
  have b5 := sw_ne (k := 5) h5 rfl
  have b6 := sw_ne (k := 6) h6 rfl
  have b7 := sw_ne (k := 7) h7 rfl
  have b8 := sw_ne (k := 8) h8 rfl
  have b9 := sw_ne (k := 9) h9 rfl
  have b10 := sw_ne (k := 10) h10 rfl
  have b11 := sw_ne (k := 11) h11 rfl
  have b12 := sw_ne (k := 12) h12 rfl
  have b13 := sw_ne (k := 13) h13 rfl
  have b14 := sw_ne (k := 14) h14 rfl
  have b15 := sw_ne (k := 15) h15 rfl
  have b16 := sw_ne (k := 16) h16 rfl
  have b17 := sw_ne (k := 17) h17 rfl
  have b18 := sw_ne (k := 18) h18 rfl
  have b19 := sw_ne (k := 19) h19 rfl
  have b20 := sw_ne (k := 20) h20 rfl
  have b21 := sw_ne (k := 21) h21 rfl
  have b22 := sw_ne (k := 22) h22 rfl
  have b23 := sw_ne (k := 23) h23 rfl
  omega
theorem vp_j {j k L : Nat} (h : j + 6 ≤ L) (hk : k < 6) (hL : L ≤ 3073) : vp_in (nI j + nI k) L := by rw [nI_add]; exact vp_in_nI (by omega) (by omega)
set_option maxRecDepth 20000 in
set_option maxHeartbeats 4000000 in
theorem law_hull {p : Program} {l : Launch} {e : Env} {s : State} {m : MethodId} {below : List Frame} {meth : Method} {c : Code} {D : va_G} {q q' : Nat → Nat} {n : Nat} {cI cB cZ : ClassId} {adK adV : Nat → Nat} {b L : Nat} {xs : Nat → Int32} {N : Nat} {Rl : Nat → St → St → Prop} (hD : ∀ S T, va_D (fun x : Nat => s.heap.size ≤ x) (wL q q' n cI cB cZ S T)) (K0 : Ok p s m #[Value.ref b] c code 4 RL D (tyL cI cB cZ) (fun x : Nat => s.heap.size ≤ x) (cw (wL q q' n cI cB cZ S0 S0))) (hs : Fx adK adV (fun x : Nat => s.heap.size ≤ x) s) (hX : va_X b L xs s s.heap) (hbl : b < s.heap.size) (hL : L ≤ 3073) {S T : St} {j : Nat} (hj : j + 6 ≤ L) (hst : Sp3 f_X6_hull f_X7_hull N Rl) (hRl : Rl n S T) (hnext : ∀ S T, Rl n S T → G p l e room_1 s m #[Value.ref b] below meth c 53 12579 (lw_Z below #[Value.ref b] s) 4 D (fun x : Nat => s.heap.size ≤ x) (cw (wL q q' n cI cB cZ S T)) S0 834 [(0, .ref b), (1, .ref (q 0)), (2, .ref (q' 0)), (3, .int (nI j))] []) : G p l e room_1 s m #[Value.ref b] below meth c 53 12579 (lw_Z below #[Value.ref b] s) 4 D (fun x : Nat => s.heap.size ≤ x) (cw (wL q q' n cI cB cZ S T)) S0 152 [(0, .ref b), (1, .ref (q 0)), (2, .ref (q' 0)), (3, .int (nI j))] [] := by
  obtain ⟨r, S2, T2, hc, hm, hR⟩ := hst n S T (xs (nI j + 1).toNatClampNeg) (xs (nI j + 2).toNatClampNeg) (xs (nI j + 3).toNatClampNeg) hRl
  have hbA : ¬ (fun x : Nat => s.heap.size ≤ x) b := Nat.not_le.mpr hbl
  have K : Ok p s m #[Value.ref b] c code 4 RL D (tyL cI cB cZ) (fun x : Nat => s.heap.size ≤ x) (cw (wL q q' n cI cB cZ S T)) := Ok_w K0 (hD S T)
  refine g_aload_n 153 1 K dL_law_152 rfl rfl rfl ?_
  refine g_aload_n 154 0 K dL_law_153 rfl rfl rfl ?_
  refine g_iload_n 155 3 K dL_law_154 rfl rfl rfl ?_
  refine g_iconst 156 1 K dL_law_155 rfl (by decide) ?_
  refine g_iadd 157 K dL_law_156 rfl ?_
  refine g_sld 158 K hX hbl hbA (vp_j (k := 1) hj (by decide) hL) dL_law_157 rfl ?_
  refine g_aload_n 159 0 K dL_law_158 rfl rfl rfl ?_
  refine g_iload_n 160 3 K dL_law_159 rfl rfl rfl ?_
  refine g_iconst 161 2 K dL_law_160 rfl (by decide) ?_
  refine g_iadd 162 K dL_law_161 rfl ?_
  refine g_sld 163 K hX hbl hbA (vp_j (k := 2) hj (by decide) hL) dL_law_162 rfl ?_
  refine g_aload_n 164 0 K dL_law_163 rfl rfl rfl ?_
  refine g_iload_n 165 3 K dL_law_164 rfl rfl rfl ?_
  refine g_iconst 166 3 K dL_law_165 rfl (by decide) ?_
  refine g_iadd 167 K dL_law_166 rfl ?_
  refine g_sld 168 K hX hbl hbA (vp_j (k := 3) hj (by decide) hL) dL_law_167 rfl ?_
  refine g_lawC 171 [] K hs (c_X6_hull hc) km_L_21 kI_X6_hull kS_X6_hull kC_X6_hull mw_X6_hull ⟨by decide, by decide, by decide, by decide⟩ rfl rfl (Nat.le_of_ble_eq_true rfl) dL_law_168 rfl ?_
  have K : Ok p s m #[Value.ref b] c code 4 RL D (tyL cI cB cZ) (fun x : Nat => s.heap.size ≤ x) (cw (wL q q' n cI cB cZ S2 T)) := Ok_w K0 (hD S2 T)
  refine g_aload_n 172 2 K dL_law_171 rfl rfl rfl ?_
  refine g_aload_n 173 0 K dL_law_172 rfl rfl rfl ?_
  refine g_iload_n 174 3 K dL_law_173 rfl rfl rfl ?_
  refine g_iconst 175 1 K dL_law_174 rfl (by decide) ?_
  refine g_iadd 176 K dL_law_175 rfl ?_
  refine g_sld 177 K hX hbl hbA (vp_j (k := 1) hj (by decide) hL) dL_law_176 rfl ?_
  refine g_aload_n 178 0 K dL_law_177 rfl rfl rfl ?_
  refine g_iload_n 179 3 K dL_law_178 rfl rfl rfl ?_
  refine g_iconst 180 2 K dL_law_179 rfl (by decide) ?_
  refine g_iadd 181 K dL_law_180 rfl ?_
  refine g_sld 182 K hX hbl hbA (vp_j (k := 2) hj (by decide) hL) dL_law_181 rfl ?_
  refine g_aload_n 183 0 K dL_law_182 rfl rfl rfl ?_
  refine g_iload_n 184 3 K dL_law_183 rfl rfl rfl ?_
  refine g_iconst 185 3 K dL_law_184 rfl (by decide) ?_
  refine g_iadd 186 K dL_law_185 rfl ?_
  refine g_sld 187 K hX hbl hbA (vp_j (k := 3) hj (by decide) hL) dL_law_186 rfl ?_
  refine g_lawM 190 [.int r] K hs (c_X7_hull hm) km_L_25 kI_X7_hull kS_X7_hull kC_X7_hull mw_X7_hull ⟨by decide, by decide, by decide, by decide⟩ rfl rfl (Nat.le_of_ble_eq_true rfl) dL_law_187 rfl ?_
  have K : Ok p s m #[Value.ref b] c code 4 RL D (tyL cI cB cZ) (fun x : Nat => s.heap.size ≤ x) (cw (wL q q' n cI cB cZ S2 T2)) := Ok_w K0 (hD S2 T2)
  refine h_icmp_eq 834 193 K dL_law_190 (by decide) rfl (fun _ => ?_) (fun h => absurd rfl h)
  exact hnext S2 T2 hR
set_option maxRecDepth 20000 in
set_option maxHeartbeats 4000000 in
theorem law_pull {p : Program} {l : Launch} {e : Env} {s : State} {m : MethodId} {below : List Frame} {meth : Method} {c : Code} {D : va_G} {q q' : Nat → Nat} {n : Nat} {cI cB cZ : ClassId} {adK adV : Nat → Nat} {b L : Nat} {xs : Nat → Int32} {N : Nat} {Rl : Nat → St → St → Prop} (hD : ∀ S T, va_D (fun x : Nat => s.heap.size ≤ x) (wL q q' n cI cB cZ S T)) (K0 : Ok p s m #[Value.ref b] c code 4 RL D (tyL cI cB cZ) (fun x : Nat => s.heap.size ≤ x) (cw (wL q q' n cI cB cZ S0 S0))) (hs : Fx adK adV (fun x : Nat => s.heap.size ≤ x) s) (hX : va_X b L xs s s.heap) (hbl : b < s.heap.size) (hL : L ≤ 3073) {S T : St} {j : Nat} (hj : j + 6 ≤ L) (hst : Sp2 f_X6_pull f_X7_pull N Rl) (hRl : Rl n S T) (hnext : ∀ S T, Rl n S T → G p l e room_1 s m #[Value.ref b] below meth c 53 12579 (lw_Z below #[Value.ref b] s) 4 D (fun x : Nat => s.heap.size ≤ x) (cw (wL q q' n cI cB cZ S T)) S0 834 [(0, .ref b), (1, .ref (q 0)), (2, .ref (q' 0)), (3, .int (nI j))] []) : G p l e room_1 s m #[Value.ref b] below meth c 53 12579 (lw_Z below #[Value.ref b] s) 4 D (fun x : Nat => s.heap.size ≤ x) (cw (wL q q' n cI cB cZ S T)) S0 195 [(0, .ref b), (1, .ref (q 0)), (2, .ref (q' 0)), (3, .int (nI j))] [] := by
  obtain ⟨r, S2, T2, hc, hm, hR⟩ := hst n S T (xs (nI j + 1).toNatClampNeg) (xs (nI j + 2).toNatClampNeg) hRl
  have hbA : ¬ (fun x : Nat => s.heap.size ≤ x) b := Nat.not_le.mpr hbl
  have K : Ok p s m #[Value.ref b] c code 4 RL D (tyL cI cB cZ) (fun x : Nat => s.heap.size ≤ x) (cw (wL q q' n cI cB cZ S T)) := Ok_w K0 (hD S T)
  refine g_aload_n 196 1 K dL_law_195 rfl rfl rfl ?_
  refine g_aload_n 197 0 K dL_law_196 rfl rfl rfl ?_
  refine g_iload_n 198 3 K dL_law_197 rfl rfl rfl ?_
  refine g_iconst 199 1 K dL_law_198 rfl (by decide) ?_
  refine g_iadd 200 K dL_law_199 rfl ?_
  refine g_sld 201 K hX hbl hbA (vp_j (k := 1) hj (by decide) hL) dL_law_200 rfl ?_
  refine g_aload_n 202 0 K dL_law_201 rfl rfl rfl ?_
  refine g_iload_n 203 3 K dL_law_202 rfl rfl rfl ?_
  refine g_iconst 204 2 K dL_law_203 rfl (by decide) ?_
  refine g_iadd 205 K dL_law_204 rfl ?_
  refine g_sld 206 K hX hbl hbA (vp_j (k := 2) hj (by decide) hL) dL_law_205 rfl ?_
  refine g_lawC 209 [] K hs (c_X6_pull hc) km_L_26 kI_X6_pull kS_X6_pull kC_X6_pull mw_X6_pull ⟨by decide, by decide, by decide, by decide⟩ rfl rfl (Nat.le_of_ble_eq_true rfl) dL_law_206 rfl ?_
  have K : Ok p s m #[Value.ref b] c code 4 RL D (tyL cI cB cZ) (fun x : Nat => s.heap.size ≤ x) (cw (wL q q' n cI cB cZ S2 T)) := Ok_w K0 (hD S2 T)
  refine g_aload_n 210 2 K dL_law_209 rfl rfl rfl ?_
  refine g_aload_n 211 0 K dL_law_210 rfl rfl rfl ?_
  refine g_iload_n 212 3 K dL_law_211 rfl rfl rfl ?_
  refine g_iconst 213 1 K dL_law_212 rfl (by decide) ?_
  refine g_iadd 214 K dL_law_213 rfl ?_
  refine g_sld 215 K hX hbl hbA (vp_j (k := 1) hj (by decide) hL) dL_law_214 rfl ?_
  refine g_aload_n 216 0 K dL_law_215 rfl rfl rfl ?_
  refine g_iload_n 217 3 K dL_law_216 rfl rfl rfl ?_
  refine g_iconst 218 2 K dL_law_217 rfl (by decide) ?_
  refine g_iadd 219 K dL_law_218 rfl ?_
  refine g_sld 220 K hX hbl hbA (vp_j (k := 2) hj (by decide) hL) dL_law_219 rfl ?_
  refine g_lawM 223 [.int r] K hs (c_X7_pull hm) km_L_30 kI_X7_pull kS_X7_pull kC_X7_pull mw_X7_pull ⟨by decide, by decide, by decide, by decide⟩ rfl rfl (Nat.le_of_ble_eq_true rfl) dL_law_220 rfl ?_
  have K : Ok p s m #[Value.ref b] c code 4 RL D (tyL cI cB cZ) (fun x : Nat => s.heap.size ≤ x) (cw (wL q q' n cI cB cZ S2 T2)) := Ok_w K0 (hD S2 T2)
  refine h_icmp_eq 834 226 K dL_law_223 (by decide) rfl (fun _ => ?_) (fun h => absurd rfl h)
  exact hnext S2 T2 hR
set_option maxRecDepth 20000 in
set_option maxHeartbeats 4000000 in
theorem law_drags {p : Program} {l : Launch} {e : Env} {s : State} {m : MethodId} {below : List Frame} {meth : Method} {c : Code} {D : va_G} {q q' : Nat → Nat} {n : Nat} {cI cB cZ : ClassId} {adK adV : Nat → Nat} {b L : Nat} {xs : Nat → Int32} {N : Nat} {Rl : Nat → St → St → Prop} (hD : ∀ S T, va_D (fun x : Nat => s.heap.size ≤ x) (wL q q' n cI cB cZ S T)) (K0 : Ok p s m #[Value.ref b] c code 4 RL D (tyL cI cB cZ) (fun x : Nat => s.heap.size ≤ x) (cw (wL q q' n cI cB cZ S0 S0))) (hs : Fx adK adV (fun x : Nat => s.heap.size ≤ x) s) (hX : va_X b L xs s s.heap) (hbl : b < s.heap.size) (hL : L ≤ 3073) {S T : St} {j : Nat} (hj : j + 6 ≤ L) (hst : Sp1 f_X6_drags f_X7_drags N Rl) (hRl : Rl n S T) (hnext : ∀ S T, Rl n S T → G p l e room_1 s m #[Value.ref b] below meth c 53 12579 (lw_Z below #[Value.ref b] s) 4 D (fun x : Nat => s.heap.size ≤ x) (cw (wL q q' n cI cB cZ S T)) S0 834 [(0, .ref b), (1, .ref (q 0)), (2, .ref (q' 0)), (3, .int (nI j))] []) : G p l e room_1 s m #[Value.ref b] below meth c 53 12579 (lw_Z below #[Value.ref b] s) 4 D (fun x : Nat => s.heap.size ≤ x) (cw (wL q q' n cI cB cZ S T)) S0 228 [(0, .ref b), (1, .ref (q 0)), (2, .ref (q' 0)), (3, .int (nI j))] [] := by
  obtain ⟨r, S2, T2, hc, hm, hR⟩ := hst n S T (xs (nI j + 1).toNatClampNeg) hRl
  have hbA : ¬ (fun x : Nat => s.heap.size ≤ x) b := Nat.not_le.mpr hbl
  have K : Ok p s m #[Value.ref b] c code 4 RL D (tyL cI cB cZ) (fun x : Nat => s.heap.size ≤ x) (cw (wL q q' n cI cB cZ S T)) := Ok_w K0 (hD S T)
  refine g_aload_n 229 1 K dL_law_228 rfl rfl rfl ?_
  refine g_aload_n 230 0 K dL_law_229 rfl rfl rfl ?_
  refine g_iload_n 231 3 K dL_law_230 rfl rfl rfl ?_
  refine g_iconst 232 1 K dL_law_231 rfl (by decide) ?_
  refine g_iadd 233 K dL_law_232 rfl ?_
  refine g_sld 234 K hX hbl hbA (vp_j (k := 1) hj (by decide) hL) dL_law_233 rfl ?_
  refine g_lawC 237 [] K hs (c_X6_drags hc) km_L_31 kI_X6_drags kS_X6_drags kC_X6_drags mw_X6_drags ⟨by decide, by decide, by decide, by decide⟩ rfl rfl (Nat.le_of_ble_eq_true rfl) dL_law_234 rfl ?_
  have K : Ok p s m #[Value.ref b] c code 4 RL D (tyL cI cB cZ) (fun x : Nat => s.heap.size ≤ x) (cw (wL q q' n cI cB cZ S2 T)) := Ok_w K0 (hD S2 T)
  refine g_aload_n 238 2 K dL_law_237 rfl rfl rfl ?_
  refine g_aload_n 239 0 K dL_law_238 rfl rfl rfl ?_
  refine g_iload_n 240 3 K dL_law_239 rfl rfl rfl ?_
  refine g_iconst 241 1 K dL_law_240 rfl (by decide) ?_
  refine g_iadd 242 K dL_law_241 rfl ?_
  refine g_sld 243 K hX hbl hbA (vp_j (k := 1) hj (by decide) hL) dL_law_242 rfl ?_
  refine g_lawM 246 [.int r] K hs (c_X7_drags hm) km_L_35 kI_X7_drags kS_X7_drags kC_X7_drags mw_X7_drags ⟨by decide, by decide, by decide, by decide⟩ rfl rfl (Nat.le_of_ble_eq_true rfl) dL_law_243 rfl ?_
  have K : Ok p s m #[Value.ref b] c code 4 RL D (tyL cI cB cZ) (fun x : Nat => s.heap.size ≤ x) (cw (wL q q' n cI cB cZ S2 T2)) := Ok_w K0 (hD S2 T2)
  refine h_icmp_eq 834 249 K dL_law_246 (by decide) rfl (fun _ => ?_) (fun h => absurd rfl h)
  exact hnext S2 T2 hR
set_option maxRecDepth 20000 in
set_option maxHeartbeats 4000000 in
theorem law_cart {p : Program} {l : Launch} {e : Env} {s : State} {m : MethodId} {below : List Frame} {meth : Method} {c : Code} {D : va_G} {q q' : Nat → Nat} {n : Nat} {cI cB cZ : ClassId} {adK adV : Nat → Nat} {b L : Nat} {xs : Nat → Int32} {N : Nat} {Rl : Nat → St → St → Prop} (hD : ∀ S T, va_D (fun x : Nat => s.heap.size ≤ x) (wL q q' n cI cB cZ S T)) (K0 : Ok p s m #[Value.ref b] c code 4 RL D (tyL cI cB cZ) (fun x : Nat => s.heap.size ≤ x) (cw (wL q q' n cI cB cZ S0 S0))) (hs : Fx adK adV (fun x : Nat => s.heap.size ≤ x) s) (hX : va_X b L xs s s.heap) (hbl : b < s.heap.size) (hL : L ≤ 3073) {S T : St} {j : Nat} (hj : j + 6 ≤ L) (hst : Sp2 f_X6_cart f_X7_cart N Rl) (hRl : Rl n S T) (hnext : ∀ S T, Rl n S T → G p l e room_1 s m #[Value.ref b] below meth c 53 12579 (lw_Z below #[Value.ref b] s) 4 D (fun x : Nat => s.heap.size ≤ x) (cw (wL q q' n cI cB cZ S T)) S0 834 [(0, .ref b), (1, .ref (q 0)), (2, .ref (q' 0)), (3, .int (nI j))] []) : G p l e room_1 s m #[Value.ref b] below meth c 53 12579 (lw_Z below #[Value.ref b] s) 4 D (fun x : Nat => s.heap.size ≤ x) (cw (wL q q' n cI cB cZ S T)) S0 251 [(0, .ref b), (1, .ref (q 0)), (2, .ref (q' 0)), (3, .int (nI j))] [] := by
  obtain ⟨r, S2, T2, hc, hm, hR⟩ := hst n S T (xs (nI j + 1).toNatClampNeg) (xs (nI j + 2).toNatClampNeg) hRl
  have hbA : ¬ (fun x : Nat => s.heap.size ≤ x) b := Nat.not_le.mpr hbl
  have K : Ok p s m #[Value.ref b] c code 4 RL D (tyL cI cB cZ) (fun x : Nat => s.heap.size ≤ x) (cw (wL q q' n cI cB cZ S T)) := Ok_w K0 (hD S T)
  refine g_aload_n 252 1 K dL_law_251 rfl rfl rfl ?_
  refine g_aload_n 253 0 K dL_law_252 rfl rfl rfl ?_
  refine g_iload_n 254 3 K dL_law_253 rfl rfl rfl ?_
  refine g_iconst 255 1 K dL_law_254 rfl (by decide) ?_
  refine g_iadd 256 K dL_law_255 rfl ?_
  refine g_sld 257 K hX hbl hbA (vp_j (k := 1) hj (by decide) hL) dL_law_256 rfl ?_
  refine g_aload_n 258 0 K dL_law_257 rfl rfl rfl ?_
  refine g_iload_n 259 3 K dL_law_258 rfl rfl rfl ?_
  refine g_iconst 260 2 K dL_law_259 rfl (by decide) ?_
  refine g_iadd 261 K dL_law_260 rfl ?_
  refine g_sld 262 K hX hbl hbA (vp_j (k := 2) hj (by decide) hL) dL_law_261 rfl ?_
  refine g_lawC 265 [] K hs (c_X6_cart hc) km_L_36 kI_X6_cart kS_X6_cart kC_X6_cart mw_X6_cart ⟨by decide, by decide, by decide, by decide⟩ rfl rfl (Nat.le_of_ble_eq_true rfl) dL_law_262 rfl ?_
  have K : Ok p s m #[Value.ref b] c code 4 RL D (tyL cI cB cZ) (fun x : Nat => s.heap.size ≤ x) (cw (wL q q' n cI cB cZ S2 T)) := Ok_w K0 (hD S2 T)
  refine g_aload_n 266 2 K dL_law_265 rfl rfl rfl ?_
  refine g_aload_n 267 0 K dL_law_266 rfl rfl rfl ?_
  refine g_iload_n 268 3 K dL_law_267 rfl rfl rfl ?_
  refine g_iconst 269 1 K dL_law_268 rfl (by decide) ?_
  refine g_iadd 270 K dL_law_269 rfl ?_
  refine g_sld 271 K hX hbl hbA (vp_j (k := 1) hj (by decide) hL) dL_law_270 rfl ?_
  refine g_aload_n 272 0 K dL_law_271 rfl rfl rfl ?_
  refine g_iload_n 273 3 K dL_law_272 rfl rfl rfl ?_
  refine g_iconst 274 2 K dL_law_273 rfl (by decide) ?_
  refine g_iadd 275 K dL_law_274 rfl ?_
  refine g_sld 276 K hX hbl hbA (vp_j (k := 2) hj (by decide) hL) dL_law_275 rfl ?_
  refine g_lawM 279 [.int r] K hs (c_X7_cart hm) km_L_40 kI_X7_cart kS_X7_cart kC_X7_cart mw_X7_cart ⟨by decide, by decide, by decide, by decide⟩ rfl rfl (Nat.le_of_ble_eq_true rfl) dL_law_276 rfl ?_
  have K : Ok p s m #[Value.ref b] c code 4 RL D (tyL cI cB cZ) (fun x : Nat => s.heap.size ≤ x) (cw (wL q q' n cI cB cZ S2 T2)) := Ok_w K0 (hD S2 T2)
  refine h_icmp_eq 834 282 K dL_law_279 (by decide) rfl (fun _ => ?_) (fun h => absurd rfl h)
  exact hnext S2 T2 hR
set_option maxRecDepth 20000 in
set_option maxHeartbeats 4000000 in
theorem law_clear {p : Program} {l : Launch} {e : Env} {s : State} {m : MethodId} {below : List Frame} {meth : Method} {c : Code} {D : va_G} {q q' : Nat → Nat} {n : Nat} {cI cB cZ : ClassId} {adK adV : Nat → Nat} {b L : Nat} {xs : Nat → Int32} {N : Nat} {Rl : Nat → St → St → Prop} (hD : ∀ S T, va_D (fun x : Nat => s.heap.size ≤ x) (wL q q' n cI cB cZ S T)) (K0 : Ok p s m #[Value.ref b] c code 4 RL D (tyL cI cB cZ) (fun x : Nat => s.heap.size ≤ x) (cw (wL q q' n cI cB cZ S0 S0))) (hs : Fx adK adV (fun x : Nat => s.heap.size ≤ x) s) (hX : va_X b L xs s s.heap) (hbl : b < s.heap.size) (hL : L ≤ 3073) {S T : St} {j : Nat} (hj : j + 6 ≤ L) (hst : Sp0 f_X6_clear f_X7_clear N Rl) (hRl : Rl n S T) (hnext : ∀ S T, Rl n S T → G p l e room_1 s m #[Value.ref b] below meth c 53 12579 (lw_Z below #[Value.ref b] s) 4 D (fun x : Nat => s.heap.size ≤ x) (cw (wL q q' n cI cB cZ S T)) S0 834 [(0, .ref b), (1, .ref (q 0)), (2, .ref (q' 0)), (3, .int (nI j))] []) : G p l e room_1 s m #[Value.ref b] below meth c 53 12579 (lw_Z below #[Value.ref b] s) 4 D (fun x : Nat => s.heap.size ≤ x) (cw (wL q q' n cI cB cZ S T)) S0 284 [(0, .ref b), (1, .ref (q 0)), (2, .ref (q' 0)), (3, .int (nI j))] [] := by
  obtain ⟨r, S2, T2, hc, hm, hR⟩ := hst n S T hRl
  have hbA : ¬ (fun x : Nat => s.heap.size ≤ x) b := Nat.not_le.mpr hbl
  have K : Ok p s m #[Value.ref b] c code 4 RL D (tyL cI cB cZ) (fun x : Nat => s.heap.size ≤ x) (cw (wL q q' n cI cB cZ S T)) := Ok_w K0 (hD S T)
  refine g_aload_n 285 1 K dL_law_284 rfl rfl rfl ?_
  refine g_lawC 288 [] K hs (c_X6_clear hc) km_L_41 kI_X6_clear kS_X6_clear kC_X6_clear mw_X6_clear ⟨by decide, by decide, by decide, by decide⟩ rfl rfl (Nat.le_of_ble_eq_true rfl) dL_law_285 rfl ?_
  have K : Ok p s m #[Value.ref b] c code 4 RL D (tyL cI cB cZ) (fun x : Nat => s.heap.size ≤ x) (cw (wL q q' n cI cB cZ S2 T)) := Ok_w K0 (hD S2 T)
  refine g_aload_n 289 2 K dL_law_288 rfl rfl rfl ?_
  refine g_lawM 292 [.int r] K hs (c_X7_clear hm) km_L_45 kI_X7_clear kS_X7_clear kC_X7_clear mw_X7_clear ⟨by decide, by decide, by decide, by decide⟩ rfl rfl (Nat.le_of_ble_eq_true rfl) dL_law_289 rfl ?_
  have K : Ok p s m #[Value.ref b] c code 4 RL D (tyL cI cB cZ) (fun x : Nat => s.heap.size ≤ x) (cw (wL q q' n cI cB cZ S2 T2)) := Ok_w K0 (hD S2 T2)
  refine h_icmp_eq 834 295 K dL_law_292 (by decide) rfl (fun _ => ?_) (fun h => absurd rfl h)
  exact hnext S2 T2 hR
set_option maxRecDepth 20000 in
set_option maxHeartbeats 4000000 in
theorem law_pressed {p : Program} {l : Launch} {e : Env} {s : State} {m : MethodId} {below : List Frame} {meth : Method} {c : Code} {D : va_G} {q q' : Nat → Nat} {n : Nat} {cI cB cZ : ClassId} {adK adV : Nat → Nat} {b L : Nat} {xs : Nat → Int32} {N : Nat} {Rl : Nat → St → St → Prop} (hD : ∀ S T, va_D (fun x : Nat => s.heap.size ≤ x) (wL q q' n cI cB cZ S T)) (K0 : Ok p s m #[Value.ref b] c code 4 RL D (tyL cI cB cZ) (fun x : Nat => s.heap.size ≤ x) (cw (wL q q' n cI cB cZ S0 S0))) (hs : Fx adK adV (fun x : Nat => s.heap.size ≤ x) s) (hX : va_X b L xs s s.heap) (hbl : b < s.heap.size) (hL : L ≤ 3073) {S T : St} {j : Nat} (hj : j + 6 ≤ L) (hst : Sp2 f_X6_pressed f_X7_pressed N Rl) (hRl : Rl n S T) (hnext : ∀ S T, Rl n S T → G p l e room_1 s m #[Value.ref b] below meth c 53 12579 (lw_Z below #[Value.ref b] s) 4 D (fun x : Nat => s.heap.size ≤ x) (cw (wL q q' n cI cB cZ S T)) S0 834 [(0, .ref b), (1, .ref (q 0)), (2, .ref (q' 0)), (3, .int (nI j))] []) : G p l e room_1 s m #[Value.ref b] below meth c 53 12579 (lw_Z below #[Value.ref b] s) 4 D (fun x : Nat => s.heap.size ≤ x) (cw (wL q q' n cI cB cZ S T)) S0 297 [(0, .ref b), (1, .ref (q 0)), (2, .ref (q' 0)), (3, .int (nI j))] [] := by
  obtain ⟨r, S2, T2, hc, hm, hR⟩ := hst n S T (xs (nI j + 1).toNatClampNeg) (xs (nI j + 2).toNatClampNeg) hRl
  have hbA : ¬ (fun x : Nat => s.heap.size ≤ x) b := Nat.not_le.mpr hbl
  have K : Ok p s m #[Value.ref b] c code 4 RL D (tyL cI cB cZ) (fun x : Nat => s.heap.size ≤ x) (cw (wL q q' n cI cB cZ S T)) := Ok_w K0 (hD S T)
  refine g_aload_n 298 1 K dL_law_297 rfl rfl rfl ?_
  refine g_aload_n 299 0 K dL_law_298 rfl rfl rfl ?_
  refine g_iload_n 300 3 K dL_law_299 rfl rfl rfl ?_
  refine g_iconst 301 1 K dL_law_300 rfl (by decide) ?_
  refine g_iadd 302 K dL_law_301 rfl ?_
  refine g_sld 303 K hX hbl hbA (vp_j (k := 1) hj (by decide) hL) dL_law_302 rfl ?_
  refine g_aload_n 304 0 K dL_law_303 rfl rfl rfl ?_
  refine g_iload_n 305 3 K dL_law_304 rfl rfl rfl ?_
  refine g_iconst 306 2 K dL_law_305 rfl (by decide) ?_
  refine g_iadd 307 K dL_law_306 rfl ?_
  refine g_sld 308 K hX hbl hbA (vp_j (k := 2) hj (by decide) hL) dL_law_307 rfl ?_
  refine g_lawC 311 [] K hs (c_X6_pressed hc) km_L_46 kI_X6_pressed kS_X6_pressed kC_X6_pressed mw_X6_pressed ⟨by decide, by decide, by decide, by decide⟩ rfl rfl (Nat.le_of_ble_eq_true rfl) dL_law_308 rfl ?_
  have K : Ok p s m #[Value.ref b] c code 4 RL D (tyL cI cB cZ) (fun x : Nat => s.heap.size ≤ x) (cw (wL q q' n cI cB cZ S2 T)) := Ok_w K0 (hD S2 T)
  refine g_aload_n 312 2 K dL_law_311 rfl rfl rfl ?_
  refine g_aload_n 313 0 K dL_law_312 rfl rfl rfl ?_
  refine g_iload_n 314 3 K dL_law_313 rfl rfl rfl ?_
  refine g_iconst 315 1 K dL_law_314 rfl (by decide) ?_
  refine g_iadd 316 K dL_law_315 rfl ?_
  refine g_sld 317 K hX hbl hbA (vp_j (k := 1) hj (by decide) hL) dL_law_316 rfl ?_
  refine g_aload_n 318 0 K dL_law_317 rfl rfl rfl ?_
  refine g_iload_n 319 3 K dL_law_318 rfl rfl rfl ?_
  refine g_iconst 320 2 K dL_law_319 rfl (by decide) ?_
  refine g_iadd 321 K dL_law_320 rfl ?_
  refine g_sld 322 K hX hbl hbA (vp_j (k := 2) hj (by decide) hL) dL_law_321 rfl ?_
  refine g_lawM 325 [.int r] K hs (c_X7_pressed hm) km_L_49 kI_X7_pressed kS_X7_pressed kC_X7_pressed mw_X7_pressed ⟨by decide, by decide, by decide, by decide⟩ rfl rfl (Nat.le_of_ble_eq_true rfl) dL_law_322 rfl ?_
  have K : Ok p s m #[Value.ref b] c code 4 RL D (tyL cI cB cZ) (fun x : Nat => s.heap.size ≤ x) (cw (wL q q' n cI cB cZ S2 T2)) := Ok_w K0 (hD S2 T2)
  refine h_icmp_eq 834 328 K dL_law_325 (by decide) rfl (fun _ => ?_) (fun h => absurd rfl h)
  exact hnext S2 T2 hR
set_option maxRecDepth 20000 in
set_option maxHeartbeats 4000000 in
theorem law_worst {p : Program} {l : Launch} {e : Env} {s : State} {m : MethodId} {below : List Frame} {meth : Method} {c : Code} {D : va_G} {q q' : Nat → Nat} {n : Nat} {cI cB cZ : ClassId} {adK adV : Nat → Nat} {b L : Nat} {xs : Nat → Int32} {N : Nat} {Rl : Nat → St → St → Prop} (hD : ∀ S T, va_D (fun x : Nat => s.heap.size ≤ x) (wL q q' n cI cB cZ S T)) (K0 : Ok p s m #[Value.ref b] c code 4 RL D (tyL cI cB cZ) (fun x : Nat => s.heap.size ≤ x) (cw (wL q q' n cI cB cZ S0 S0))) (hs : Fx adK adV (fun x : Nat => s.heap.size ≤ x) s) (hX : va_X b L xs s s.heap) (hbl : b < s.heap.size) (hL : L ≤ 3073) {S T : St} {j : Nat} (hj : j + 6 ≤ L) (hst : Sp1 f_X6_worst f_X7_worst N Rl) (hRl : Rl n S T) (hnext : ∀ S T, Rl n S T → G p l e room_1 s m #[Value.ref b] below meth c 53 12579 (lw_Z below #[Value.ref b] s) 4 D (fun x : Nat => s.heap.size ≤ x) (cw (wL q q' n cI cB cZ S T)) S0 834 [(0, .ref b), (1, .ref (q 0)), (2, .ref (q' 0)), (3, .int (nI j))] []) : G p l e room_1 s m #[Value.ref b] below meth c 53 12579 (lw_Z below #[Value.ref b] s) 4 D (fun x : Nat => s.heap.size ≤ x) (cw (wL q q' n cI cB cZ S T)) S0 330 [(0, .ref b), (1, .ref (q 0)), (2, .ref (q' 0)), (3, .int (nI j))] [] := by
  obtain ⟨r, S2, T2, hc, hm, hR⟩ := hst n S T (xs (nI j + 1).toNatClampNeg) hRl
  have hbA : ¬ (fun x : Nat => s.heap.size ≤ x) b := Nat.not_le.mpr hbl
  have K : Ok p s m #[Value.ref b] c code 4 RL D (tyL cI cB cZ) (fun x : Nat => s.heap.size ≤ x) (cw (wL q q' n cI cB cZ S T)) := Ok_w K0 (hD S T)
  refine g_aload_n 331 1 K dL_law_330 rfl rfl rfl ?_
  refine g_aload_n 332 0 K dL_law_331 rfl rfl rfl ?_
  refine g_iload_n 333 3 K dL_law_332 rfl rfl rfl ?_
  refine g_iconst 334 1 K dL_law_333 rfl (by decide) ?_
  refine g_iadd 335 K dL_law_334 rfl ?_
  refine g_sld 336 K hX hbl hbA (vp_j (k := 1) hj (by decide) hL) dL_law_335 rfl ?_
  refine g_lawC 339 [] K hs (c_X6_worst hc) km_L_50 kI_X6_worst kS_X6_worst kC_X6_worst mw_X6_worst ⟨by decide, by decide, by decide, by decide⟩ rfl rfl (Nat.le_of_ble_eq_true rfl) dL_law_336 rfl ?_
  have K : Ok p s m #[Value.ref b] c code 4 RL D (tyL cI cB cZ) (fun x : Nat => s.heap.size ≤ x) (cw (wL q q' n cI cB cZ S2 T)) := Ok_w K0 (hD S2 T)
  refine g_aload_n 340 2 K dL_law_339 rfl rfl rfl ?_
  refine g_aload_n 341 0 K dL_law_340 rfl rfl rfl ?_
  refine g_iload_n 342 3 K dL_law_341 rfl rfl rfl ?_
  refine g_iconst 343 1 K dL_law_342 rfl (by decide) ?_
  refine g_iadd 344 K dL_law_343 rfl ?_
  refine g_sld 345 K hX hbl hbA (vp_j (k := 1) hj (by decide) hL) dL_law_344 rfl ?_
  refine g_lawM 348 [.int r] K hs (c_X7_worst hm) km_L_53 kI_X7_worst kS_X7_worst kC_X7_worst mw_X7_worst ⟨by decide, by decide, by decide, by decide⟩ rfl rfl (Nat.le_of_ble_eq_true rfl) dL_law_345 rfl ?_
  have K : Ok p s m #[Value.ref b] c code 4 RL D (tyL cI cB cZ) (fun x : Nat => s.heap.size ≤ x) (cw (wL q q' n cI cB cZ S2 T2)) := Ok_w K0 (hD S2 T2)
  refine h_icmp_eq 834 351 K dL_law_348 (by decide) rfl (fun _ => ?_) (fun h => absurd rfl h)
  exact hnext S2 T2 hR
set_option maxRecDepth 20000 in
set_option maxHeartbeats 4000000 in
theorem law_gap {p : Program} {l : Launch} {e : Env} {s : State} {m : MethodId} {below : List Frame} {meth : Method} {c : Code} {D : va_G} {q q' : Nat → Nat} {n : Nat} {cI cB cZ : ClassId} {adK adV : Nat → Nat} {b L : Nat} {xs : Nat → Int32} {N : Nat} {Rl : Nat → St → St → Prop} (hD : ∀ S T, va_D (fun x : Nat => s.heap.size ≤ x) (wL q q' n cI cB cZ S T)) (K0 : Ok p s m #[Value.ref b] c code 4 RL D (tyL cI cB cZ) (fun x : Nat => s.heap.size ≤ x) (cw (wL q q' n cI cB cZ S0 S0))) (hs : Fx adK adV (fun x : Nat => s.heap.size ≤ x) s) (hX : va_X b L xs s s.heap) (hbl : b < s.heap.size) (hL : L ≤ 3073) {S T : St} {j : Nat} (hj : j + 6 ≤ L) (hst : Sp0 f_X6_gap f_X7_gap N Rl) (hRl : Rl n S T) (hnext : ∀ S T, Rl n S T → G p l e room_1 s m #[Value.ref b] below meth c 53 12579 (lw_Z below #[Value.ref b] s) 4 D (fun x : Nat => s.heap.size ≤ x) (cw (wL q q' n cI cB cZ S T)) S0 834 [(0, .ref b), (1, .ref (q 0)), (2, .ref (q' 0)), (3, .int (nI j))] []) : G p l e room_1 s m #[Value.ref b] below meth c 53 12579 (lw_Z below #[Value.ref b] s) 4 D (fun x : Nat => s.heap.size ≤ x) (cw (wL q q' n cI cB cZ S T)) S0 353 [(0, .ref b), (1, .ref (q 0)), (2, .ref (q' 0)), (3, .int (nI j))] [] := by
  obtain ⟨r, S2, T2, hc, hm, hR⟩ := hst n S T hRl
  have hbA : ¬ (fun x : Nat => s.heap.size ≤ x) b := Nat.not_le.mpr hbl
  have K : Ok p s m #[Value.ref b] c code 4 RL D (tyL cI cB cZ) (fun x : Nat => s.heap.size ≤ x) (cw (wL q q' n cI cB cZ S T)) := Ok_w K0 (hD S T)
  refine g_aload_n 354 1 K dL_law_353 rfl rfl rfl ?_
  refine g_lawC 357 [] K hs (c_X6_gap hc) km_L_54 kI_X6_gap kS_X6_gap kC_X6_gap mw_X6_gap ⟨by decide, by decide, by decide, by decide⟩ rfl rfl (Nat.le_of_ble_eq_true rfl) dL_law_354 rfl ?_
  have K : Ok p s m #[Value.ref b] c code 4 RL D (tyL cI cB cZ) (fun x : Nat => s.heap.size ≤ x) (cw (wL q q' n cI cB cZ S2 T)) := Ok_w K0 (hD S2 T)
  refine g_aload_n 358 2 K dL_law_357 rfl rfl rfl ?_
  refine g_lawM 361 [.int r] K hs (c_X7_gap hm) km_L_57 kI_X7_gap kS_X7_gap kC_X7_gap mw_X7_gap ⟨by decide, by decide, by decide, by decide⟩ rfl rfl (Nat.le_of_ble_eq_true rfl) dL_law_358 rfl ?_
  have K : Ok p s m #[Value.ref b] c code 4 RL D (tyL cI cB cZ) (fun x : Nat => s.heap.size ≤ x) (cw (wL q q' n cI cB cZ S2 T2)) := Ok_w K0 (hD S2 T2)
  refine h_icmp_eq 834 364 K dL_law_361 (by decide) rfl (fun _ => ?_) (fun h => absurd rfl h)
  exact hnext S2 T2 hR
set_option maxRecDepth 20000 in
set_option maxHeartbeats 4000000 in
theorem law_ship {p : Program} {l : Launch} {e : Env} {s : State} {m : MethodId} {below : List Frame} {meth : Method} {c : Code} {D : va_G} {q q' : Nat → Nat} {n : Nat} {cI cB cZ : ClassId} {adK adV : Nat → Nat} {b L : Nat} {xs : Nat → Int32} {N : Nat} {Rl : Nat → St → St → Prop} (hD : ∀ S T, va_D (fun x : Nat => s.heap.size ≤ x) (wL q q' n cI cB cZ S T)) (K0 : Ok p s m #[Value.ref b] c code 4 RL D (tyL cI cB cZ) (fun x : Nat => s.heap.size ≤ x) (cw (wL q q' n cI cB cZ S0 S0))) (hs : Fx adK adV (fun x : Nat => s.heap.size ≤ x) s) (hX : va_X b L xs s s.heap) (hbl : b < s.heap.size) (hL : L ≤ 3073) {S T : St} {j : Nat} (hj : j + 6 ≤ L) (hst : Sp1 f_X6_ship f_X7_ship N Rl) (hRl : Rl n S T) (hnext : ∀ S T, Rl n S T → G p l e room_1 s m #[Value.ref b] below meth c 53 12579 (lw_Z below #[Value.ref b] s) 4 D (fun x : Nat => s.heap.size ≤ x) (cw (wL q q' n cI cB cZ S T)) S0 834 [(0, .ref b), (1, .ref (q 0)), (2, .ref (q' 0)), (3, .int (nI j))] []) : G p l e room_1 s m #[Value.ref b] below meth c 53 12579 (lw_Z below #[Value.ref b] s) 4 D (fun x : Nat => s.heap.size ≤ x) (cw (wL q q' n cI cB cZ S T)) S0 366 [(0, .ref b), (1, .ref (q 0)), (2, .ref (q' 0)), (3, .int (nI j))] [] := by
  obtain ⟨r, S2, T2, hc, hm, hR⟩ := hst n S T (xs (nI j + 1).toNatClampNeg) hRl
  have hbA : ¬ (fun x : Nat => s.heap.size ≤ x) b := Nat.not_le.mpr hbl
  have K : Ok p s m #[Value.ref b] c code 4 RL D (tyL cI cB cZ) (fun x : Nat => s.heap.size ≤ x) (cw (wL q q' n cI cB cZ S T)) := Ok_w K0 (hD S T)
  refine g_aload_n 367 1 K dL_law_366 rfl rfl rfl ?_
  refine g_aload_n 368 0 K dL_law_367 rfl rfl rfl ?_
  refine g_iload_n 369 3 K dL_law_368 rfl rfl rfl ?_
  refine g_iconst 370 1 K dL_law_369 rfl (by decide) ?_
  refine g_iadd 371 K dL_law_370 rfl ?_
  refine g_sld 372 K hX hbl hbA (vp_j (k := 1) hj (by decide) hL) dL_law_371 rfl ?_
  refine g_lawC 375 [] K hs (c_X6_ship hc) km_L_58 kI_X6_ship kS_X6_ship kC_X6_ship mw_X6_ship ⟨by decide, by decide, by decide, by decide⟩ rfl rfl (Nat.le_of_ble_eq_true rfl) dL_law_372 rfl ?_
  have K : Ok p s m #[Value.ref b] c code 4 RL D (tyL cI cB cZ) (fun x : Nat => s.heap.size ≤ x) (cw (wL q q' n cI cB cZ S2 T)) := Ok_w K0 (hD S2 T)
  refine g_aload_n 376 2 K dL_law_375 rfl rfl rfl ?_
  refine g_aload_n 377 0 K dL_law_376 rfl rfl rfl ?_
  refine g_iload_n 378 3 K dL_law_377 rfl rfl rfl ?_
  refine g_iconst 379 1 K dL_law_378 rfl (by decide) ?_
  refine g_iadd 380 K dL_law_379 rfl ?_
  refine g_sld 381 K hX hbl hbA (vp_j (k := 1) hj (by decide) hL) dL_law_380 rfl ?_
  refine g_lawM 384 [.int r] K hs (c_X7_ship hm) km_L_61 kI_X7_ship kS_X7_ship kC_X7_ship mw_X7_ship ⟨by decide, by decide, by decide, by decide⟩ rfl rfl (Nat.le_of_ble_eq_true rfl) dL_law_381 rfl ?_
  have K : Ok p s m #[Value.ref b] c code 4 RL D (tyL cI cB cZ) (fun x : Nat => s.heap.size ≤ x) (cw (wL q q' n cI cB cZ S2 T2)) := Ok_w K0 (hD S2 T2)
  refine h_icmp_eq 834 387 K dL_law_384 (by decide) rfl (fun _ => ?_) (fun h => absurd rfl h)
  exact hnext S2 T2 hR
set_option maxRecDepth 20000 in
set_option maxHeartbeats 4000000 in
theorem law_crosser {p : Program} {l : Launch} {e : Env} {s : State} {m : MethodId} {below : List Frame} {meth : Method} {c : Code} {D : va_G} {q q' : Nat → Nat} {n : Nat} {cI cB cZ : ClassId} {adK adV : Nat → Nat} {b L : Nat} {xs : Nat → Int32} {N : Nat} {Rl : Nat → St → St → Prop} (hD : ∀ S T, va_D (fun x : Nat => s.heap.size ≤ x) (wL q q' n cI cB cZ S T)) (K0 : Ok p s m #[Value.ref b] c code 4 RL D (tyL cI cB cZ) (fun x : Nat => s.heap.size ≤ x) (cw (wL q q' n cI cB cZ S0 S0))) (hs : Fx adK adV (fun x : Nat => s.heap.size ≤ x) s) (hX : va_X b L xs s s.heap) (hbl : b < s.heap.size) (hL : L ≤ 3073) {S T : St} {j : Nat} (hj : j + 6 ≤ L) (hst : Sp1 f_X6_crosser f_X7_crosser N Rl) (hRl : Rl n S T) (hnext : ∀ S T, Rl n S T → G p l e room_1 s m #[Value.ref b] below meth c 53 12579 (lw_Z below #[Value.ref b] s) 4 D (fun x : Nat => s.heap.size ≤ x) (cw (wL q q' n cI cB cZ S T)) S0 834 [(0, .ref b), (1, .ref (q 0)), (2, .ref (q' 0)), (3, .int (nI j))] []) : G p l e room_1 s m #[Value.ref b] below meth c 53 12579 (lw_Z below #[Value.ref b] s) 4 D (fun x : Nat => s.heap.size ≤ x) (cw (wL q q' n cI cB cZ S T)) S0 389 [(0, .ref b), (1, .ref (q 0)), (2, .ref (q' 0)), (3, .int (nI j))] [] := by
  obtain ⟨r, S2, T2, hc, hm, hR⟩ := hst n S T (xs (nI j + 1).toNatClampNeg) hRl
  have hbA : ¬ (fun x : Nat => s.heap.size ≤ x) b := Nat.not_le.mpr hbl
  have K : Ok p s m #[Value.ref b] c code 4 RL D (tyL cI cB cZ) (fun x : Nat => s.heap.size ≤ x) (cw (wL q q' n cI cB cZ S T)) := Ok_w K0 (hD S T)
  refine g_aload_n 390 1 K dL_law_389 rfl rfl rfl ?_
  refine g_aload_n 391 0 K dL_law_390 rfl rfl rfl ?_
  refine g_iload_n 392 3 K dL_law_391 rfl rfl rfl ?_
  refine g_iconst 393 1 K dL_law_392 rfl (by decide) ?_
  refine g_iadd 394 K dL_law_393 rfl ?_
  refine g_sld 395 K hX hbl hbA (vp_j (k := 1) hj (by decide) hL) dL_law_394 rfl ?_
  refine g_lawC 398 [] K hs (c_X6_crosser hc) km_L_62 kI_X6_crosser kS_X6_crosser kC_X6_crosser mw_X6_crosser ⟨by decide, by decide, by decide, by decide⟩ rfl rfl (Nat.le_of_ble_eq_true rfl) dL_law_395 rfl ?_
  have K : Ok p s m #[Value.ref b] c code 4 RL D (tyL cI cB cZ) (fun x : Nat => s.heap.size ≤ x) (cw (wL q q' n cI cB cZ S2 T)) := Ok_w K0 (hD S2 T)
  refine g_aload_n 399 2 K dL_law_398 rfl rfl rfl ?_
  refine g_aload_n 400 0 K dL_law_399 rfl rfl rfl ?_
  refine g_iload_n 401 3 K dL_law_400 rfl rfl rfl ?_
  refine g_iconst 402 1 K dL_law_401 rfl (by decide) ?_
  refine g_iadd 403 K dL_law_402 rfl ?_
  refine g_sld 404 K hX hbl hbA (vp_j (k := 1) hj (by decide) hL) dL_law_403 rfl ?_
  refine g_lawM 407 [.int r] K hs (c_X7_crosser hm) km_L_65 kI_X7_crosser kS_X7_crosser kC_X7_crosser mw_X7_crosser ⟨by decide, by decide, by decide, by decide⟩ rfl rfl (Nat.le_of_ble_eq_true rfl) dL_law_404 rfl ?_
  have K : Ok p s m #[Value.ref b] c code 4 RL D (tyL cI cB cZ) (fun x : Nat => s.heap.size ≤ x) (cw (wL q q' n cI cB cZ S2 T2)) := Ok_w K0 (hD S2 T2)
  refine h_icmp_eq 834 410 K dL_law_407 (by decide) rfl (fun _ => ?_) (fun h => absurd rfl h)
  exact hnext S2 T2 hR
set_option maxRecDepth 20000 in
set_option maxHeartbeats 4000000 in
theorem law_times {p : Program} {l : Launch} {e : Env} {s : State} {m : MethodId} {below : List Frame} {meth : Method} {c : Code} {D : va_G} {q q' : Nat → Nat} {n : Nat} {cI cB cZ : ClassId} {adK adV : Nat → Nat} {b L : Nat} {xs : Nat → Int32} {N : Nat} {Rl : Nat → St → St → Prop} (hD : ∀ S T, va_D (fun x : Nat => s.heap.size ≤ x) (wL q q' n cI cB cZ S T)) (K0 : Ok p s m #[Value.ref b] c code 4 RL D (tyL cI cB cZ) (fun x : Nat => s.heap.size ≤ x) (cw (wL q q' n cI cB cZ S0 S0))) (hs : Fx adK adV (fun x : Nat => s.heap.size ≤ x) s) (hX : va_X b L xs s s.heap) (hbl : b < s.heap.size) (hL : L ≤ 3073) {S T : St} {j : Nat} (hj : j + 6 ≤ L) (hst : Sp4 f_X6_times f_X7_times N Rl) (hRl : Rl n S T) (hnext : ∀ S T, Rl n S T → G p l e room_1 s m #[Value.ref b] below meth c 53 12579 (lw_Z below #[Value.ref b] s) 4 D (fun x : Nat => s.heap.size ≤ x) (cw (wL q q' n cI cB cZ S T)) S0 834 [(0, .ref b), (1, .ref (q 0)), (2, .ref (q' 0)), (3, .int (nI j))] []) : G p l e room_1 s m #[Value.ref b] below meth c 53 12579 (lw_Z below #[Value.ref b] s) 4 D (fun x : Nat => s.heap.size ≤ x) (cw (wL q q' n cI cB cZ S T)) S0 412 [(0, .ref b), (1, .ref (q 0)), (2, .ref (q' 0)), (3, .int (nI j))] [] := by
  obtain ⟨r, S2, T2, hc, hm, hR⟩ := hst n S T (xs (nI j + 1).toNatClampNeg) (xs (nI j + 2).toNatClampNeg) (xs (nI j + 3).toNatClampNeg) (xs (nI j + 4).toNatClampNeg) hRl
  have hbA : ¬ (fun x : Nat => s.heap.size ≤ x) b := Nat.not_le.mpr hbl
  have K : Ok p s m #[Value.ref b] c code 4 RL D (tyL cI cB cZ) (fun x : Nat => s.heap.size ≤ x) (cw (wL q q' n cI cB cZ S T)) := Ok_w K0 (hD S T)
  refine g_aload_n 413 1 K dL_law_412 rfl rfl rfl ?_
  refine g_aload_n 414 0 K dL_law_413 rfl rfl rfl ?_
  refine g_iload_n 415 3 K dL_law_414 rfl rfl rfl ?_
  refine g_iconst 416 1 K dL_law_415 rfl (by decide) ?_
  refine g_iadd 417 K dL_law_416 rfl ?_
  refine g_sld 418 K hX hbl hbA (vp_j (k := 1) hj (by decide) hL) dL_law_417 rfl ?_
  refine g_aload_n 419 0 K dL_law_418 rfl rfl rfl ?_
  refine g_iload_n 420 3 K dL_law_419 rfl rfl rfl ?_
  refine g_iconst 421 2 K dL_law_420 rfl (by decide) ?_
  refine g_iadd 422 K dL_law_421 rfl ?_
  refine g_sld 423 K hX hbl hbA (vp_j (k := 2) hj (by decide) hL) dL_law_422 rfl ?_
  refine g_aload_n 424 0 K dL_law_423 rfl rfl rfl ?_
  refine g_iload_n 425 3 K dL_law_424 rfl rfl rfl ?_
  refine g_iconst 426 3 K dL_law_425 rfl (by decide) ?_
  refine g_iadd 427 K dL_law_426 rfl ?_
  refine g_sld 428 K hX hbl hbA (vp_j (k := 3) hj (by decide) hL) dL_law_427 rfl ?_
  refine g_aload_n 429 0 K dL_law_428 rfl rfl rfl ?_
  refine g_iload_n 430 3 K dL_law_429 rfl rfl rfl ?_
  refine g_iconst 431 4 K dL_law_430 rfl (by decide) ?_
  refine g_iadd 432 K dL_law_431 rfl ?_
  refine g_sld 433 K hX hbl hbA (vp_j (k := 4) hj (by decide) hL) dL_law_432 rfl ?_
  refine g_lawC 436 [] K hs (c_X6_times hc) km_L_66 kI_X6_times kS_X6_times kC_X6_times mw_X6_times ⟨by decide, by decide, by decide, by decide⟩ rfl rfl (Nat.le_of_ble_eq_true rfl) dL_law_433 rfl ?_
  have K : Ok p s m #[Value.ref b] c code 4 RL D (tyL cI cB cZ) (fun x : Nat => s.heap.size ≤ x) (cw (wL q q' n cI cB cZ S2 T)) := Ok_w K0 (hD S2 T)
  refine g_aload_n 437 2 K dL_law_436 rfl rfl rfl ?_
  refine g_aload_n 438 0 K dL_law_437 rfl rfl rfl ?_
  refine g_iload_n 439 3 K dL_law_438 rfl rfl rfl ?_
  refine g_iconst 440 1 K dL_law_439 rfl (by decide) ?_
  refine g_iadd 441 K dL_law_440 rfl ?_
  refine g_sld 442 K hX hbl hbA (vp_j (k := 1) hj (by decide) hL) dL_law_441 rfl ?_
  refine g_aload_n 443 0 K dL_law_442 rfl rfl rfl ?_
  refine g_iload_n 444 3 K dL_law_443 rfl rfl rfl ?_
  refine g_iconst 445 2 K dL_law_444 rfl (by decide) ?_
  refine g_iadd 446 K dL_law_445 rfl ?_
  refine g_sld 447 K hX hbl hbA (vp_j (k := 2) hj (by decide) hL) dL_law_446 rfl ?_
  refine g_aload_n 448 0 K dL_law_447 rfl rfl rfl ?_
  refine g_iload_n 449 3 K dL_law_448 rfl rfl rfl ?_
  refine g_iconst 450 3 K dL_law_449 rfl (by decide) ?_
  refine g_iadd 451 K dL_law_450 rfl ?_
  refine g_sld 452 K hX hbl hbA (vp_j (k := 3) hj (by decide) hL) dL_law_451 rfl ?_
  refine g_aload_n 453 0 K dL_law_452 rfl rfl rfl ?_
  refine g_iload_n 454 3 K dL_law_453 rfl rfl rfl ?_
  refine g_iconst 455 4 K dL_law_454 rfl (by decide) ?_
  refine g_iadd 456 K dL_law_455 rfl ?_
  refine g_sld 457 K hX hbl hbA (vp_j (k := 4) hj (by decide) hL) dL_law_456 rfl ?_
  refine g_lawM 460 [.int r] K hs (c_X7_times hm) km_L_70 kI_X7_times kS_X7_times kC_X7_times mw_X7_times ⟨by decide, by decide, by decide, by decide⟩ rfl rfl (Nat.le_of_ble_eq_true rfl) dL_law_457 rfl ?_
  have K : Ok p s m #[Value.ref b] c code 4 RL D (tyL cI cB cZ) (fun x : Nat => s.heap.size ≤ x) (cw (wL q q' n cI cB cZ S2 T2)) := Ok_w K0 (hD S2 T2)
  refine h_icmp_eq 834 463 K dL_law_460 (by decide) rfl (fun _ => ?_) (fun h => absurd rfl h)
  exact hnext S2 T2 hR
set_option maxRecDepth 20000 in
set_option maxHeartbeats 4000000 in
theorem law_waits {p : Program} {l : Launch} {e : Env} {s : State} {m : MethodId} {below : List Frame} {meth : Method} {c : Code} {D : va_G} {q q' : Nat → Nat} {n : Nat} {cI cB cZ : ClassId} {adK adV : Nat → Nat} {b L : Nat} {xs : Nat → Int32} {N : Nat} {Rl : Nat → St → St → Prop} (hD : ∀ S T, va_D (fun x : Nat => s.heap.size ≤ x) (wL q q' n cI cB cZ S T)) (K0 : Ok p s m #[Value.ref b] c code 4 RL D (tyL cI cB cZ) (fun x : Nat => s.heap.size ≤ x) (cw (wL q q' n cI cB cZ S0 S0))) (hs : Fx adK adV (fun x : Nat => s.heap.size ≤ x) s) (hX : va_X b L xs s s.heap) (hbl : b < s.heap.size) (hL : L ≤ 3073) {S T : St} {j : Nat} (hj : j + 6 ≤ L) (hst : Sp0 f_X6_waits f_X7_waits N Rl) (hRl : Rl n S T) (hnext : ∀ S T, Rl n S T → G p l e room_1 s m #[Value.ref b] below meth c 53 12579 (lw_Z below #[Value.ref b] s) 4 D (fun x : Nat => s.heap.size ≤ x) (cw (wL q q' n cI cB cZ S T)) S0 834 [(0, .ref b), (1, .ref (q 0)), (2, .ref (q' 0)), (3, .int (nI j))] []) : G p l e room_1 s m #[Value.ref b] below meth c 53 12579 (lw_Z below #[Value.ref b] s) 4 D (fun x : Nat => s.heap.size ≤ x) (cw (wL q q' n cI cB cZ S T)) S0 465 [(0, .ref b), (1, .ref (q 0)), (2, .ref (q' 0)), (3, .int (nI j))] [] := by
  obtain ⟨r, S2, T2, hc, hm, hR⟩ := hst n S T hRl
  have hbA : ¬ (fun x : Nat => s.heap.size ≤ x) b := Nat.not_le.mpr hbl
  have K : Ok p s m #[Value.ref b] c code 4 RL D (tyL cI cB cZ) (fun x : Nat => s.heap.size ≤ x) (cw (wL q q' n cI cB cZ S T)) := Ok_w K0 (hD S T)
  refine g_aload_n 466 1 K dL_law_465 rfl rfl rfl ?_
  refine g_lawC 469 [] K hs (c_X6_waits hc) km_L_71 kI_X6_waits kS_X6_waits kC_X6_waits mw_X6_waits ⟨by decide, by decide, by decide, by decide⟩ rfl rfl (Nat.le_of_ble_eq_true rfl) dL_law_466 rfl ?_
  have K : Ok p s m #[Value.ref b] c code 4 RL D (tyL cI cB cZ) (fun x : Nat => s.heap.size ≤ x) (cw (wL q q' n cI cB cZ S2 T)) := Ok_w K0 (hD S2 T)
  refine g_aload_n 470 2 K dL_law_469 rfl rfl rfl ?_
  refine g_lawM 473 [.int r] K hs (c_X7_waits hm) km_L_74 kI_X7_waits kS_X7_waits kC_X7_waits mw_X7_waits ⟨by decide, by decide, by decide, by decide⟩ rfl rfl (Nat.le_of_ble_eq_true rfl) dL_law_470 rfl ?_
  have K : Ok p s m #[Value.ref b] c code 4 RL D (tyL cI cB cZ) (fun x : Nat => s.heap.size ≤ x) (cw (wL q q' n cI cB cZ S2 T2)) := Ok_w K0 (hD S2 T2)
  refine h_icmp_eq 834 476 K dL_law_473 (by decide) rfl (fun _ => ?_) (fun h => absurd rfl h)
  exact hnext S2 T2 hR
set_option maxRecDepth 20000 in
set_option maxHeartbeats 4000000 in
theorem law_opening {p : Program} {l : Launch} {e : Env} {s : State} {m : MethodId} {below : List Frame} {meth : Method} {c : Code} {D : va_G} {q q' : Nat → Nat} {n : Nat} {cI cB cZ : ClassId} {adK adV : Nat → Nat} {b L : Nat} {xs : Nat → Int32} {N : Nat} {Rl : Nat → St → St → Prop} (hD : ∀ S T, va_D (fun x : Nat => s.heap.size ≤ x) (wL q q' n cI cB cZ S T)) (K0 : Ok p s m #[Value.ref b] c code 4 RL D (tyL cI cB cZ) (fun x : Nat => s.heap.size ≤ x) (cw (wL q q' n cI cB cZ S0 S0))) (hs : Fx adK adV (fun x : Nat => s.heap.size ≤ x) s) (hX : va_X b L xs s s.heap) (hbl : b < s.heap.size) (hL : L ≤ 3073) {S T : St} {j : Nat} (hj : j + 6 ≤ L) (hst : Sp2 f_X6_opening f_X7_opening N Rl) (hRl : Rl n S T) (hnext : ∀ S T, Rl n S T → G p l e room_1 s m #[Value.ref b] below meth c 53 12579 (lw_Z below #[Value.ref b] s) 4 D (fun x : Nat => s.heap.size ≤ x) (cw (wL q q' n cI cB cZ S T)) S0 834 [(0, .ref b), (1, .ref (q 0)), (2, .ref (q' 0)), (3, .int (nI j))] []) : G p l e room_1 s m #[Value.ref b] below meth c 53 12579 (lw_Z below #[Value.ref b] s) 4 D (fun x : Nat => s.heap.size ≤ x) (cw (wL q q' n cI cB cZ S T)) S0 478 [(0, .ref b), (1, .ref (q 0)), (2, .ref (q' 0)), (3, .int (nI j))] [] := by
  obtain ⟨r, S2, T2, hc, hm, hR⟩ := hst n S T (xs (nI j + 1).toNatClampNeg) (xs (nI j + 2).toNatClampNeg) hRl
  have hbA : ¬ (fun x : Nat => s.heap.size ≤ x) b := Nat.not_le.mpr hbl
  have K : Ok p s m #[Value.ref b] c code 4 RL D (tyL cI cB cZ) (fun x : Nat => s.heap.size ≤ x) (cw (wL q q' n cI cB cZ S T)) := Ok_w K0 (hD S T)
  refine g_aload_n 479 1 K dL_law_478 rfl rfl rfl ?_
  refine g_aload_n 480 0 K dL_law_479 rfl rfl rfl ?_
  refine g_iload_n 481 3 K dL_law_480 rfl rfl rfl ?_
  refine g_iconst 482 1 K dL_law_481 rfl (by decide) ?_
  refine g_iadd 483 K dL_law_482 rfl ?_
  refine g_sld 484 K hX hbl hbA (vp_j (k := 1) hj (by decide) hL) dL_law_483 rfl ?_
  refine g_aload_n 485 0 K dL_law_484 rfl rfl rfl ?_
  refine g_iload_n 486 3 K dL_law_485 rfl rfl rfl ?_
  refine g_iconst 487 2 K dL_law_486 rfl (by decide) ?_
  refine g_iadd 488 K dL_law_487 rfl ?_
  refine g_sld 489 K hX hbl hbA (vp_j (k := 2) hj (by decide) hL) dL_law_488 rfl ?_
  refine g_lawC 492 [] K hs (c_X6_opening hc) km_L_75 kI_X6_opening kS_X6_opening kC_X6_opening mw_X6_opening ⟨by decide, by decide, by decide, by decide⟩ rfl rfl (Nat.le_of_ble_eq_true rfl) dL_law_489 rfl ?_
  have K : Ok p s m #[Value.ref b] c code 4 RL D (tyL cI cB cZ) (fun x : Nat => s.heap.size ≤ x) (cw (wL q q' n cI cB cZ S2 T)) := Ok_w K0 (hD S2 T)
  refine g_aload_n 493 2 K dL_law_492 rfl rfl rfl ?_
  refine g_aload_n 494 0 K dL_law_493 rfl rfl rfl ?_
  refine g_iload_n 495 3 K dL_law_494 rfl rfl rfl ?_
  refine g_iconst 496 1 K dL_law_495 rfl (by decide) ?_
  refine g_iadd 497 K dL_law_496 rfl ?_
  refine g_sld 498 K hX hbl hbA (vp_j (k := 1) hj (by decide) hL) dL_law_497 rfl ?_
  refine g_aload_n 499 0 K dL_law_498 rfl rfl rfl ?_
  refine g_iload_n 500 3 K dL_law_499 rfl rfl rfl ?_
  refine g_iconst 501 2 K dL_law_500 rfl (by decide) ?_
  refine g_iadd 502 K dL_law_501 rfl ?_
  refine g_sld 503 K hX hbl hbA (vp_j (k := 2) hj (by decide) hL) dL_law_502 rfl ?_
  refine g_lawM 506 [.int r] K hs (c_X7_opening hm) km_L_78 kI_X7_opening kS_X7_opening kC_X7_opening mw_X7_opening ⟨by decide, by decide, by decide, by decide⟩ rfl rfl (Nat.le_of_ble_eq_true rfl) dL_law_503 rfl ?_
  have K : Ok p s m #[Value.ref b] c code 4 RL D (tyL cI cB cZ) (fun x : Nat => s.heap.size ≤ x) (cw (wL q q' n cI cB cZ S2 T2)) := Ok_w K0 (hD S2 T2)
  refine h_icmp_eq 834 509 K dL_law_506 (by decide) rfl (fun _ => ?_) (fun h => absurd rfl h)
  exact hnext S2 T2 hR
set_option maxRecDepth 20000 in
set_option maxHeartbeats 4000000 in
theorem law_atOnce {p : Program} {l : Launch} {e : Env} {s : State} {m : MethodId} {below : List Frame} {meth : Method} {c : Code} {D : va_G} {q q' : Nat → Nat} {n : Nat} {cI cB cZ : ClassId} {adK adV : Nat → Nat} {b L : Nat} {xs : Nat → Int32} {N : Nat} {Rl : Nat → St → St → Prop} (hD : ∀ S T, va_D (fun x : Nat => s.heap.size ≤ x) (wL q q' n cI cB cZ S T)) (K0 : Ok p s m #[Value.ref b] c code 4 RL D (tyL cI cB cZ) (fun x : Nat => s.heap.size ≤ x) (cw (wL q q' n cI cB cZ S0 S0))) (hs : Fx adK adV (fun x : Nat => s.heap.size ≤ x) s) (hX : va_X b L xs s s.heap) (hbl : b < s.heap.size) (hL : L ≤ 3073) {S T : St} {j : Nat} (hj : j + 6 ≤ L) (hst : Sp0 f_X6_atOnce f_X7_atOnce N Rl) (hRl : Rl n S T) (hnext : ∀ S T, Rl n S T → G p l e room_1 s m #[Value.ref b] below meth c 53 12579 (lw_Z below #[Value.ref b] s) 4 D (fun x : Nat => s.heap.size ≤ x) (cw (wL q q' n cI cB cZ S T)) S0 834 [(0, .ref b), (1, .ref (q 0)), (2, .ref (q' 0)), (3, .int (nI j))] []) : G p l e room_1 s m #[Value.ref b] below meth c 53 12579 (lw_Z below #[Value.ref b] s) 4 D (fun x : Nat => s.heap.size ≤ x) (cw (wL q q' n cI cB cZ S T)) S0 511 [(0, .ref b), (1, .ref (q 0)), (2, .ref (q' 0)), (3, .int (nI j))] [] := by
  obtain ⟨r, S2, T2, hc, hm, hR⟩ := hst n S T hRl
  have hbA : ¬ (fun x : Nat => s.heap.size ≤ x) b := Nat.not_le.mpr hbl
  have K : Ok p s m #[Value.ref b] c code 4 RL D (tyL cI cB cZ) (fun x : Nat => s.heap.size ≤ x) (cw (wL q q' n cI cB cZ S T)) := Ok_w K0 (hD S T)
  refine g_aload_n 512 1 K dL_law_511 rfl rfl rfl ?_
  refine g_lawC 515 [] K hs (c_X6_atOnce hc) km_L_79 kI_X6_atOnce kS_X6_atOnce kC_X6_atOnce mw_X6_atOnce ⟨by decide, by decide, by decide, by decide⟩ rfl rfl (Nat.le_of_ble_eq_true rfl) dL_law_512 rfl ?_
  have K : Ok p s m #[Value.ref b] c code 4 RL D (tyL cI cB cZ) (fun x : Nat => s.heap.size ≤ x) (cw (wL q q' n cI cB cZ S2 T)) := Ok_w K0 (hD S2 T)
  refine g_aload_n 516 2 K dL_law_515 rfl rfl rfl ?_
  refine g_lawM 519 [.int r] K hs (c_X7_atOnce hm) km_L_82 kI_X7_atOnce kS_X7_atOnce kC_X7_atOnce mw_X7_atOnce ⟨by decide, by decide, by decide, by decide⟩ rfl rfl (Nat.le_of_ble_eq_true rfl) dL_law_516 rfl ?_
  have K : Ok p s m #[Value.ref b] c code 4 RL D (tyL cI cB cZ) (fun x : Nat => s.heap.size ≤ x) (cw (wL q q' n cI cB cZ S2 T2)) := Ok_w K0 (hD S2 T2)
  refine h_icmp_eq 834 522 K dL_law_519 (by decide) rfl (fun _ => ?_) (fun h => absurd rfl h)
  exact hnext S2 T2 hR
set_option maxRecDepth 20000 in
set_option maxHeartbeats 4000000 in
theorem law_level {p : Program} {l : Launch} {e : Env} {s : State} {m : MethodId} {below : List Frame} {meth : Method} {c : Code} {D : va_G} {q q' : Nat → Nat} {n : Nat} {cI cB cZ : ClassId} {adK adV : Nat → Nat} {b L : Nat} {xs : Nat → Int32} {N : Nat} {Rl : Nat → St → St → Prop} (hD : ∀ S T, va_D (fun x : Nat => s.heap.size ≤ x) (wL q q' n cI cB cZ S T)) (K0 : Ok p s m #[Value.ref b] c code 4 RL D (tyL cI cB cZ) (fun x : Nat => s.heap.size ≤ x) (cw (wL q q' n cI cB cZ S0 S0))) (hs : Fx adK adV (fun x : Nat => s.heap.size ≤ x) s) (hX : va_X b L xs s s.heap) (hbl : b < s.heap.size) (hL : L ≤ 3073) {S T : St} {j : Nat} (hj : j + 6 ≤ L) (hst : Sp3 f_X6_level f_X7_level N Rl) (hRl : Rl n S T) (hnext : ∀ S T, Rl n S T → G p l e room_1 s m #[Value.ref b] below meth c 53 12579 (lw_Z below #[Value.ref b] s) 4 D (fun x : Nat => s.heap.size ≤ x) (cw (wL q q' n cI cB cZ S T)) S0 834 [(0, .ref b), (1, .ref (q 0)), (2, .ref (q' 0)), (3, .int (nI j))] []) : G p l e room_1 s m #[Value.ref b] below meth c 53 12579 (lw_Z below #[Value.ref b] s) 4 D (fun x : Nat => s.heap.size ≤ x) (cw (wL q q' n cI cB cZ S T)) S0 524 [(0, .ref b), (1, .ref (q 0)), (2, .ref (q' 0)), (3, .int (nI j))] [] := by
  obtain ⟨r, S2, T2, hc, hm, hR⟩ := hst n S T (xs (nI j + 1).toNatClampNeg) (xs (nI j + 2).toNatClampNeg) (xs (nI j + 3).toNatClampNeg) hRl
  have hbA : ¬ (fun x : Nat => s.heap.size ≤ x) b := Nat.not_le.mpr hbl
  have K : Ok p s m #[Value.ref b] c code 4 RL D (tyL cI cB cZ) (fun x : Nat => s.heap.size ≤ x) (cw (wL q q' n cI cB cZ S T)) := Ok_w K0 (hD S T)
  refine g_aload_n 525 1 K dL_law_524 rfl rfl rfl ?_
  refine g_aload_n 526 0 K dL_law_525 rfl rfl rfl ?_
  refine g_iload_n 527 3 K dL_law_526 rfl rfl rfl ?_
  refine g_iconst 528 1 K dL_law_527 rfl (by decide) ?_
  refine g_iadd 529 K dL_law_528 rfl ?_
  refine g_sld 530 K hX hbl hbA (vp_j (k := 1) hj (by decide) hL) dL_law_529 rfl ?_
  refine g_aload_n 531 0 K dL_law_530 rfl rfl rfl ?_
  refine g_iload_n 532 3 K dL_law_531 rfl rfl rfl ?_
  refine g_iconst 533 2 K dL_law_532 rfl (by decide) ?_
  refine g_iadd 534 K dL_law_533 rfl ?_
  refine g_sld 535 K hX hbl hbA (vp_j (k := 2) hj (by decide) hL) dL_law_534 rfl ?_
  refine g_aload_n 536 0 K dL_law_535 rfl rfl rfl ?_
  refine g_iload_n 537 3 K dL_law_536 rfl rfl rfl ?_
  refine g_iconst 538 3 K dL_law_537 rfl (by decide) ?_
  refine g_iadd 539 K dL_law_538 rfl ?_
  refine g_sld 540 K hX hbl hbA (vp_j (k := 3) hj (by decide) hL) dL_law_539 rfl ?_
  refine g_lawC 543 [] K hs (c_X6_level hc) km_L_83 kI_X6_level kS_X6_level kC_X6_level mw_X6_level ⟨by decide, by decide, by decide, by decide⟩ rfl rfl (Nat.le_of_ble_eq_true rfl) dL_law_540 rfl ?_
  have K : Ok p s m #[Value.ref b] c code 4 RL D (tyL cI cB cZ) (fun x : Nat => s.heap.size ≤ x) (cw (wL q q' n cI cB cZ S2 T)) := Ok_w K0 (hD S2 T)
  refine g_aload_n 544 2 K dL_law_543 rfl rfl rfl ?_
  refine g_aload_n 545 0 K dL_law_544 rfl rfl rfl ?_
  refine g_iload_n 546 3 K dL_law_545 rfl rfl rfl ?_
  refine g_iconst 547 1 K dL_law_546 rfl (by decide) ?_
  refine g_iadd 548 K dL_law_547 rfl ?_
  refine g_sld 549 K hX hbl hbA (vp_j (k := 1) hj (by decide) hL) dL_law_548 rfl ?_
  refine g_aload_n 550 0 K dL_law_549 rfl rfl rfl ?_
  refine g_iload_n 551 3 K dL_law_550 rfl rfl rfl ?_
  refine g_iconst 552 2 K dL_law_551 rfl (by decide) ?_
  refine g_iadd 553 K dL_law_552 rfl ?_
  refine g_sld 554 K hX hbl hbA (vp_j (k := 2) hj (by decide) hL) dL_law_553 rfl ?_
  refine g_aload_n 555 0 K dL_law_554 rfl rfl rfl ?_
  refine g_iload_n 556 3 K dL_law_555 rfl rfl rfl ?_
  refine g_iconst 557 3 K dL_law_556 rfl (by decide) ?_
  refine g_iadd 558 K dL_law_557 rfl ?_
  refine g_sld 559 K hX hbl hbA (vp_j (k := 3) hj (by decide) hL) dL_law_558 rfl ?_
  refine g_lawM 562 [.int r] K hs (c_X7_level hm) km_L_86 kI_X7_level kS_X7_level kC_X7_level mw_X7_level ⟨by decide, by decide, by decide, by decide⟩ rfl rfl (Nat.le_of_ble_eq_true rfl) dL_law_559 rfl ?_
  have K : Ok p s m #[Value.ref b] c code 4 RL D (tyL cI cB cZ) (fun x : Nat => s.heap.size ≤ x) (cw (wL q q' n cI cB cZ S2 T2)) := Ok_w K0 (hD S2 T2)
  refine h_icmp_eq 834 565 K dL_law_562 (by decide) rfl (fun _ => ?_) (fun h => absurd rfl h)
  exact hnext S2 T2 hR
set_option maxRecDepth 20000 in
set_option maxHeartbeats 4000000 in
theorem law_flood {p : Program} {l : Launch} {e : Env} {s : State} {m : MethodId} {below : List Frame} {meth : Method} {c : Code} {D : va_G} {q q' : Nat → Nat} {n : Nat} {cI cB cZ : ClassId} {adK adV : Nat → Nat} {b L : Nat} {xs : Nat → Int32} {N : Nat} {Rl : Nat → St → St → Prop} (hD : ∀ S T, va_D (fun x : Nat => s.heap.size ≤ x) (wL q q' n cI cB cZ S T)) (K0 : Ok p s m #[Value.ref b] c code 4 RL D (tyL cI cB cZ) (fun x : Nat => s.heap.size ≤ x) (cw (wL q q' n cI cB cZ S0 S0))) (hs : Fx adK adV (fun x : Nat => s.heap.size ≤ x) s) (hX : va_X b L xs s s.heap) (hbl : b < s.heap.size) (hL : L ≤ 3073) {S T : St} {j : Nat} (hj : j + 6 ≤ L) (hst : Sp2 f_X6_flood f_X7_flood N Rl) (hRl : Rl n S T) (hnext : ∀ S T, Rl n S T → G p l e room_1 s m #[Value.ref b] below meth c 53 12579 (lw_Z below #[Value.ref b] s) 4 D (fun x : Nat => s.heap.size ≤ x) (cw (wL q q' n cI cB cZ S T)) S0 834 [(0, .ref b), (1, .ref (q 0)), (2, .ref (q' 0)), (3, .int (nI j))] []) : G p l e room_1 s m #[Value.ref b] below meth c 53 12579 (lw_Z below #[Value.ref b] s) 4 D (fun x : Nat => s.heap.size ≤ x) (cw (wL q q' n cI cB cZ S T)) S0 567 [(0, .ref b), (1, .ref (q 0)), (2, .ref (q' 0)), (3, .int (nI j))] [] := by
  obtain ⟨r, S2, T2, hc, hm, hR⟩ := hst n S T (xs (nI j + 1).toNatClampNeg) (xs (nI j + 2).toNatClampNeg) hRl
  have hbA : ¬ (fun x : Nat => s.heap.size ≤ x) b := Nat.not_le.mpr hbl
  have K : Ok p s m #[Value.ref b] c code 4 RL D (tyL cI cB cZ) (fun x : Nat => s.heap.size ≤ x) (cw (wL q q' n cI cB cZ S T)) := Ok_w K0 (hD S T)
  refine g_aload_n 568 1 K dL_law_567 rfl rfl rfl ?_
  refine g_aload_n 569 0 K dL_law_568 rfl rfl rfl ?_
  refine g_iload_n 570 3 K dL_law_569 rfl rfl rfl ?_
  refine g_iconst 571 1 K dL_law_570 rfl (by decide) ?_
  refine g_iadd 572 K dL_law_571 rfl ?_
  refine g_sld 573 K hX hbl hbA (vp_j (k := 1) hj (by decide) hL) dL_law_572 rfl ?_
  refine g_aload_n 574 0 K dL_law_573 rfl rfl rfl ?_
  refine g_iload_n 575 3 K dL_law_574 rfl rfl rfl ?_
  refine g_iconst 576 2 K dL_law_575 rfl (by decide) ?_
  refine g_iadd 577 K dL_law_576 rfl ?_
  refine g_sld 578 K hX hbl hbA (vp_j (k := 2) hj (by decide) hL) dL_law_577 rfl ?_
  refine g_lawC 581 [] K hs (c_X6_flood hc) km_L_87 kI_X6_flood kS_X6_flood kC_X6_flood mw_X6_flood ⟨by decide, by decide, by decide, by decide⟩ rfl rfl (Nat.le_of_ble_eq_true rfl) dL_law_578 rfl ?_
  have K : Ok p s m #[Value.ref b] c code 4 RL D (tyL cI cB cZ) (fun x : Nat => s.heap.size ≤ x) (cw (wL q q' n cI cB cZ S2 T)) := Ok_w K0 (hD S2 T)
  refine g_aload_n 582 2 K dL_law_581 rfl rfl rfl ?_
  refine g_aload_n 583 0 K dL_law_582 rfl rfl rfl ?_
  refine g_iload_n 584 3 K dL_law_583 rfl rfl rfl ?_
  refine g_iconst 585 1 K dL_law_584 rfl (by decide) ?_
  refine g_iadd 586 K dL_law_585 rfl ?_
  refine g_sld 587 K hX hbl hbA (vp_j (k := 1) hj (by decide) hL) dL_law_586 rfl ?_
  refine g_aload_n 588 0 K dL_law_587 rfl rfl rfl ?_
  refine g_iload_n 589 3 K dL_law_588 rfl rfl rfl ?_
  refine g_iconst 590 2 K dL_law_589 rfl (by decide) ?_
  refine g_iadd 591 K dL_law_590 rfl ?_
  refine g_sld 592 K hX hbl hbA (vp_j (k := 2) hj (by decide) hL) dL_law_591 rfl ?_
  refine g_lawM 595 [.int r] K hs (c_X7_flood hm) km_L_90 kI_X7_flood kS_X7_flood kC_X7_flood mw_X7_flood ⟨by decide, by decide, by decide, by decide⟩ rfl rfl (Nat.le_of_ble_eq_true rfl) dL_law_592 rfl ?_
  have K : Ok p s m #[Value.ref b] c code 4 RL D (tyL cI cB cZ) (fun x : Nat => s.heap.size ≤ x) (cw (wL q q' n cI cB cZ S2 T2)) := Ok_w K0 (hD S2 T2)
  refine h_icmp_eq 834 598 K dL_law_595 (by decide) rfl (fun _ => ?_) (fun h => absurd rfl h)
  exact hnext S2 T2 hR
set_option maxRecDepth 20000 in
set_option maxHeartbeats 4000000 in
theorem law_out {p : Program} {l : Launch} {e : Env} {s : State} {m : MethodId} {below : List Frame} {meth : Method} {c : Code} {D : va_G} {q q' : Nat → Nat} {n : Nat} {cI cB cZ : ClassId} {adK adV : Nat → Nat} {b L : Nat} {xs : Nat → Int32} {N : Nat} {Rl : Nat → St → St → Prop} (hD : ∀ S T, va_D (fun x : Nat => s.heap.size ≤ x) (wL q q' n cI cB cZ S T)) (K0 : Ok p s m #[Value.ref b] c code 4 RL D (tyL cI cB cZ) (fun x : Nat => s.heap.size ≤ x) (cw (wL q q' n cI cB cZ S0 S0))) (hs : Fx adK adV (fun x : Nat => s.heap.size ≤ x) s) (hX : va_X b L xs s s.heap) (hbl : b < s.heap.size) (hL : L ≤ 3073) {S T : St} {j : Nat} (hj : j + 6 ≤ L) (hst : Sp0 f_X6_out f_X7_out N Rl) (hRl : Rl n S T) (hnext : ∀ S T, Rl n S T → G p l e room_1 s m #[Value.ref b] below meth c 53 12579 (lw_Z below #[Value.ref b] s) 4 D (fun x : Nat => s.heap.size ≤ x) (cw (wL q q' n cI cB cZ S T)) S0 834 [(0, .ref b), (1, .ref (q 0)), (2, .ref (q' 0)), (3, .int (nI j))] []) : G p l e room_1 s m #[Value.ref b] below meth c 53 12579 (lw_Z below #[Value.ref b] s) 4 D (fun x : Nat => s.heap.size ≤ x) (cw (wL q q' n cI cB cZ S T)) S0 600 [(0, .ref b), (1, .ref (q 0)), (2, .ref (q' 0)), (3, .int (nI j))] [] := by
  obtain ⟨r, S2, T2, hc, hm, hR⟩ := hst n S T hRl
  have hbA : ¬ (fun x : Nat => s.heap.size ≤ x) b := Nat.not_le.mpr hbl
  have K : Ok p s m #[Value.ref b] c code 4 RL D (tyL cI cB cZ) (fun x : Nat => s.heap.size ≤ x) (cw (wL q q' n cI cB cZ S T)) := Ok_w K0 (hD S T)
  refine g_aload_n 601 1 K dL_law_600 rfl rfl rfl ?_
  refine g_lawC 604 [] K hs (c_X6_out hc) km_L_91 kI_X6_out kS_X6_out kC_X6_out mw_X6_out ⟨by decide, by decide, by decide, by decide⟩ rfl rfl (Nat.le_of_ble_eq_true rfl) dL_law_601 rfl ?_
  have K : Ok p s m #[Value.ref b] c code 4 RL D (tyL cI cB cZ) (fun x : Nat => s.heap.size ≤ x) (cw (wL q q' n cI cB cZ S2 T)) := Ok_w K0 (hD S2 T)
  refine g_aload_n 605 2 K dL_law_604 rfl rfl rfl ?_
  refine g_lawM 608 [.int r] K hs (c_X7_out hm) km_L_94 kI_X7_out kS_X7_out kC_X7_out mw_X7_out ⟨by decide, by decide, by decide, by decide⟩ rfl rfl (Nat.le_of_ble_eq_true rfl) dL_law_605 rfl ?_
  have K : Ok p s m #[Value.ref b] c code 4 RL D (tyL cI cB cZ) (fun x : Nat => s.heap.size ≤ x) (cw (wL q q' n cI cB cZ S2 T2)) := Ok_w K0 (hD S2 T2)
  refine h_icmp_eq 834 611 K dL_law_608 (by decide) rfl (fun _ => ?_) (fun h => absurd rfl h)
  exact hnext S2 T2 hR
set_option maxRecDepth 20000 in
set_option maxHeartbeats 4000000 in
theorem law_outOn {p : Program} {l : Launch} {e : Env} {s : State} {m : MethodId} {below : List Frame} {meth : Method} {c : Code} {D : va_G} {q q' : Nat → Nat} {n : Nat} {cI cB cZ : ClassId} {adK adV : Nat → Nat} {b L : Nat} {xs : Nat → Int32} {N : Nat} {Rl : Nat → St → St → Prop} (hD : ∀ S T, va_D (fun x : Nat => s.heap.size ≤ x) (wL q q' n cI cB cZ S T)) (K0 : Ok p s m #[Value.ref b] c code 4 RL D (tyL cI cB cZ) (fun x : Nat => s.heap.size ≤ x) (cw (wL q q' n cI cB cZ S0 S0))) (hs : Fx adK adV (fun x : Nat => s.heap.size ≤ x) s) (hX : va_X b L xs s s.heap) (hbl : b < s.heap.size) (hL : L ≤ 3073) {S T : St} {j : Nat} (hj : j + 6 ≤ L) (hst : Sp2 f_X6_outOn f_X7_outOn N Rl) (hRl : Rl n S T) (hnext : ∀ S T, Rl n S T → G p l e room_1 s m #[Value.ref b] below meth c 53 12579 (lw_Z below #[Value.ref b] s) 4 D (fun x : Nat => s.heap.size ≤ x) (cw (wL q q' n cI cB cZ S T)) S0 834 [(0, .ref b), (1, .ref (q 0)), (2, .ref (q' 0)), (3, .int (nI j))] []) : G p l e room_1 s m #[Value.ref b] below meth c 53 12579 (lw_Z below #[Value.ref b] s) 4 D (fun x : Nat => s.heap.size ≤ x) (cw (wL q q' n cI cB cZ S T)) S0 613 [(0, .ref b), (1, .ref (q 0)), (2, .ref (q' 0)), (3, .int (nI j))] [] := by
  obtain ⟨r, S2, T2, hc, hm, hR⟩ := hst n S T (xs (nI j + 1).toNatClampNeg) (xs (nI j + 2).toNatClampNeg) hRl
  have hbA : ¬ (fun x : Nat => s.heap.size ≤ x) b := Nat.not_le.mpr hbl
  have K : Ok p s m #[Value.ref b] c code 4 RL D (tyL cI cB cZ) (fun x : Nat => s.heap.size ≤ x) (cw (wL q q' n cI cB cZ S T)) := Ok_w K0 (hD S T)
  refine g_aload_n 614 1 K dL_law_613 rfl rfl rfl ?_
  refine g_aload_n 615 0 K dL_law_614 rfl rfl rfl ?_
  refine g_iload_n 616 3 K dL_law_615 rfl rfl rfl ?_
  refine g_iconst 617 1 K dL_law_616 rfl (by decide) ?_
  refine g_iadd 618 K dL_law_617 rfl ?_
  refine g_sld 619 K hX hbl hbA (vp_j (k := 1) hj (by decide) hL) dL_law_618 rfl ?_
  refine g_aload_n 620 0 K dL_law_619 rfl rfl rfl ?_
  refine g_iload_n 621 3 K dL_law_620 rfl rfl rfl ?_
  refine g_iconst 622 2 K dL_law_621 rfl (by decide) ?_
  refine g_iadd 623 K dL_law_622 rfl ?_
  refine g_sld 624 K hX hbl hbA (vp_j (k := 2) hj (by decide) hL) dL_law_623 rfl ?_
  refine g_lawC 627 [] K hs (c_X6_outOn hc) km_L_95 kI_X6_outOn kS_X6_outOn kC_X6_outOn mw_X6_outOn ⟨by decide, by decide, by decide, by decide⟩ rfl rfl (Nat.le_of_ble_eq_true rfl) dL_law_624 rfl ?_
  have K : Ok p s m #[Value.ref b] c code 4 RL D (tyL cI cB cZ) (fun x : Nat => s.heap.size ≤ x) (cw (wL q q' n cI cB cZ S2 T)) := Ok_w K0 (hD S2 T)
  refine g_aload_n 628 2 K dL_law_627 rfl rfl rfl ?_
  refine g_aload_n 629 0 K dL_law_628 rfl rfl rfl ?_
  refine g_iload_n 630 3 K dL_law_629 rfl rfl rfl ?_
  refine g_iconst 631 1 K dL_law_630 rfl (by decide) ?_
  refine g_iadd 632 K dL_law_631 rfl ?_
  refine g_sld 633 K hX hbl hbA (vp_j (k := 1) hj (by decide) hL) dL_law_632 rfl ?_
  refine g_aload_n 634 0 K dL_law_633 rfl rfl rfl ?_
  refine g_iload_n 635 3 K dL_law_634 rfl rfl rfl ?_
  refine g_iconst 636 2 K dL_law_635 rfl (by decide) ?_
  refine g_iadd 637 K dL_law_636 rfl ?_
  refine g_sld 638 K hX hbl hbA (vp_j (k := 2) hj (by decide) hL) dL_law_637 rfl ?_
  refine g_lawM 641 [.int r] K hs (c_X7_outOn hm) km_L_98 kI_X7_outOn kS_X7_outOn kC_X7_outOn mw_X7_outOn ⟨by decide, by decide, by decide, by decide⟩ rfl rfl (Nat.le_of_ble_eq_true rfl) dL_law_638 rfl ?_
  have K : Ok p s m #[Value.ref b] c code 4 RL D (tyL cI cB cZ) (fun x : Nat => s.heap.size ≤ x) (cw (wL q q' n cI cB cZ S2 T2)) := Ok_w K0 (hD S2 T2)
  refine h_icmp_eq 834 644 K dL_law_641 (by decide) rfl (fun _ => ?_) (fun h => absurd rfl h)
  exact hnext S2 T2 hR
set_option maxRecDepth 20000 in
set_option maxHeartbeats 4000000 in
theorem law_feed {p : Program} {l : Launch} {e : Env} {s : State} {m : MethodId} {below : List Frame} {meth : Method} {c : Code} {D : va_G} {q q' : Nat → Nat} {n : Nat} {cI cB cZ : ClassId} {adK adV : Nat → Nat} {b L : Nat} {xs : Nat → Int32} {N : Nat} {Rl : Nat → St → St → Prop} (hD : ∀ S T, va_D (fun x : Nat => s.heap.size ≤ x) (wL q q' n cI cB cZ S T)) (K0 : Ok p s m #[Value.ref b] c code 4 RL D (tyL cI cB cZ) (fun x : Nat => s.heap.size ≤ x) (cw (wL q q' n cI cB cZ S0 S0))) (hs : Fx adK adV (fun x : Nat => s.heap.size ≤ x) s) (hX : va_X b L xs s s.heap) (hbl : b < s.heap.size) (hL : L ≤ 3073) {S T : St} {j : Nat} (hj : j + 6 ≤ L) (hst : Sp5 f_X6_feed f_X7_feed N Rl) (hRl : Rl n S T) (hnext : ∀ S T, Rl n S T → G p l e room_1 s m #[Value.ref b] below meth c 53 12579 (lw_Z below #[Value.ref b] s) 4 D (fun x : Nat => s.heap.size ≤ x) (cw (wL q q' n cI cB cZ S T)) S0 834 [(0, .ref b), (1, .ref (q 0)), (2, .ref (q' 0)), (3, .int (nI j))] []) : G p l e room_1 s m #[Value.ref b] below meth c 53 12579 (lw_Z below #[Value.ref b] s) 4 D (fun x : Nat => s.heap.size ≤ x) (cw (wL q q' n cI cB cZ S T)) S0 646 [(0, .ref b), (1, .ref (q 0)), (2, .ref (q' 0)), (3, .int (nI j))] [] := by
  obtain ⟨r, S2, T2, hc, hm, hR⟩ := hst n S T (xs (nI j + 1).toNatClampNeg) (xs (nI j + 2).toNatClampNeg) (xs (nI j + 3).toNatClampNeg) (xs (nI j + 4).toNatClampNeg) (xs (nI j + 5).toNatClampNeg) hRl
  have hbA : ¬ (fun x : Nat => s.heap.size ≤ x) b := Nat.not_le.mpr hbl
  have K : Ok p s m #[Value.ref b] c code 4 RL D (tyL cI cB cZ) (fun x : Nat => s.heap.size ≤ x) (cw (wL q q' n cI cB cZ S T)) := Ok_w K0 (hD S T)
  refine g_aload_n 647 1 K dL_law_646 rfl rfl rfl ?_
  refine g_aload_n 648 0 K dL_law_647 rfl rfl rfl ?_
  refine g_iload_n 649 3 K dL_law_648 rfl rfl rfl ?_
  refine g_iconst 650 1 K dL_law_649 rfl (by decide) ?_
  refine g_iadd 651 K dL_law_650 rfl ?_
  refine g_sld 652 K hX hbl hbA (vp_j (k := 1) hj (by decide) hL) dL_law_651 rfl ?_
  refine g_aload_n 653 0 K dL_law_652 rfl rfl rfl ?_
  refine g_iload_n 654 3 K dL_law_653 rfl rfl rfl ?_
  refine g_iconst 655 2 K dL_law_654 rfl (by decide) ?_
  refine g_iadd 656 K dL_law_655 rfl ?_
  refine g_sld 657 K hX hbl hbA (vp_j (k := 2) hj (by decide) hL) dL_law_656 rfl ?_
  refine g_aload_n 658 0 K dL_law_657 rfl rfl rfl ?_
  refine g_iload_n 659 3 K dL_law_658 rfl rfl rfl ?_
  refine g_iconst 660 3 K dL_law_659 rfl (by decide) ?_
  refine g_iadd 661 K dL_law_660 rfl ?_
  refine g_sld 662 K hX hbl hbA (vp_j (k := 3) hj (by decide) hL) dL_law_661 rfl ?_
  refine g_aload_n 663 0 K dL_law_662 rfl rfl rfl ?_
  refine g_iload_n 664 3 K dL_law_663 rfl rfl rfl ?_
  refine g_iconst 665 4 K dL_law_664 rfl (by decide) ?_
  refine g_iadd 666 K dL_law_665 rfl ?_
  refine g_sld 667 K hX hbl hbA (vp_j (k := 4) hj (by decide) hL) dL_law_666 rfl ?_
  refine g_aload_n 668 0 K dL_law_667 rfl rfl rfl ?_
  refine g_iload_n 669 3 K dL_law_668 rfl rfl rfl ?_
  refine g_iconst 670 5 K dL_law_669 rfl (by decide) ?_
  refine g_iadd 671 K dL_law_670 rfl ?_
  refine g_sld 672 K hX hbl hbA (vp_j (k := 5) hj (by decide) hL) dL_law_671 rfl ?_
  refine g_lawC 675 [] K hs (c_X6_feed hc) km_L_99 kI_X6_feed kS_X6_feed kC_X6_feed mw_X6_feed ⟨by decide, by decide, by decide, by decide⟩ rfl rfl (Nat.le_of_ble_eq_true rfl) dL_law_672 rfl ?_
  have K : Ok p s m #[Value.ref b] c code 4 RL D (tyL cI cB cZ) (fun x : Nat => s.heap.size ≤ x) (cw (wL q q' n cI cB cZ S2 T)) := Ok_w K0 (hD S2 T)
  refine g_aload_n 676 2 K dL_law_675 rfl rfl rfl ?_
  refine g_aload_n 677 0 K dL_law_676 rfl rfl rfl ?_
  refine g_iload_n 678 3 K dL_law_677 rfl rfl rfl ?_
  refine g_iconst 679 1 K dL_law_678 rfl (by decide) ?_
  refine g_iadd 680 K dL_law_679 rfl ?_
  refine g_sld 681 K hX hbl hbA (vp_j (k := 1) hj (by decide) hL) dL_law_680 rfl ?_
  refine g_aload_n 682 0 K dL_law_681 rfl rfl rfl ?_
  refine g_iload_n 683 3 K dL_law_682 rfl rfl rfl ?_
  refine g_iconst 684 2 K dL_law_683 rfl (by decide) ?_
  refine g_iadd 685 K dL_law_684 rfl ?_
  refine g_sld 686 K hX hbl hbA (vp_j (k := 2) hj (by decide) hL) dL_law_685 rfl ?_
  refine g_aload_n 687 0 K dL_law_686 rfl rfl rfl ?_
  refine g_iload_n 688 3 K dL_law_687 rfl rfl rfl ?_
  refine g_iconst 689 3 K dL_law_688 rfl (by decide) ?_
  refine g_iadd 690 K dL_law_689 rfl ?_
  refine g_sld 691 K hX hbl hbA (vp_j (k := 3) hj (by decide) hL) dL_law_690 rfl ?_
  refine g_aload_n 692 0 K dL_law_691 rfl rfl rfl ?_
  refine g_iload_n 693 3 K dL_law_692 rfl rfl rfl ?_
  refine g_iconst 694 4 K dL_law_693 rfl (by decide) ?_
  refine g_iadd 695 K dL_law_694 rfl ?_
  refine g_sld 696 K hX hbl hbA (vp_j (k := 4) hj (by decide) hL) dL_law_695 rfl ?_
  refine g_aload_n 697 0 K dL_law_696 rfl rfl rfl ?_
  refine g_iload_n 698 3 K dL_law_697 rfl rfl rfl ?_
  refine g_iconst 699 5 K dL_law_698 rfl (by decide) ?_
  refine g_iadd 700 K dL_law_699 rfl ?_
  refine g_sld 701 K hX hbl hbA (vp_j (k := 5) hj (by decide) hL) dL_law_700 rfl ?_
  refine g_lawM 704 [.int r] K hs (c_X7_feed hm) km_L_103 kI_X7_feed kS_X7_feed kC_X7_feed mw_X7_feed ⟨by decide, by decide, by decide, by decide⟩ rfl rfl (Nat.le_of_ble_eq_true rfl) dL_law_701 rfl ?_
  have K : Ok p s m #[Value.ref b] c code 4 RL D (tyL cI cB cZ) (fun x : Nat => s.heap.size ≤ x) (cw (wL q q' n cI cB cZ S2 T2)) := Ok_w K0 (hD S2 T2)
  refine h_icmp_eq 834 707 K dL_law_704 (by decide) rfl (fun _ => ?_) (fun h => absurd rfl h)
  exact hnext S2 T2 hR
set_option maxRecDepth 20000 in
set_option maxHeartbeats 4000000 in
theorem law_end {p : Program} {l : Launch} {e : Env} {s : State} {m : MethodId} {below : List Frame} {meth : Method} {c : Code} {D : va_G} {q q' : Nat → Nat} {n : Nat} {cI cB cZ : ClassId} {adK adV : Nat → Nat} {b L : Nat} {xs : Nat → Int32} {N : Nat} {Rl : Nat → St → St → Prop} (hD : ∀ S T, va_D (fun x : Nat => s.heap.size ≤ x) (wL q q' n cI cB cZ S T)) (K0 : Ok p s m #[Value.ref b] c code 4 RL D (tyL cI cB cZ) (fun x : Nat => s.heap.size ≤ x) (cw (wL q q' n cI cB cZ S0 S0))) (hs : Fx adK adV (fun x : Nat => s.heap.size ≤ x) s) (hX : va_X b L xs s s.heap) (hbl : b < s.heap.size) (hL : L ≤ 3073) {S T : St} {j : Nat} (hj : j + 6 ≤ L) (hst : Sp1 f_X6_end f_X7_end N Rl) (hRl : Rl n S T) (hnext : ∀ S T, Rl n S T → G p l e room_1 s m #[Value.ref b] below meth c 53 12579 (lw_Z below #[Value.ref b] s) 4 D (fun x : Nat => s.heap.size ≤ x) (cw (wL q q' n cI cB cZ S T)) S0 834 [(0, .ref b), (1, .ref (q 0)), (2, .ref (q' 0)), (3, .int (nI j))] []) : G p l e room_1 s m #[Value.ref b] below meth c 53 12579 (lw_Z below #[Value.ref b] s) 4 D (fun x : Nat => s.heap.size ≤ x) (cw (wL q q' n cI cB cZ S T)) S0 709 [(0, .ref b), (1, .ref (q 0)), (2, .ref (q' 0)), (3, .int (nI j))] [] := by
  obtain ⟨r, S2, T2, hc, hm, hR⟩ := hst n S T (xs (nI j + 1).toNatClampNeg) hRl
  have hbA : ¬ (fun x : Nat => s.heap.size ≤ x) b := Nat.not_le.mpr hbl
  have K : Ok p s m #[Value.ref b] c code 4 RL D (tyL cI cB cZ) (fun x : Nat => s.heap.size ≤ x) (cw (wL q q' n cI cB cZ S T)) := Ok_w K0 (hD S T)
  refine g_aload_n 710 1 K dL_law_709 rfl rfl rfl ?_
  refine g_aload_n 711 0 K dL_law_710 rfl rfl rfl ?_
  refine g_iload_n 712 3 K dL_law_711 rfl rfl rfl ?_
  refine g_iconst 713 1 K dL_law_712 rfl (by decide) ?_
  refine g_iadd 714 K dL_law_713 rfl ?_
  refine g_sld 715 K hX hbl hbA (vp_j (k := 1) hj (by decide) hL) dL_law_714 rfl ?_
  refine g_lawC 718 [] K hs (c_X6_end hc) km_L_104 kI_X6_end kS_X6_end kC_X6_end mw_X6_end ⟨by decide, by decide, by decide, by decide⟩ rfl rfl (Nat.le_of_ble_eq_true rfl) dL_law_715 rfl ?_
  have K : Ok p s m #[Value.ref b] c code 4 RL D (tyL cI cB cZ) (fun x : Nat => s.heap.size ≤ x) (cw (wL q q' n cI cB cZ S2 T)) := Ok_w K0 (hD S2 T)
  refine g_aload_n 719 2 K dL_law_718 rfl rfl rfl ?_
  refine g_aload_n 720 0 K dL_law_719 rfl rfl rfl ?_
  refine g_iload_n 721 3 K dL_law_720 rfl rfl rfl ?_
  refine g_iconst 722 1 K dL_law_721 rfl (by decide) ?_
  refine g_iadd 723 K dL_law_722 rfl ?_
  refine g_sld 724 K hX hbl hbA (vp_j (k := 1) hj (by decide) hL) dL_law_723 rfl ?_
  refine g_lawM 727 [.int r] K hs (c_X7_end hm) km_L_107 kI_X7_end kS_X7_end kC_X7_end mw_X7_end ⟨by decide, by decide, by decide, by decide⟩ rfl rfl (Nat.le_of_ble_eq_true rfl) dL_law_724 rfl ?_
  have K : Ok p s m #[Value.ref b] c code 4 RL D (tyL cI cB cZ) (fun x : Nat => s.heap.size ≤ x) (cw (wL q q' n cI cB cZ S2 T2)) := Ok_w K0 (hD S2 T2)
  refine h_icmp_eq 834 730 K dL_law_727 (by decide) rfl (fun _ => ?_) (fun h => absurd rfl h)
  exact hnext S2 T2 hR
set_option maxRecDepth 20000 in
set_option maxHeartbeats 4000000 in
theorem law_tolls {p : Program} {l : Launch} {e : Env} {s : State} {m : MethodId} {below : List Frame} {meth : Method} {c : Code} {D : va_G} {q q' : Nat → Nat} {n : Nat} {cI cB cZ : ClassId} {adK adV : Nat → Nat} {b L : Nat} {xs : Nat → Int32} {N : Nat} {Rl : Nat → St → St → Prop} (hD : ∀ S T, va_D (fun x : Nat => s.heap.size ≤ x) (wL q q' n cI cB cZ S T)) (K0 : Ok p s m #[Value.ref b] c code 4 RL D (tyL cI cB cZ) (fun x : Nat => s.heap.size ≤ x) (cw (wL q q' n cI cB cZ S0 S0))) (hs : Fx adK adV (fun x : Nat => s.heap.size ≤ x) s) (hX : va_X b L xs s s.heap) (hbl : b < s.heap.size) (hL : L ≤ 3073) {S T : St} {j : Nat} (hj : j + 6 ≤ L) (hst : Sp0 f_X6_tolls f_X7_tolls N Rl) (hRl : Rl n S T) (hnext : ∀ S T, Rl n S T → G p l e room_1 s m #[Value.ref b] below meth c 53 12579 (lw_Z below #[Value.ref b] s) 4 D (fun x : Nat => s.heap.size ≤ x) (cw (wL q q' n cI cB cZ S T)) S0 834 [(0, .ref b), (1, .ref (q 0)), (2, .ref (q' 0)), (3, .int (nI j))] []) : G p l e room_1 s m #[Value.ref b] below meth c 53 12579 (lw_Z below #[Value.ref b] s) 4 D (fun x : Nat => s.heap.size ≤ x) (cw (wL q q' n cI cB cZ S T)) S0 732 [(0, .ref b), (1, .ref (q 0)), (2, .ref (q' 0)), (3, .int (nI j))] [] := by
  obtain ⟨r, S2, T2, hc, hm, hR⟩ := hst n S T hRl
  have hbA : ¬ (fun x : Nat => s.heap.size ≤ x) b := Nat.not_le.mpr hbl
  have K : Ok p s m #[Value.ref b] c code 4 RL D (tyL cI cB cZ) (fun x : Nat => s.heap.size ≤ x) (cw (wL q q' n cI cB cZ S T)) := Ok_w K0 (hD S T)
  refine g_aload_n 733 1 K dL_law_732 rfl rfl rfl ?_
  refine g_lawC 736 [] K hs (c_X6_tolls hc) km_L_108 kI_X6_tolls kS_X6_tolls kC_X6_tolls mw_X6_tolls ⟨by decide, by decide, by decide, by decide⟩ rfl rfl (Nat.le_of_ble_eq_true rfl) dL_law_733 rfl ?_
  have K : Ok p s m #[Value.ref b] c code 4 RL D (tyL cI cB cZ) (fun x : Nat => s.heap.size ≤ x) (cw (wL q q' n cI cB cZ S2 T)) := Ok_w K0 (hD S2 T)
  refine g_aload_n 737 2 K dL_law_736 rfl rfl rfl ?_
  refine g_lawM 740 [.int r] K hs (c_X7_tolls hm) km_L_111 kI_X7_tolls kS_X7_tolls kC_X7_tolls mw_X7_tolls ⟨by decide, by decide, by decide, by decide⟩ rfl rfl (Nat.le_of_ble_eq_true rfl) dL_law_737 rfl ?_
  have K : Ok p s m #[Value.ref b] c code 4 RL D (tyL cI cB cZ) (fun x : Nat => s.heap.size ≤ x) (cw (wL q q' n cI cB cZ S2 T2)) := Ok_w K0 (hD S2 T2)
  refine h_icmp_eq 834 743 K dL_law_740 (by decide) rfl (fun _ => ?_) (fun h => absurd rfl h)
  exact hnext S2 T2 hR
set_option maxRecDepth 20000 in
set_option maxHeartbeats 4000000 in
theorem law_fault {p : Program} {l : Launch} {e : Env} {s : State} {m : MethodId} {below : List Frame} {meth : Method} {c : Code} {D : va_G} {q q' : Nat → Nat} {n : Nat} {cI cB cZ : ClassId} {adK adV : Nat → Nat} {b L : Nat} {xs : Nat → Int32} {N : Nat} {Rl : Nat → St → St → Prop} (hD : ∀ S T, va_D (fun x : Nat => s.heap.size ≤ x) (wL q q' n cI cB cZ S T)) (K0 : Ok p s m #[Value.ref b] c code 4 RL D (tyL cI cB cZ) (fun x : Nat => s.heap.size ≤ x) (cw (wL q q' n cI cB cZ S0 S0))) (hs : Fx adK adV (fun x : Nat => s.heap.size ≤ x) s) (hX : va_X b L xs s s.heap) (hbl : b < s.heap.size) (hL : L ≤ 3073) {S T : St} {j : Nat} (hj : j + 6 ≤ L) (hst : Sp1 f_X6_fault f_X7_fault N Rl) (hRl : Rl n S T) (hnext : ∀ S T, Rl n S T → G p l e room_1 s m #[Value.ref b] below meth c 53 12579 (lw_Z below #[Value.ref b] s) 4 D (fun x : Nat => s.heap.size ≤ x) (cw (wL q q' n cI cB cZ S T)) S0 834 [(0, .ref b), (1, .ref (q 0)), (2, .ref (q' 0)), (3, .int (nI j))] []) : G p l e room_1 s m #[Value.ref b] below meth c 53 12579 (lw_Z below #[Value.ref b] s) 4 D (fun x : Nat => s.heap.size ≤ x) (cw (wL q q' n cI cB cZ S T)) S0 745 [(0, .ref b), (1, .ref (q 0)), (2, .ref (q' 0)), (3, .int (nI j))] [] := by
  obtain ⟨r, S2, T2, hc, hm, hR⟩ := hst n S T (xs (nI j + 1).toNatClampNeg) hRl
  have hbA : ¬ (fun x : Nat => s.heap.size ≤ x) b := Nat.not_le.mpr hbl
  have K : Ok p s m #[Value.ref b] c code 4 RL D (tyL cI cB cZ) (fun x : Nat => s.heap.size ≤ x) (cw (wL q q' n cI cB cZ S T)) := Ok_w K0 (hD S T)
  refine g_aload_n 746 1 K dL_law_745 rfl rfl rfl ?_
  refine g_aload_n 747 0 K dL_law_746 rfl rfl rfl ?_
  refine g_iload_n 748 3 K dL_law_747 rfl rfl rfl ?_
  refine g_iconst 749 1 K dL_law_748 rfl (by decide) ?_
  refine g_iadd 750 K dL_law_749 rfl ?_
  refine g_sld 751 K hX hbl hbA (vp_j (k := 1) hj (by decide) hL) dL_law_750 rfl ?_
  refine g_lawC 754 [] K hs (c_X6_fault hc) km_L_112 kI_X6_fault kS_X6_fault kC_X6_fault mw_X6_fault ⟨by decide, by decide, by decide, by decide⟩ rfl rfl (Nat.le_of_ble_eq_true rfl) dL_law_751 rfl ?_
  have K : Ok p s m #[Value.ref b] c code 4 RL D (tyL cI cB cZ) (fun x : Nat => s.heap.size ≤ x) (cw (wL q q' n cI cB cZ S2 T)) := Ok_w K0 (hD S2 T)
  refine g_aload_n 755 2 K dL_law_754 rfl rfl rfl ?_
  refine g_aload_n 756 0 K dL_law_755 rfl rfl rfl ?_
  refine g_iload_n 757 3 K dL_law_756 rfl rfl rfl ?_
  refine g_iconst 758 1 K dL_law_757 rfl (by decide) ?_
  refine g_iadd 759 K dL_law_758 rfl ?_
  refine g_sld 760 K hX hbl hbA (vp_j (k := 1) hj (by decide) hL) dL_law_759 rfl ?_
  refine g_lawM 763 [.int r] K hs (c_X7_fault hm) km_L_115 kI_X7_fault kS_X7_fault kC_X7_fault mw_X7_fault ⟨by decide, by decide, by decide, by decide⟩ rfl rfl (Nat.le_of_ble_eq_true rfl) dL_law_760 rfl ?_
  have K : Ok p s m #[Value.ref b] c code 4 RL D (tyL cI cB cZ) (fun x : Nat => s.heap.size ≤ x) (cw (wL q q' n cI cB cZ S2 T2)) := Ok_w K0 (hD S2 T2)
  refine h_icmp_eq 834 766 K dL_law_763 (by decide) rfl (fun _ => ?_) (fun h => absurd rfl h)
  exact hnext S2 T2 hR
set_option maxRecDepth 20000 in
set_option maxHeartbeats 4000000 in
theorem law_pass {p : Program} {l : Launch} {e : Env} {s : State} {m : MethodId} {below : List Frame} {meth : Method} {c : Code} {D : va_G} {q q' : Nat → Nat} {n : Nat} {cI cB cZ : ClassId} {adK adV : Nat → Nat} {b L : Nat} {xs : Nat → Int32} {N : Nat} {Rl : Nat → St → St → Prop} (hD : ∀ S T, va_D (fun x : Nat => s.heap.size ≤ x) (wL q q' n cI cB cZ S T)) (K0 : Ok p s m #[Value.ref b] c code 4 RL D (tyL cI cB cZ) (fun x : Nat => s.heap.size ≤ x) (cw (wL q q' n cI cB cZ S0 S0))) (hs : Fx adK adV (fun x : Nat => s.heap.size ≤ x) s) (hX : va_X b L xs s s.heap) (hbl : b < s.heap.size) (hL : L ≤ 3073) {S T : St} {j : Nat} (hj : j + 6 ≤ L) (hst : Sp3 f_X6_pass f_X7_pass N Rl) (hRl : Rl n S T) (hnext : ∀ S T, Rl n S T → G p l e room_1 s m #[Value.ref b] below meth c 53 12579 (lw_Z below #[Value.ref b] s) 4 D (fun x : Nat => s.heap.size ≤ x) (cw (wL q q' n cI cB cZ S T)) S0 834 [(0, .ref b), (1, .ref (q 0)), (2, .ref (q' 0)), (3, .int (nI j))] []) : G p l e room_1 s m #[Value.ref b] below meth c 53 12579 (lw_Z below #[Value.ref b] s) 4 D (fun x : Nat => s.heap.size ≤ x) (cw (wL q q' n cI cB cZ S T)) S0 768 [(0, .ref b), (1, .ref (q 0)), (2, .ref (q' 0)), (3, .int (nI j))] [] := by
  obtain ⟨r, S2, T2, hc, hm, hR⟩ := hst n S T (xs (nI j + 1).toNatClampNeg) (xs (nI j + 2).toNatClampNeg) (xs (nI j + 3).toNatClampNeg) hRl
  have hbA : ¬ (fun x : Nat => s.heap.size ≤ x) b := Nat.not_le.mpr hbl
  have K : Ok p s m #[Value.ref b] c code 4 RL D (tyL cI cB cZ) (fun x : Nat => s.heap.size ≤ x) (cw (wL q q' n cI cB cZ S T)) := Ok_w K0 (hD S T)
  refine g_aload_n 769 1 K dL_law_768 rfl rfl rfl ?_
  refine g_aload_n 770 0 K dL_law_769 rfl rfl rfl ?_
  refine g_iload_n 771 3 K dL_law_770 rfl rfl rfl ?_
  refine g_iconst 772 1 K dL_law_771 rfl (by decide) ?_
  refine g_iadd 773 K dL_law_772 rfl ?_
  refine g_sld 774 K hX hbl hbA (vp_j (k := 1) hj (by decide) hL) dL_law_773 rfl ?_
  refine g_aload_n 775 0 K dL_law_774 rfl rfl rfl ?_
  refine g_iload_n 776 3 K dL_law_775 rfl rfl rfl ?_
  refine g_iconst 777 2 K dL_law_776 rfl (by decide) ?_
  refine g_iadd 778 K dL_law_777 rfl ?_
  refine g_sld 779 K hX hbl hbA (vp_j (k := 2) hj (by decide) hL) dL_law_778 rfl ?_
  refine g_aload_n 780 0 K dL_law_779 rfl rfl rfl ?_
  refine g_iload_n 781 3 K dL_law_780 rfl rfl rfl ?_
  refine g_iconst 782 3 K dL_law_781 rfl (by decide) ?_
  refine g_iadd 783 K dL_law_782 rfl ?_
  refine g_sld 784 K hX hbl hbA (vp_j (k := 3) hj (by decide) hL) dL_law_783 rfl ?_
  refine g_lawC 787 [] K hs (c_X6_pass hc) km_L_116 kI_X6_pass kS_X6_pass kC_X6_pass mw_X6_pass ⟨by decide, by decide, by decide, by decide⟩ rfl rfl (Nat.le_of_ble_eq_true rfl) dL_law_784 rfl ?_
  have K : Ok p s m #[Value.ref b] c code 4 RL D (tyL cI cB cZ) (fun x : Nat => s.heap.size ≤ x) (cw (wL q q' n cI cB cZ S2 T)) := Ok_w K0 (hD S2 T)
  refine g_aload_n 788 2 K dL_law_787 rfl rfl rfl ?_
  refine g_aload_n 789 0 K dL_law_788 rfl rfl rfl ?_
  refine g_iload_n 790 3 K dL_law_789 rfl rfl rfl ?_
  refine g_iconst 791 1 K dL_law_790 rfl (by decide) ?_
  refine g_iadd 792 K dL_law_791 rfl ?_
  refine g_sld 793 K hX hbl hbA (vp_j (k := 1) hj (by decide) hL) dL_law_792 rfl ?_
  refine g_aload_n 794 0 K dL_law_793 rfl rfl rfl ?_
  refine g_iload_n 795 3 K dL_law_794 rfl rfl rfl ?_
  refine g_iconst 796 2 K dL_law_795 rfl (by decide) ?_
  refine g_iadd 797 K dL_law_796 rfl ?_
  refine g_sld 798 K hX hbl hbA (vp_j (k := 2) hj (by decide) hL) dL_law_797 rfl ?_
  refine g_aload_n 799 0 K dL_law_798 rfl rfl rfl ?_
  refine g_iload_n 800 3 K dL_law_799 rfl rfl rfl ?_
  refine g_iconst 801 3 K dL_law_800 rfl (by decide) ?_
  refine g_iadd 802 K dL_law_801 rfl ?_
  refine g_sld 803 K hX hbl hbA (vp_j (k := 3) hj (by decide) hL) dL_law_802 rfl ?_
  refine g_lawM 806 [.int r] K hs (c_X7_pass hm) km_L_120 kI_X7_pass kS_X7_pass kC_X7_pass mw_X7_pass ⟨by decide, by decide, by decide, by decide⟩ rfl rfl (Nat.le_of_ble_eq_true rfl) dL_law_803 rfl ?_
  have K : Ok p s m #[Value.ref b] c code 4 RL D (tyL cI cB cZ) (fun x : Nat => s.heap.size ≤ x) (cw (wL q q' n cI cB cZ S2 T2)) := Ok_w K0 (hD S2 T2)
  refine h_icmp_eq 834 809 K dL_law_806 (by decide) rfl (fun _ => ?_) (fun h => absurd rfl h)
  exact hnext S2 T2 hR
set_option maxRecDepth 20000 in
set_option maxHeartbeats 4000000 in
theorem law_about {p : Program} {l : Launch} {e : Env} {s : State} {m : MethodId} {below : List Frame} {meth : Method} {c : Code} {D : va_G} {q q' : Nat → Nat} {n : Nat} {cI cB cZ : ClassId} {adK adV : Nat → Nat} {b L : Nat} {xs : Nat → Int32} {N : Nat} {Rl : Nat → St → St → Prop} (hD : ∀ S T, va_D (fun x : Nat => s.heap.size ≤ x) (wL q q' n cI cB cZ S T)) (K0 : Ok p s m #[Value.ref b] c code 4 RL D (tyL cI cB cZ) (fun x : Nat => s.heap.size ≤ x) (cw (wL q q' n cI cB cZ S0 S0))) (hs : Fx adK adV (fun x : Nat => s.heap.size ≤ x) s) (hX : va_X b L xs s s.heap) (hbl : b < s.heap.size) (hL : L ≤ 3073) {S T : St} {j : Nat} (hj : j + 6 ≤ L) (hst : Sp1 f_X6_about f_X7_about N Rl) (hRl : Rl n S T) (hnext : ∀ S T, Rl n S T → G p l e room_1 s m #[Value.ref b] below meth c 53 12579 (lw_Z below #[Value.ref b] s) 4 D (fun x : Nat => s.heap.size ≤ x) (cw (wL q q' n cI cB cZ S T)) S0 834 [(0, .ref b), (1, .ref (q 0)), (2, .ref (q' 0)), (3, .int (nI j))] []) : G p l e room_1 s m #[Value.ref b] below meth c 53 12579 (lw_Z below #[Value.ref b] s) 4 D (fun x : Nat => s.heap.size ≤ x) (cw (wL q q' n cI cB cZ S T)) S0 811 [(0, .ref b), (1, .ref (q 0)), (2, .ref (q' 0)), (3, .int (nI j))] [] := by
  obtain ⟨r, S2, T2, hc, hm, hR⟩ := hst n S T (xs (nI j + 1).toNatClampNeg) hRl
  have hbA : ¬ (fun x : Nat => s.heap.size ≤ x) b := Nat.not_le.mpr hbl
  have K : Ok p s m #[Value.ref b] c code 4 RL D (tyL cI cB cZ) (fun x : Nat => s.heap.size ≤ x) (cw (wL q q' n cI cB cZ S T)) := Ok_w K0 (hD S T)
  refine g_aload_n 812 1 K dL_law_811 rfl rfl rfl ?_
  refine g_aload_n 813 0 K dL_law_812 rfl rfl rfl ?_
  refine g_iload_n 814 3 K dL_law_813 rfl rfl rfl ?_
  refine g_iconst 815 1 K dL_law_814 rfl (by decide) ?_
  refine g_iadd 816 K dL_law_815 rfl ?_
  refine g_sld 817 K hX hbl hbA (vp_j (k := 1) hj (by decide) hL) dL_law_816 rfl ?_
  refine g_lawC 820 [] K hs (c_X6_about hc) km_L_121 kI_X6_about kS_X6_about kC_X6_about mw_X6_about ⟨by decide, by decide, by decide, by decide⟩ rfl rfl (Nat.le_of_ble_eq_true rfl) dL_law_817 rfl ?_
  have K : Ok p s m #[Value.ref b] c code 4 RL D (tyL cI cB cZ) (fun x : Nat => s.heap.size ≤ x) (cw (wL q q' n cI cB cZ S2 T)) := Ok_w K0 (hD S2 T)
  refine g_aload_n 821 2 K dL_law_820 rfl rfl rfl ?_
  refine g_aload_n 822 0 K dL_law_821 rfl rfl rfl ?_
  refine g_iload_n 823 3 K dL_law_822 rfl rfl rfl ?_
  refine g_iconst 824 1 K dL_law_823 rfl (by decide) ?_
  refine g_iadd 825 K dL_law_824 rfl ?_
  refine g_sld 826 K hX hbl hbA (vp_j (k := 1) hj (by decide) hL) dL_law_825 rfl ?_
  refine g_lawM 829 [.int r] K hs (c_X7_about hm) km_L_124 kI_X7_about kS_X7_about kC_X7_about mw_X7_about ⟨by decide, by decide, by decide, by decide⟩ rfl rfl (Nat.le_of_ble_eq_true rfl) dL_law_826 rfl ?_
  have K : Ok p s m #[Value.ref b] c code 4 RL D (tyL cI cB cZ) (fun x : Nat => s.heap.size ≤ x) (cw (wL q q' n cI cB cZ S2 T2)) := Ok_w K0 (hD S2 T2)
  refine h_icmp_eq 834 832 K dL_law_829 (by decide) rfl (fun _ => ?_) (fun h => absurd rfl h)
  exact hnext S2 T2 hR
theorem law_le {L j : Nat} (hL : L ≤ 3073) (hj : j ≤ L + 7) : (nI L - 6 < nI j) ↔ ¬ (j + 6 ≤ L) := by
  have e1 : (nI L - nI 6).toInt = (L : Int) - 6 := pk_sub_toInt (by omega) (by omega)
  have e2 : (nI j).toInt = (j : Int) := nI_toInt (by omega)
  have e3 : (6 : Int32) = nI 6 := rfl
  rw [e3, Int32.lt_iff_toInt_lt, e1, e2]
  omega
set_option maxRecDepth 20000 in
set_option maxHeartbeats 4000000 in
theorem law_head {p : Program} {l : Launch} {e : Env} {s : State} {m : MethodId} {below : List Frame} {meth : Method} {c : Code} {D : va_G} {q q' : Nat → Nat} {n : Nat} {cI cB cZ : ClassId} {b L : Nat} {xs : Nat → Int32} (hD : ∀ S T, va_D (fun x : Nat => s.heap.size ≤ x) (wL q q' n cI cB cZ S T)) (K0 : Ok p s m #[Value.ref b] c code 4 RL D (tyL cI cB cZ) (fun x : Nat => s.heap.size ≤ x) (cw (wL q q' n cI cB cZ S0 S0))) (hX : va_X b L xs s s.heap) (hbl : b < s.heap.size) (hL : L ≤ 3073) (hx : p.tables.exec = Jvm.exec) (hb : c.code = code) (hr : meth.sig.returnType = ret) (hlocks : meth.locks = false) {j : Nat} (S T : St) (hj : j ≤ L + 7) (kk : j + 6 ≤ L → G p l e room_1 s m #[Value.ref b] below meth c 53 12579 (lw_Z below #[Value.ref b] s) 4 D (fun x : Nat => s.heap.size ≤ x) (cw (wL q q' n cI cB cZ S T)) S0 37 [(0, .ref b), (1, .ref (q 0)), (2, .ref (q' 0)), (3, .int (nI j))] []) : G p l e room_1 s m #[Value.ref b] below meth c 53 12579 (lw_Z below #[Value.ref b] s) 4 D (fun x : Nat => s.heap.size ≤ x) (cw (wL q q' n cI cB cZ S T)) S0 28 [(0, .ref b), (1, .ref (q 0)), (2, .ref (q' 0)), (3, .int (nI j))] [] := by
  have hbA : ¬ (fun x : Nat => s.heap.size ≤ x) b := Nat.not_le.mpr hbl
  have K : Ok p s m #[Value.ref b] c code 4 RL D (tyL cI cB cZ) (fun x : Nat => s.heap.size ≤ x) (cw (wL q q' n cI cB cZ S T)) := Ok_w K0 (hD S T)
  refine g_iload_n 29 3 K dL_law_28 rfl rfl rfl ?_
  refine g_aload_n 30 0 K dL_law_29 rfl rfl rfl ?_
  refine g_slen' 31 K hX hbl hbA dL_law_30 rfl ?_
  refine g_bipush 33 6 K dL_law_31 rfl (by decide) ?_
  refine g_isub 34 K dL_law_33 rfl ?_
  refine h_icmp_gt 840 37 K dL_law_34 (by decide) rfl (fun h => ?_) (fun h => ?_)
  · refine g_iconst 841 1 K dL_law_840 rfl (by decide) ?_
    intro H locs ls hP hS hl
    refine va_forget (fun q hq => hS.2.2 q hq) ?_
    refine W.widen (k := 600000) (n := 7302249) (by decide) (by decide) ?_
    exact lw_ret hx hb hr hlocks dL_law_841
  · refine kk ?_
    rcases Nat.lt_or_ge L (j + 6) with h2 | h2
    · exact absurd ((law_le hL hj).mpr (by omega)) h
    · exact h2
set_option maxRecDepth 20000 in
set_option maxHeartbeats 4000000 in
theorem law_loop {p : Program} {l : Launch} {e : Env} {s : State} {m : MethodId} {below : List Frame} {meth : Method} {c : Code} {D : va_G} {q q' : Nat → Nat} {n : Nat} {cI cB cZ : ClassId} {adK adV : Nat → Nat} {b L : Nat} {xs : Nat → Int32} {N : Nat} {Rl : Nat → St → St → Prop} (hD : ∀ S T, va_D (fun x : Nat => s.heap.size ≤ x) (wL q q' n cI cB cZ S T)) (K0 : Ok p s m #[Value.ref b] c code 4 RL D (tyL cI cB cZ) (fun x : Nat => s.heap.size ≤ x) (cw (wL q q' n cI cB cZ S0 S0))) (hs : Fx adK adV (fun x : Nat => s.heap.size ≤ x) s) (hX : va_X b L xs s s.heap) (hbl : b < s.heap.size) (hL : L ≤ 3073) (hx : p.tables.exec = Jvm.exec) (hb : c.code = code) (hr : meth.sig.returnType = ret) (hlocks : meth.locks = false) (hall : SpAll N Rl) : ∀ (d j : Nat) (S T : St), L < j + 6 * d → j ≤ L + 7 → Rl n S T → G p l e room_1 s m #[Value.ref b] below meth c 53 12579 (lw_Z below #[Value.ref b] s) 4 D (fun x : Nat => s.heap.size ≤ x) (cw (wL q q' n cI cB cZ S T)) S0 28 [(0, .ref b), (1, .ref (q 0)), (2, .ref (q' 0)), (3, .int (nI j))] [] := by
  have hbA : ¬ (fun x : Nat => s.heap.size ≤ x) b := Nat.not_le.mpr hbl
  obtain ⟨h_hull, h_pull, h_drags, h_cart, h_clear, h_pressed, h_worst, h_gap, h_ship, h_crosser, h_times, h_waits, h_opening, h_atOnce, h_level, h_flood, h_out, h_outOn, h_feed, h_end, h_tolls, h_fault, h_pass, h_about⟩ := hall
  intro d
  induction d with
  | zero =>
    intro j S T hd hj hRl
    exact law_head hD K0 hX hbl hL hx hb hr hlocks S T hj (fun h => absurd h (by omega))
  | succ d ih =>
    intro j S T hd hj0 hRl
    refine law_head hD K0 hX hbl hL hx hb hr hlocks S T hj0 (fun hj => ?_)
    have K : Ok p s m #[Value.ref b] c code 4 RL D (tyL cI cB cZ) (fun x : Nat => s.heap.size ≤ x) (cw (wL q q' n cI cB cZ S T)) := Ok_w K0 (hD S T)
    have hnext : ∀ S T, Rl n S T → G p l e room_1 s m #[Value.ref b] below meth c 53 12579 (lw_Z below #[Value.ref b] s) 4 D (fun x : Nat => s.heap.size ≤ x) (cw (wL q q' n cI cB cZ S T)) S0 834 [(0, .ref b), (1, .ref (q 0)), (2, .ref (q' 0)), (3, .int (nI j))] [] := by
      intro S T hR
      have K : Ok p s m #[Value.ref b] c code 4 RL D (tyL cI cB cZ) (fun x : Nat => s.heap.size ≤ x) (cw (wL q q' n cI cB cZ S T)) := Ok_w K0 (hD S T)
      refine g_iinc (lv' := [(3, .int (nI j + 6)), (0, .ref b), (1, .ref (q 0)), (2, .ref (q' 0))]) 837 3 6 K dL_law_834 rfl rfl (by decide) (by decide) rfl ?_
      refine g_goto 28 K dL_law_837 (by decide) ?_
      refine g_sub [1, 2, 3, 0] rfl ?_
      have e : nI j + 6 = nI (j + 6) := nI_add j 6
      rw [e]
      exact ih (j + 6) S T (by omega) (by omega) hR
    refine g_aload_n 38 0 K dL_law_37 rfl rfl rfl ?_
    refine g_iload_n 39 3 K dL_law_38 rfl rfl rfl ?_
    refine g_sld 40 K hX hbl hbA (vp_in_nI (by omega) (by omega)) dL_law_39 rfl ?_
    refine g_bipush 42 31 K dL_law_40 rfl (by decide) ?_
    refine g_iand 43 K dL_law_42 rfl ?_
    generalize xs (nI j).toNatClampNeg &&& 31 = v
    by_cases h0 : v = 0
    · refine g_tabIn 152 0 K h0 dL_law_43 (by decide) (by decide) rfl (by decide) ?_
      exact law_hull hD K0 hs hX hbl hL hj h_hull hRl hnext
    by_cases h1 : v = 1
    · refine g_tabIn 195 1 K h1 dL_law_43 (by decide) (by decide) rfl (by decide) ?_
      exact law_pull hD K0 hs hX hbl hL hj h_pull hRl hnext
    by_cases h2 : v = 2
    · refine g_tabIn 228 2 K h2 dL_law_43 (by decide) (by decide) rfl (by decide) ?_
      exact law_drags hD K0 hs hX hbl hL hj h_drags hRl hnext
    by_cases h3 : v = 3
    · refine g_tabIn 251 3 K h3 dL_law_43 (by decide) (by decide) rfl (by decide) ?_
      exact law_cart hD K0 hs hX hbl hL hj h_cart hRl hnext
    by_cases h4 : v = 4
    · refine g_tabIn 284 4 K h4 dL_law_43 (by decide) (by decide) rfl (by decide) ?_
      exact law_clear hD K0 hs hX hbl hL hj h_clear hRl hnext
    by_cases h5 : v = 5
    · refine g_tabIn 297 5 K h5 dL_law_43 (by decide) (by decide) rfl (by decide) ?_
      exact law_pressed hD K0 hs hX hbl hL hj h_pressed hRl hnext
    by_cases h6 : v = 6
    · refine g_tabIn 330 6 K h6 dL_law_43 (by decide) (by decide) rfl (by decide) ?_
      exact law_worst hD K0 hs hX hbl hL hj h_worst hRl hnext
    by_cases h7 : v = 7
    · refine g_tabIn 353 7 K h7 dL_law_43 (by decide) (by decide) rfl (by decide) ?_
      exact law_gap hD K0 hs hX hbl hL hj h_gap hRl hnext
    by_cases h8 : v = 8
    · refine g_tabIn 366 8 K h8 dL_law_43 (by decide) (by decide) rfl (by decide) ?_
      exact law_ship hD K0 hs hX hbl hL hj h_ship hRl hnext
    by_cases h9 : v = 9
    · refine g_tabIn 389 9 K h9 dL_law_43 (by decide) (by decide) rfl (by decide) ?_
      exact law_crosser hD K0 hs hX hbl hL hj h_crosser hRl hnext
    by_cases h10 : v = 10
    · refine g_tabIn 412 10 K h10 dL_law_43 (by decide) (by decide) rfl (by decide) ?_
      exact law_times hD K0 hs hX hbl hL hj h_times hRl hnext
    by_cases h11 : v = 11
    · refine g_tabIn 465 11 K h11 dL_law_43 (by decide) (by decide) rfl (by decide) ?_
      exact law_waits hD K0 hs hX hbl hL hj h_waits hRl hnext
    by_cases h12 : v = 12
    · refine g_tabIn 478 12 K h12 dL_law_43 (by decide) (by decide) rfl (by decide) ?_
      exact law_opening hD K0 hs hX hbl hL hj h_opening hRl hnext
    by_cases h13 : v = 13
    · refine g_tabIn 511 13 K h13 dL_law_43 (by decide) (by decide) rfl (by decide) ?_
      exact law_atOnce hD K0 hs hX hbl hL hj h_atOnce hRl hnext
    by_cases h14 : v = 14
    · refine g_tabIn 524 14 K h14 dL_law_43 (by decide) (by decide) rfl (by decide) ?_
      exact law_level hD K0 hs hX hbl hL hj h_level hRl hnext
    by_cases h15 : v = 15
    · refine g_tabIn 567 15 K h15 dL_law_43 (by decide) (by decide) rfl (by decide) ?_
      exact law_flood hD K0 hs hX hbl hL hj h_flood hRl hnext
    by_cases h16 : v = 16
    · refine g_tabIn 600 16 K h16 dL_law_43 (by decide) (by decide) rfl (by decide) ?_
      exact law_out hD K0 hs hX hbl hL hj h_out hRl hnext
    by_cases h17 : v = 17
    · refine g_tabIn 613 17 K h17 dL_law_43 (by decide) (by decide) rfl (by decide) ?_
      exact law_outOn hD K0 hs hX hbl hL hj h_outOn hRl hnext
    by_cases h18 : v = 18
    · refine g_tabIn 646 18 K h18 dL_law_43 (by decide) (by decide) rfl (by decide) ?_
      exact law_feed hD K0 hs hX hbl hL hj h_feed hRl hnext
    by_cases h19 : v = 19
    · refine g_tabIn 709 19 K h19 dL_law_43 (by decide) (by decide) rfl (by decide) ?_
      exact law_end hD K0 hs hX hbl hL hj h_end hRl hnext
    by_cases h20 : v = 20
    · refine g_tabIn 732 20 K h20 dL_law_43 (by decide) (by decide) rfl (by decide) ?_
      exact law_tolls hD K0 hs hX hbl hL hj h_tolls hRl hnext
    by_cases h21 : v = 21
    · refine g_tabIn 745 21 K h21 dL_law_43 (by decide) (by decide) rfl (by decide) ?_
      exact law_fault hD K0 hs hX hbl hL hj h_fault hRl hnext
    by_cases h22 : v = 22
    · refine g_tabIn 768 22 K h22 dL_law_43 (by decide) (by decide) rfl (by decide) ?_
      exact law_pass hD K0 hs hX hbl hL hj h_pass hRl hnext
    by_cases h23 : v = 23
    · refine g_tabIn 811 23 K h23 dL_law_43 (by decide) (by decide) rfl (by decide) ?_
      exact law_about hD K0 hs hX hbl hL hj h_about hRl hnext
    refine g_tabOut 834 K (law_sw h0 h1 h2 h3 h4 h5 h6 h7 h8 h9 h10 h11 h12 h13 h14 h15 h16 h17 h18 h19 h20 h21 h22 h23) dL_law_43 (by decide) ?_
    exact hnext S T hRl
