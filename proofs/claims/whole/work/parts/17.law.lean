-- THE LAW: its rows, its calls, its start
def wL (q q' : Nat → Nat) (n : Nat) (cI cB cZ : ClassId) (S T : St) : va_W := wC q n cI cB cZ S ++ wM q' n cI cB cZ T
theorem D_wL {A : Nat → Prop} {q q' : Nat → Nat} {n : Nat} {cI cB cZ : ClassId} {S T : St} (h : va_D A (wL q q' n cI cB cZ S T)) (S2 T2 : St) : va_D A (wL q q' n cI cB cZ S2 T2) :=
  fl_D (w := fun T => wL q q' n cI cB cZ S2 T) (fun _ => rfl) (fl_D (w := fun S => wL q q' n cI cB cZ S T) (fun _ => rfl) h S2) T2
section LR
variable {p : Program} {l : Launch} {e : Env} {R : Room} {s : State} {m : MethodId} {args : Array Value} {below : List Frame} {meth : Method} {c : Code} {kc ks : Nat} {Q : State → Prop} {nL : Nat} {D : va_G} {A : Nat → Prop} {S T X0 : St} {lv : List (Nat × Value)} {cc : ByteArray} {own : String} {pc : Nat} {q q' : Nat → Nat} {n : Nat} {cI cB cZ : ClassId} {adK adV : Nat → Nat} {st : List Value} {w : St → va_W} {tys : TY}
theorem g_sld (pc' : Nat) (K : Ok p s m args c cc nL own D tys A w) {b L : Nat} {xs : Nat → Int32} (hX : va_X b L xs s s.heap) (hbl : b < s.heap.size) (hbA : ¬ A b) {i : Int32} (hin : vp_in i L) (hd : decode cc pc = .ok (.iaload, 1)) (hp : pc + 1 = pc') (kk : G p l e R s m args below meth c kc ks Q nL D A w S pc' lv (.int (xs i.toNatClampNeg) :: st)) : G p l e R s m args below meth c kc ks Q nL D A w S pc lv (.int i :: .ref b :: st) := by
  subst hp
  exact fun H locs ls hP hS hl => va_sld K.1 K.2.1 hX hbl hbA hS hin hd (kk H locs ls hP hS hl)
theorem g_slen' (pc' : Nat) (K : Ok p s m args c cc nL own D tys A w) {b L : Nat} {xs : Nat → Int32} (hX : va_X b L xs s s.heap) (hbl : b < s.heap.size) (hbA : ¬ A b) (hd : decode cc pc = .ok (.arraylength, 1)) (hp : pc + 1 = pc') (kk : G p l e R s m args below meth c kc ks Q nL D A w S pc' lv (.int (nI L) :: st)) : G p l e R s m args below meth c kc ks Q nL D A w S pc lv (.ref b :: st) := by
  subst hp
  exact fun H locs ls hP hS hl => va_slen K.1 K.2.1 hX hbl hbA hS hd (kk H locs ls hP hS hl)
theorem g_astore_n (pc' i : Nat) {lv' : List (Nat × Value)} (K : Ok p s m args c cc nL own D tys A w) {j : Fin 4} {x : Nat} (hd : decode cc pc = .ok (.astore_n j, 1)) (hp : pc + 1 = pc') (hj : (j : Nat) = i) (hn : i < nL) (hl' : (i, Value.ref x) :: lv.filter (fun q => !(q.1 == i) && !(q.1 + 1 == i && q.2.category == 2)) = lv') (k : G p l e R s m args below meth c kc ks Q nL D A w S pc' lv' st) : G p l e R s m args below meth c kc ks Q nL D A w S pc lv (.ref x :: st) := by
  subst hp
  exact fun H locs ls hP hS hl => lv_astore_n K.1 K.2.1 hd hj hl hn hl' (fun ls' h' => k H locs ls' hP hS h')
theorem h_icmp_eq (t pc' : Nat) (K : Ok p s m args c cc nL own D tys A w) {x y : Int32} {off : Int} (hd : decode cc pc = .ok (.if_icmp .eq off, 3)) (ht : (pc : Int) + off = (t : Int)) (hp : pc + 3 = pc') (ka : x = y → G p l e R s m args below meth c kc ks Q nL D A w S t lv st) (kb : ¬ x = y → G p l e R s m args below meth c kc ks Q nL D A w S pc' lv st) : G p l e R s m args below meth c kc ks Q nL D A w S pc lv (.int y :: .int x :: st) := by
  subst hp
  exact fun H locs ls hP hS hl => lv_icmp_eq K.1 K.2.1 hd ht (fun h => ka h H locs ls hP hS hl) (fun h => kb h H locs ls hP hS hl)
theorem h_icmp_gt (t pc' : Nat) (K : Ok p s m args c cc nL own D tys A w) {x y : Int32} {off : Int} (hd : decode cc pc = .ok (.if_icmp .gt off, 3)) (ht : (pc : Int) + off = (t : Int)) (hp : pc + 3 = pc') (ka : y < x → G p l e R s m args below meth c kc ks Q nL D A w S t lv st) (kb : ¬ y < x → G p l e R s m args below meth c kc ks Q nL D A w S pc' lv st) : G p l e R s m args below meth c kc ks Q nL D A w S pc lv (.int y :: .int x :: st) := by
  subst hp
  exact fun H locs ls hP hS hl => lv_icmp_gt K.1 K.2.1 hd ht (fun h => ka h H locs ls hP hS hl) (fun h => kb h H locs ls hP hS hl)
theorem h_icmp_ge (t pc' : Nat) (K : Ok p s m args c cc nL own D tys A w) {x y : Int32} {off : Int} (hd : decode cc pc = .ok (.if_icmp .ge off, 3)) (ht : (pc : Int) + off = (t : Int)) (hp : pc + 3 = pc') (ka : y ≤ x → G p l e R s m args below meth c kc ks Q nL D A w S t lv st) (kb : ¬ y ≤ x → G p l e R s m args below meth c kc ks Q nL D A w S pc' lv st) : G p l e R s m args below meth c kc ks Q nL D A w S pc lv (.int y :: .int x :: st) := by
  subst hp
  exact fun H locs ls hP hS hl => lv_icmp_ge K.1 K.2.1 hd ht (fun h => ka h H locs ls hP hS hl) (fun h => kb h H locs ls hP hS hl)
theorem sub_F {F : FT} {w1 : St → va_W} {B : va_W} (hF : Fok F) (hs : F A s) (hA : ∀ q, s.heap.size ≤ q → A q) (hDB : va_D A B) (hB : ∀ (k : Nat) (x : Nat × va_E), (w1 S0)[k]? = some x → ∃ (k2 : Nat) (x2 : Nat × va_E), B[k2]? = some x2 ∧ x2.1 = x.1) {H : Heap} {locs : List Loc} (hS : va_S A s.heap H locs) : ∀ U : State, U.heap = H → s.WarmedH U.vm → F (Aw w1 H.size) U := fun U hU hW =>
  hF.2 A _ s U hs hW (by rw [hU]; exact hS.1) (fun q h1 h2 => by rw [hU]; exact hS.2.1 q h1 h2) (fun q hq => by
    rcases hq with ⟨k, x, hk⟩ | hq
    · obtain ⟨k2, x2, h1, h2⟩ := hB k _ hk
      have h3 := hDB.2 k2 x2 h1
      rw [h2] at h3
      exact h3
    · exact hA q (Nat.le_trans hS.1 hq))
/-- a call on one of the two objects: its own world changes, the other's stays -/
theorem g_side {w1 : St → va_W} {other ws ws' : va_W} {S1 : St} {r : Int32} {st0 rest : List Value} (hfl : Flat w1) (K : Ok p s m args c cc nL own D tys A (cw ws))
    (hP1 : ∀ H, va_P D vwCl ws H → va_P D vwCl (w1 S) H) (hP2 : ∀ H, va_P D vwCl ws H → va_P D vwCl other H) (hPn : ∀ H, va_P D vwCl (w1 S1) H → va_P D vwCl other H → va_P D vwCl ws' H) (hD1 : va_D A (w1 S)) (hx : ∀ (i j : Nat) (x y : Nat × va_E), (w1 S)[i]? = some x → other[j]? = some y → x.1 ≠ y.1)
    (hr : ∀ (H : Heap) (locs : List Loc) (ls : Array Slot), va_P D vwCl ws H → va_S A s.heap H locs → lv_has ls nL lv → va_Run p l e R s m args below meth c H locs kc ks 0 0 (F0 m pc ls st0) rest (fun st oc t => PostU D w1 (some (.int r)) S1 H.size st oc t) (Aw w1 H.size))
    (kk : G p l e R s m args below meth c kc ks Q nL D A (cw ws') X0 (pc + 3) lv (.int r :: rest)) : G p l e R s m args below meth c kc ks Q nL D A (cw ws) X0 pc lv st0 := by
  intro H locs ls hP hS hl T0 hT X
  obtain ⟨v, st₀, t, T', L, h0, X', hL, e1, e2, ⟨⟨hv, hp⟩, hz, hk⟩, stp⟩ := hr H locs ls hP hS hl T0 hT X
  cases hv
  rw [h0] at hz hk
  have hAw : ∀ q, Aw w1 H.size q → A q := fl_A hfl hD1 K.2.2.2.2.2.2.2.1 hS.1
  have hap : ∀ (k : Nat) (x : Nat × va_E), other[k]? = some x → ¬ Aw w1 H.size x.1 := by
    intro k x hxk hq
    rcases hq with ⟨k2, y, hk2⟩ | hq
    · obtain ⟨y2, h2⟩ := fl_get0 hfl S hk2
      exact hx k2 k _ x h2 hxk rfl
    · exact Nat.lt_irrefl _ (Nat.lt_of_lt_of_le (hP2 H hP k x hxk).lt hq)
  have hPnew : va_P D vwCl ws' T'.heap := hPn _ (by rw [e1]; exact hp) (keep_P (hP2 H hP) (fun q h1 h2 => by rw [e1]; exact hk q h1 h2) hap)
  obtain ⟨t2, a1, b1⟩ := kk T'.heap (locs ++ L) ls hPnew
    ⟨Nat.le_trans hS.1 (by rw [e1]; exact hz), fun q h1 h2 => by rw [e1, hk q (Nat.lt_of_lt_of_le h1 hS.1) (fun z => h2 (hAw q z))]; exact hS.2.1 q h1 h2, fun q hq => by
      rcases List.mem_append.mp hq with h | h
      · exact hS.2.2 q h
      · exact hAw _ (hL q h)⟩ hl T' rfl X'
  exact ⟨t2, stp t2 a1, b1⟩
theorem side_pre {F : FT} {w1 : St → va_W} {ws : va_W} (K : Ok p s m args c cc nL own D tys A (cw ws)) (hF : Fok F) (hs : F A s) (hfl : Flat w1) (hD1 : va_D A (w1 S)) {H : Heap} {locs : List Loc} (hP : va_P D vwCl (w1 S) H) (hS : va_S A s.heap H locs) {As : List Value} : ∀ U : State, U.heap = H → s.WarmedH U.vm → va_Pc As (PreU D tys F w1 S H.size) As.toArray U := fun U hU hW =>
  ⟨rfl, by rw [hU], by rw [hU]; exact hP, va_K.moved hW.alike K.2.2.2.2.2.1, hD1.weaken (fun _ _ _ _ => trivial), hF.2 A _ s U hs hW (by rw [hU]; exact hS.1) (fun q h1 h2 => by rw [hU]; exact hS.2.1 q h1 h2) (fl_A hfl hD1 K.2.2.2.2.2.2.2.1 hS.1)⟩
theorem g_lawC (pc' : Nat) (rest : List Value) (K : Ok p s m args c cc nL own D (tyL cI cB cZ) A (cw (wL q q' n cI cB cZ S T))) (hs : Fx adK adV A s) {y : MethodName} {bytes : ByteArray} {maxL fr lo k idx : Nat} {ret : Option FieldType} {As : List Value} {r : Int32} {S1 : St} {st0 : List Value} (hM : Cn l y bytes maxL ret fr lo D (tyL cI cB cZ) (Fx adK adV) (wC q n cI cB cZ) (.ref (q 0) :: As) S (some (.int r)) S1) (h1 : Cond.methodLink own idx y ∈ big) (h2 : Cond.instanceMethod y ∈ big) (h3 : Cond.selects RX6 y y ∈ big) (h5 : Cond.code y bytes maxL ret ∈ big) (h6 : Dsc y RX6 k) (hR : fr + 1 ≤ R.frames ∧ 8 + (maxL + 11) + lo ≤ R.locals ∧ kc ≤ R.cells ∧ ks ≤ R.slots) (hn : As.length = k) (hst : st0 = As.reverse ++ .ref (q 0) :: rest) (hW : (rest.map fun v => v.category).sum ≤ 8) (hd : decode cc pc = .ok (.invokevirtual idx, 3)) (hp : pc + 3 = pc') (kk : G p l e R s m args below meth c kc ks Q nL D A (cw (wL q q' n cI cB cZ S1 T)) X0 pc' lv (.int r :: rest)) : G p l e R s m args below meth c kc ks Q nL D A (cw (wL q q' n cI cB cZ S T)) X0 pc lv st0 := by
  subst hp
  subst hst
  have hD := K.2.2.2.2.2.2.1 S0
  have hG : GoodIn big (wsV own idx RX6 y (Cond.code y bytes maxL ret :: big)) := big_sub (big_cons h1 (big_cons h2 (big_cons h3 (big_cons ki_X6 (big_cons h5 (fun _ h => h))))))
  exact g_side (w1 := wC q n cI cB cZ) (other := wM q' n cI cB cZ T) fl_wC K (fun H h => P_l h) (fun H h => P_r h) (fun H ha hb => va_P.app ha hb) (D_l hD) (fun i j x y hi hj => D_x hD hi hj)
    (fun H locs ls hP hS hl => va_runV (As := As) (rest := rest) ⟨K.1, K.2.1, K.2.2.1, K.2.2.2.1, K.2.2.2.2.1⟩ (hM H.size) (cwV k K.2.2.2.2.1 hG rfl rfl rfl h6 ⟨hR.1, hR.2.1⟩) ⟨c_blind (Fx_ok adK adV), va_recv (ci := 6) (q0 := 0) K.2.2.2.2.2.1 (P_l hP) rfl rfl, side_pre K (Fx_ok adK adV) hs fl_wC (D_l hD) (P_l hP) hS⟩ rfl hn hl.1 rfl (lv_room hW) hd ⟨hR.2.2.1, hR.2.2.2⟩) kk
theorem g_lawM (pc' : Nat) (rest : List Value) (K : Ok p s m args c cc nL own D (tyL cI cB cZ) A (cw (wL q q' n cI cB cZ S T))) (hs : Fx adK adV A s) {y : MethodName} {bytes : ByteArray} {maxL fr lo k idx : Nat} {ret : Option FieldType} {As : List Value} {r : Int32} {T1 : St} {st0 : List Value} (hM : Cn l y bytes maxL ret fr lo D (tyL cI cB cZ) (Fx adK adV) (wM q' n cI cB cZ) (.ref (q' 0) :: As) T (some (.int r)) T1) (h1 : Cond.methodLink own idx y ∈ big) (h2 : Cond.instanceMethod y ∈ big) (h3 : Cond.selects RX7 y y ∈ big) (h5 : Cond.code y bytes maxL ret ∈ big) (h6 : Dsc y RX7 k) (hR : fr + 1 ≤ R.frames ∧ 8 + (maxL + 11) + lo ≤ R.locals ∧ kc ≤ R.cells ∧ ks ≤ R.slots) (hn : As.length = k) (hst : st0 = As.reverse ++ .ref (q' 0) :: rest) (hW : (rest.map fun v => v.category).sum ≤ 8) (hd : decode cc pc = .ok (.invokevirtual idx, 3)) (hp : pc + 3 = pc') (kk : G p l e R s m args below meth c kc ks Q nL D A (cw (wL q q' n cI cB cZ S T1)) X0 pc' lv (.int r :: rest)) : G p l e R s m args below meth c kc ks Q nL D A (cw (wL q q' n cI cB cZ S T)) X0 pc lv st0 := by
  subst hp
  subst hst
  have hD := K.2.2.2.2.2.2.1 S0
  have hG : GoodIn big (wsV own idx RX7 y (Cond.code y bytes maxL ret :: big)) := big_sub (big_cons h1 (big_cons h2 (big_cons h3 (big_cons ki_X7 (big_cons h5 (fun _ h => h))))))
  exact g_side (S := T) (w1 := wM q' n cI cB cZ) (other := wC q n cI cB cZ S) fl_wM K (fun H h => P_r h) (fun H h => P_l h) (fun H ha hb => va_P.app hb ha) (D_r hD) (fun i j x y hi hj e => D_x hD hj hi e.symm)
    (fun H locs ls hP hS hl => va_runV (As := As) (rest := rest) ⟨K.1, K.2.1, K.2.2.1, K.2.2.2.1, K.2.2.2.2.1⟩ (hM H.size) (cwV k K.2.2.2.2.1 hG rfl rfl rfl h6 ⟨hR.1, hR.2.1⟩) ⟨c_blind (Fx_ok adK adV), va_recv (ci := 7) (q0 := 0) K.2.2.2.2.2.1 (P_r hP) rfl rfl, side_pre K (Fx_ok adK adV) hs fl_wM (D_r hD) (P_r hP) hS⟩ rfl hn hl.1 rfl (lv_room hW) hd ⟨hR.2.2.1, hR.2.2.2⟩) kk
end LR
/-- the script as a fact of the start -/
def FL (b L : Nat) (xs : Nat → Int32) : FT := fun A U => va_X b L xs U U.heap ∧ b < U.heap.size ∧ ¬ A b
theorem FL_ok (b L : Nat) (xs : Nat → Int32) : Fok (FL b L xs) := by
  refine ⟨fun A U g mk a h => ⟨va_X.moved (u := U) (U := U.calling g mk a) (Vm.Alike.refl U.vm) h.1, h.2⟩, fun A A' s U h hW hz hk hAB => ⟨(va_X.moved hW.alike h.1).kept (hk b h.2.1 h.2.2), Nat.lt_of_lt_of_le h.2.1 hz, fun z => h.2.2 (hAB b z)⟩⟩
def cel (L : Nat) (xs : Nat → Int32) : Int32 := if L = 0 then 0 else xs 0
theorem c_cell {l : Launch} {D : va_G} {tys : TY} {w : St → va_W} {S : St} {b L : Nat} {xs : Nat → Int32} (hw : Flat w) (hL : L ≤ 3073) : Cn l yL_cell cL_cell 2 (some .int) 0 0 D tys (FL b L xs) w [.ref b, .int 0] S (some (.int (cel L xs))) S := by
  refine c_of (by decide) hw (Nat.le_of_ble_eq_true rfl) [(0, .ref b), (1, .int 0)] rfl ?_
  intro p e s m args below meth c K hr hlk hs
  have K : Ok p s m args c cL_cell 2 RL D tys (Aw w s.heap.size) w := K
  refine g_iload_n 1 1 K dL_cell_0 rfl rfl rfl ?_
  refine g_aload_n 2 0 K dL_cell_1 rfl rfl rfl ?_
  refine g_slen' 3 K hs.1 hs.2.1 hs.2.2 dL_cell_2 rfl ?_
  refine h_icmp_ge 12 6 K dL_cell_3 (by decide) rfl (fun h => ?_) (fun h => ?_)
  · refine g_iconst 13 0 K dL_cell_12 rfl (by decide) ?_
    have hz : L = 0 := by
      rcases Nat.eq_zero_or_pos L with h2 | h2
      · exact h2
      · exact absurd h (nI_nle h2 (by omega))
    rw [show cel L xs = 0 by unfold cel; rw [if_pos hz]]
    exact g_tret K hr hlk rfl dL_cell_13
  · have hz : 0 < L := by
      rcases Nat.eq_zero_or_pos L with h2 | h2
      · subst h2; exact absurd (by decide) h
      · exact h2
    refine g_aload_n 7 0 K dL_cell_6 rfl rfl rfl ?_
    refine g_iload_n 8 1 K dL_cell_7 rfl rfl rfl ?_
    refine g_sld 9 K hs.1 hs.2.1 hs.2.2 (i := 0) (vp_in_nI (n := 0) hz (by omega)) dL_cell_8 rfl ?_
    refine g_goto 13 K dL_cell_9 (by decide) ?_
    rw [show cel L xs = xs ((0 : Int32).toNatClampNeg) by unfold cel; rw [if_neg (by omega)]; rfl]
    exact g_tret K hr hlk rfl dL_cell_13
