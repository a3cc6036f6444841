-- TEXTS: the library's length and charAt over the two constants; a row that is answered
def txl (k : Nat) : Nat := ([4, 5] : List Nat).getD k 0
def txb (k : Nat) : Nat → Int32 := fun j => (([[116, 111, 108, 108], [97, 103, 97, 105, 110]] : List (List Int32)).getD k []).getD j 0
def chv (b : Int32) : Int32 := ((b &&& 255).toUInt32 % 65536).toInt32
def txc (k : Nat) : Nat → Int32 := fun j => chv (txb k j)
section TX
variable {p : Program} {l : Launch} {e : Env} {R : Room} {s : State} {m : MethodId} {args : Array Value} {below : List Frame} {meth : Method} {c : Code} {kc ks : Nat} {Q : State → Prop} {nL : Nat} {D : va_G} {A : Nat → Prop} {w : St → va_W} {S : St} {lv lv' : List (Nat × Value)} {st : List Value} {cc : ByteArray} {own : String} {tys : TY} {pc : Nat} {α : Type} {res : α} {F : FT}
theorem h_if_eq (t pc' : Nat) (K : Ok p s m args c cc nL own D tys A w) {x : Int32} {off : Int} (hd : decode cc pc = .ok (.ifCond .eq off, 3)) (ht : (pc : Int) + off = (t : Int)) (hp : pc + 3 = pc') (ka : x = 0 → G p l e R s m args below meth c kc ks Q nL D A w S t lv st) (kb : ¬ x = 0 → G p l e R s m args below meth c kc ks Q nL D A w S pc' lv st) : G p l e R s m args below meth c kc ks Q nL D A w S pc lv (.int x :: st) := by
  subst hp
  exact fun H locs ls hP hS hl => lv_if_eq K.1 K.2.1 hd ht (fun h => ka h H locs ls hP hS hl) (fun h => kb h H locs ls hP hS hl)
theorem h_if_ne (t pc' : Nat) (K : Ok p s m args c cc nL own D tys A w) {x : Int32} {off : Int} (hd : decode cc pc = .ok (.ifCond .ne off, 3)) (ht : (pc : Int) + off = (t : Int)) (hp : pc + 3 = pc') (ka : ¬ x = 0 → G p l e R s m args below meth c kc ks Q nL D A w S t lv st) (kb : x = 0 → G p l e R s m args below meth c kc ks Q nL D A w S pc' lv st) : G p l e R s m args below meth c kc ks Q nL D A w S pc lv (.int x :: st) := by
  subst hp
  exact fun H locs ls hP hS hl => lv_if_ne K.1 K.2.1 hd ht (fun h => ka h H locs ls hP hS hl) (fun h => kb h H locs ls hP hS hl)
theorem h_if_lt (t pc' : Nat) (K : Ok p s m args c cc nL own D tys A w) {x : Int32} {off : Int} (hd : decode cc pc = .ok (.ifCond .lt off, 3)) (ht : (pc : Int) + off = (t : Int)) (hp : pc + 3 = pc') (ka : x < 0 → G p l e R s m args below meth c kc ks Q nL D A w S t lv st) (kb : ¬ x < 0 → G p l e R s m args below meth c kc ks Q nL D A w S pc' lv st) : G p l e R s m args below meth c kc ks Q nL D A w S pc lv (.int x :: st) := by
  subst hp
  exact fun H locs ls hP hS hl => lv_if_lt K.1 K.2.1 hd ht (fun h => ka h H locs ls hP hS hl) (fun h => kb h H locs ls hP hS hl)
theorem h_icmp_lt (t pc' : Nat) (K : Ok p s m args c cc nL own D tys A w) {x y : Int32} {off : Int} (hd : decode cc pc = .ok (.if_icmp .lt off, 3)) (ht : (pc : Int) + off = (t : Int)) (hp : pc + 3 = pc') (ka : x < y → G p l e R s m args below meth c kc ks Q nL D A w S t lv st) (kb : ¬ x < y → G p l e R s m args below meth c kc ks Q nL D A w S pc' lv st) : G p l e R s m args below meth c kc ks Q nL D A w S pc lv (.int y :: .int x :: st) := by
  subst hp
  exact fun H locs ls hP hS hl => lv_icmp_lt K.1 K.2.1 hd ht (fun h => ka h H locs ls hP hS hl) (fun h => kb h H locs ls hP hS hl)
theorem g_tret (K : Ok p s m args c cc nL own D tys (Aw w s.heap.size) w) {ty : FieldType} (hr : meth.sig.returnType = some ty) (hlk : meth.locks = false) {v : Int32} (hn : narrow ty (.int v) = .int v) (hd : decode cc pc = .ok (.ireturn, 1)) : G p l e R s m args below meth c 0 0 (Qm below args s D w (some (.int v)) S) nL D (Aw w s.heap.size) w S pc lv [.int v] :=
  fun H locs ls hP hS hl => W.zret K.1 K.2.1 hr hn (fun t ht hW => ⟨⟨rfl, by rw [ht]; exact hP⟩, hS.F ht⟩) hS.2.2 hd hlk
theorem g_aret (K : Ok p s m args c cc nL own D tys (Aw w s.heap.size) w) {ty : FieldType} (hr : meth.sig.returnType = some (.array ty)) (hlk : meth.locks = false) {a b : Nat} (hf : a = b) (hd : decode cc pc = .ok (.areturn, 1)) : G p l e R s m args below meth c 0 0 (Qm below args s D w (some (.ref b)) S) nL D (Aw w s.heap.size) w S pc lv [.ref a] := by
  subst hf
  exact fun H locs ls hP hS hl => W.aret K.1 K.2.1 hr (Or.inr ⟨_, rfl⟩) (Or.inr ⟨_, rfl⟩) (fun t ht hW => ⟨⟨rfl, by rw [ht]; exact hP⟩, hS.F ht⟩) hS.2.2 hd hlk
theorem g_sget (pc' : Nat) (K : Ok p s m args c cc nL own D tys A w) {o n d : String} {idx q : Nat} {v : Value} (hE : va_OF o n d v q A s s.heap) (hlk : Cond.fieldLink own idx o n d ∈ big) (hd : decode cc pc = .ok (.getfield idx, 3)) (hp : pc + 3 = pc') (kk : G p l e R s m args below meth c kc ks Q nL D A w S pc' lv (v :: st)) : G p l e R s m args below meth c kc ks Q nL D A w S pc lv (.ref q :: st) := by
  subst hp
  exact fun H locs ls hP hS hl => vk_getf K.1 K.2.1 hE hS K.2.2.2.1 (K.2.2.2.2.1 _ hlk) (fun _ h => h) hd (kk H locs ls hP hS hl)
theorem g_gets (pc' : Nat) (K : Ok p s m args c cc nL own D tys A w) {o n d : String} {idx : Nat} {v : Value} (hE : va_Z o n d v A s s.heap) (hlk : Cond.fieldLink own idx o n d ∈ big) (hd : decode cc pc = .ok (.getstatic idx, 3)) (hp : pc + 3 = pc') (kk : G p l e R s m args below meth c kc ks Q nL D A w S pc' lv (v :: st)) : G p l e R s m args below meth c kc ks Q nL D A w S pc lv st := by
  subst hp
  exact fun H locs ls hP hS hl => va_gets K.1 K.2.1 hE hS K.2.2.2.1 (K.2.2.2.2.1 _ hlk) (fun _ h => h) hd (kk H locs ls hP hS hl)
theorem g_tlen (pc' : Nat) (v : Int32) (K : Ok p s m args c cc nL own D tys A w) {ty : FieldType} {t N : Nat} {f : Nat → Value} (hT : va_T ty t N f A s s.heap) (hv : Int32.ofNat N = v) (hd : decode cc pc = .ok (.arraylength, 1)) (hp : pc + 1 = pc') (kk : G p l e R s m args below meth c kc ks Q nL D A w S pc' lv (.int v :: st)) : G p l e R s m args below meth c kc ks Q nL D A w S pc lv (.ref t :: st) := by
  subst hp
  exact fun H locs ls hP hS hl => va_tlen K.1 K.2.1 hT hS hv hd (kk H locs ls hP hS hl)
theorem g_tb (pc' : Nat) (K : Ok p s m args c cc nL own D tys A w) {t N : Nat} {f : Nat → Value} {v : Value} {i : Int32} (hT : va_T .byte t N f A s s.heap) (hin : vp_in i N) (hv : f i.toNatClampNeg = v) (hd : decode cc pc = .ok (.baload, 1)) (hp : pc + 1 = pc') (kk : G p l e R s m args below meth c kc ks Q nL D A w S pc' lv (v :: st)) : G p l e R s m args below meth c kc ks Q nL D A w S pc lv (.int i :: .ref t :: st) := by
  subst hp
  exact fun H locs ls hP hS hl => va_tb K.1 K.2.1 hT hS hin hv hd (kk H locs ls hP hS hl)
theorem g_ldcS (pc' : Nat) (K : Ok p s m args c cc nL own D tys A w) {tx : String} {idx q : Nat} (hZ : vk_R own idx tx q s) (hd : decode cc pc = .ok (.ldc idx, 2)) (hp : pc + 2 = pc') (kk : G p l e R s m args below meth c kc ks Q nL D A w S pc' lv (.ref q :: st)) : G p l e R s m args below meth c kc ks Q nL D A w S pc lv st := by
  subst hp
  exact fun H locs ls hP hS hl => va_ldcS K.1 K.2.1 K.2.2.2.1 hZ hd (kk H locs ls hP hS hl)
/-- a call whose receiver lies outside the world -/
theorem g_callVr (pc' : Nat) (rest : List Value) (K : Ok p s m args c cc nL own D tys A w) (hF : Fok F) (hs : F A s) {y : MethodName} {bytes : ByteArray} {maxL fr lo n idx b : Nat} {ret : Option FieldType} {As : List Value} {r : Int32} {S1 : St} {C : String} {st0 : List Value} (hM : Cn l y bytes maxL ret fr lo D tys F w (.ref b :: As) S (some (.int r)) S1) (h1 : Cond.methodLink own idx y ∈ big) (h2 : Cond.instanceMethod y ∈ big) (h3 : Cond.selects C y y ∈ big) (h4 : Cond.initialized C ∈ big) (h5 : Cond.code y bytes maxL ret ∈ big) (h6 : Dsc y C n) (hR : fr + 1 ≤ R.frames ∧ 8 + (maxL + 11) + lo ≤ R.locals ∧ kc ≤ R.cells ∧ ks ≤ R.slots) (hrec : ∀ (H : Heap) (locs : List Loc), va_S A s.heap H locs → ∃ cell : Cell, H[b]? = some cell ∧ cell.vm.isStatics = false ∧ s.vm.findClass C = some cell.cls) (hn : As.length = n) (hst : st0 = As.reverse ++ .ref b :: rest) (hW : (rest.map fun v => v.category).sum ≤ 8) (hd : decode cc pc = .ok (.invokevirtual idx, 3)) (hp : pc + 3 = pc') (kk : G p l e R s m args below meth c kc ks Q nL D A w S1 pc' lv (.int r :: rest)) : G p l e R s m args below meth c kc ks Q nL D A w S pc lv st0 := by
  subst hp
  subst hst
  have hG : GoodIn big (wsV own idx C y (Cond.code y bytes maxL ret :: big)) := big_sub (big_cons h1 (big_cons h2 (big_cons h3 (big_cons h4 (big_cons h5 (fun _ h => h))))))
  exact g_after (rv := some (.int r)) K (fun H locs ls hP hS hl => va_runV (As := As) (rest := rest) ⟨K.1, K.2.1, K.2.2.1, K.2.2.2.1, K.2.2.2.2.1⟩ (hM H.size) (cwV n K.2.2.2.2.1 hG rfl rfl rfl h6 ⟨hR.1, hR.2.1⟩) ⟨c_blind hF, hrec H locs hS, c_pre K hF hs hP hS⟩ rfl hn hl.1 rfl (lv_room hW) hd ⟨hR.2.2.1, hR.2.2.2⟩) kk
end TX
section TC
variable {l : Launch} {D : va_G} {tys : TY} {w : St → va_W} {S : St} {adK adV : Nat → Nat}
theorem c_coder (hw : Flat w) {k : Nat} (hk : k < 2) : Cn l yJ0_coder_7d493 cJ0_coder_7d493 1 (some .byte) 0 0 D tys (Fx adK adV) w [.ref (adK k)] S (some (.int 0)) S := by
  refine c_of (by decide) hw (Nat.le_of_ble_eq_true rfl) [(0, .ref (adK k))] rfl ?_
  intro p e s m args below meth c K hr hlk hs
  have K : Ok p s m args c cJ0_coder_7d493 1 RJ0 D tys (Aw w s.heap.size) w := K
  refine g_gets 3 K hs.2.2.2.1 kf_J0_38 dJ0_coder_7d493_0 rfl ?_
  refine h_if_eq 13 6 K dJ0_coder_7d493_3 (by decide) rfl (fun h => absurd h (by decide)) (fun _ => ?_)
  refine g_aload_n 7 0 K dJ0_coder_7d493_6 rfl rfl rfl ?_
  refine g_sget 10 K (hs.2.2.1.1 k hk).2.1 kf_J0_15 dJ0_coder_7d493_7 rfl ?_
  refine g_goto 14 K dJ0_coder_7d493_10 (by decide) ?_
  exact g_tret K hr hlk rfl dJ0_coder_7d493_14
theorem c_isLatin1 (hw : Flat w) {k : Nat} (hk : k < 2) : Cn l yJ0_isLatin1_aae02 cJ0_isLatin1_aae02 1 (some .boolean) 0 0 D tys (Fx adK adV) w [.ref (adK k)] S (some (.int 1)) S := by
  refine c_of (by decide) hw (Nat.le_of_ble_eq_true rfl) [(0, .ref (adK k))] rfl ?_
  intro p e s m args below meth c K hr hlk hs
  have K : Ok p s m args c cJ0_isLatin1_aae02 1 RJ0 D tys (Aw w s.heap.size) w := K
  refine g_gets 3 K hs.2.2.2.1 kf_J0_38 dJ0_isLatin1_aae02_0 rfl ?_
  refine h_if_eq 17 6 K dJ0_isLatin1_aae02_3 (by decide) rfl (fun h => absurd h (by decide)) (fun _ => ?_)
  refine g_aload_n 7 0 K dJ0_isLatin1_aae02_6 rfl rfl rfl ?_
  refine g_sget 10 K (hs.2.2.1.1 k hk).2.1 kf_J0_15 dJ0_isLatin1_aae02_7 rfl ?_
  refine h_if_ne 17 13 K dJ0_isLatin1_aae02_10 (by decide) rfl (fun h => absurd rfl h) (fun _ => ?_)
  refine g_iconst 14 1 K dJ0_isLatin1_aae02_13 rfl (by decide) ?_
  refine g_goto 18 K dJ0_isLatin1_aae02_14 (by decide) ?_
  exact g_tret K hr hlk rfl dJ0_isLatin1_aae02_18
theorem c_length (hw : Flat w) {k : Nat} (hk : k < 2) : Cn l yJ0_length_8abf5 cJ0_length_8abf5 1 (some .int) 1 20 D tys (Fx adK adV) w [.ref (adK k)] S (some (.int (nI (txl k)))) S := by
  refine c_of (by decide) hw (Nat.le_of_ble_eq_true rfl) [(0, .ref (adK k))] rfl ?_
  intro p e s m args below meth c K hr hlk hs
  have K : Ok p s m args c cJ0_length_8abf5 1 RJ0 D tys (Aw w s.heap.size) w := K
  refine g_aload_n 1 0 K dJ0_length_8abf5_0 rfl rfl rfl ?_
  refine g_sget 4 K (hs.2.2.1.1 k hk).2.2.1 kf_J0_9 dJ0_length_8abf5_1 rfl ?_
  refine g_tlen 5 (nI (txl k)) K (hs.2.2.1.1 k hk).2.2.2 rfl dJ0_length_8abf5_4 rfl ?_
  refine g_aload_n 6 0 K dJ0_length_8abf5_5 rfl rfl rfl ?_
  refine g_callVr 9 [.int (nI (txl k))] K (Fx_ok adK adV) hs (c_coder hw hk) km_J0_335 kI_J0_coder_7d493 kS_J0_coder_7d493 ki_J0 kC_J0_coder_7d493 mw_J0_coder_7d493 ⟨by decide, by decide, by decide, by decide⟩ (fun H locs hS => vk_recv hs.2.2.1 hk hS) rfl rfl (Nat.le_of_ble_eq_true rfl) dJ0_length_8abf5_6 rfl ?_
  refine g_ishr 10 K dJ0_length_8abf5_9 rfl ?_
  have hz : ∀ k, k < 2 → nI (txl k) >>> ((0 : Int32) &&& 31) = nI (txl k) := by decide
  rw [hz k hk]
  exact g_tret K hr hlk rfl dJ0_length_8abf5_10
theorem c_pchk (hw : Flat w) {i n : Int32} (h0 : ¬ i < 0) (h1 : i < n) {v : Value} (hv : v = .null ∨ ∃ t, v = .ref t) : Cn l yJ3_checkIndex_8e157 cJ3_checkIndex_8e157 3 (some .int) 0 0 D tys (Fx adK adV) w [.int i, .int n, v] S (some (.int i)) S := by
  refine c_of (by decide) hw (by rcases hv with rfl | ⟨t, rfl⟩ <;> exact Nat.le_of_ble_eq_true rfl) [(0, .int i), (1, .int n), (2, v)] rfl ?_
  intro p e s m args below meth c K hr hlk hs
  have K : Ok p s m args c cJ3_checkIndex_8e157 3 RJ3 D tys (Aw w s.heap.size) w := K
  refine g_iload_n 1 0 K dJ3_checkIndex_8e157_0 rfl rfl rfl ?_
  refine h_if_lt 9 4 K dJ3_checkIndex_8e157_1 (by decide) rfl (fun h => absurd h h0) (fun _ => ?_)
  refine g_iload_n 5 0 K dJ3_checkIndex_8e157_4 rfl rfl rfl ?_
  refine g_iload_n 6 1 K dJ3_checkIndex_8e157_5 rfl rfl rfl ?_
  refine h_icmp_lt 16 9 K dJ3_checkIndex_8e157_6 (by decide) rfl (fun _ => ?_) (fun h => absurd h1 h)
  refine g_iload_n 17 0 K dJ3_checkIndex_8e157_16 rfl rfl rfl ?_
  exact g_tret K hr hlk rfl dJ3_checkIndex_8e157_17
theorem c_schk (hw : Flat w) {i n : Int32} (h0 : ¬ i < 0) (h1 : i < n) : Cn l yJ0_checkIndex_df160 cJ0_checkIndex_df160 2 none 1 22 D tys (Fx adK adV) w [.int i, .int n] S none S := by
  refine c_of (by decide) hw (Nat.le_of_ble_eq_true rfl) [(0, .int i), (1, .int n)] rfl ?_
  intro p e s m args below meth c K hr hlk hs
  have K : Ok p s m args c cJ0_checkIndex_df160 2 RJ0 D tys (Aw w s.heap.size) w := K
  refine g_iload_n 1 0 K dJ0_checkIndex_df160_0 rfl rfl rfl ?_
  refine g_iload_n 2 1 K dJ0_checkIndex_df160_1 rfl rfl rfl ?_
  have hfin : ∀ v : Value, (v = .null ∨ ∃ t, v = .ref t) → va_Z "jdk/internal/util/Preconditions" "SIOOBE_FORMATTER" "Ljava/util/function/BiFunction;" v (Aw w s.heap.size) s s.heap → G p l e { frames := 1, cells := 0, slots := 0, locals := 22 } s m args below meth c 0 0 (Qm below args s D w none S) 2 D (Aw w s.heap.size) w S 2 [(0, .int i), (1, .int n)] [.int n, .int i] := by
    intro v hv hz
    refine g_gets 5 K hz kf_J0_1053 dJ0_checkIndex_df160_2 rfl ?_
    refine g_callSi 8 [] K (Fx_ok adK adV) hs (c_pchk hw h0 h1 hv) km_J0_1059 kt_J3_checkIndex_8e157 ki_J3 kC_J3_checkIndex_8e157 mw_J3_checkIndex_8e157 ⟨by decide, by decide, by decide, by decide⟩ rfl rfl (Nat.le_of_ble_eq_true rfl) dJ0_checkIndex_df160_5 rfl ?_
    refine g_pop 9 K dJ0_checkIndex_df160_8 rfl rfl ?_
    exact g_vret K hr hlk rfl dJ0_checkIndex_df160_9
  rcases hs.2.2.2.2 with hz | ⟨t, hz⟩
  · exact hfin _ (Or.inl rfl) hz
  · exact hfin _ (Or.inr ⟨t, rfl⟩) hz
theorem tx_lt {k : Nat} (hk : k < 2) {i : Int32} (hi : vp_in i (txl k)) : i < nI (txl k) := by
  have h31 : ∀ k, k < 2 → txl k < 2 ^ 31 := by decide
  obtain ⟨j, hj, rfl⟩ := vp_in_of hi (h31 k hk)
  exact nI_lt hj (h31 k hk)
theorem c_l1 (hw : Flat w) {k : Nat} (hk : k < 2) {i : Int32} (hi : vp_in i (txl k)) : Cn l yJ1_charAt_3b067 cJ1_charAt_3b067 2 (some .char) 2 43 D tys (Fx adK adV) w [.ref (adV k), .int i] S (some (.int (txc k i.toNatClampNeg))) S := by
  refine c_of (by decide) hw (Nat.le_of_ble_eq_true rfl) [(0, .ref (adV k)), (1, .int i)] rfl ?_
  intro p e s m args below meth c K hr hlk hs
  have K : Ok p s m args c cJ1_charAt_3b067 2 RJ1 D tys (Aw w s.heap.size) w := K
  refine g_iload_n 1 1 K dJ1_charAt_3b067_0 rfl rfl rfl ?_
  refine g_aload_n 2 0 K dJ1_charAt_3b067_1 rfl rfl rfl ?_
  refine g_tlen 3 (nI (txl k)) K (hs.2.2.1.1 k hk).2.2.2 rfl dJ1_charAt_3b067_2 rfl ?_
  refine g_callSv 6 [] K (Fx_ok adK adV) hs (c_schk hw (fun h => hi (Or.inl h)) (tx_lt hk hi)) km_J1_9 kt_J0_checkIndex_df160 ki_J0 kC_J0_checkIndex_df160 mw_J0_checkIndex_df160 ⟨by decide, by decide, by decide, by decide⟩ rfl rfl (Nat.le_of_ble_eq_true rfl) dJ1_charAt_3b067_3 rfl ?_
  refine g_aload_n 7 0 K dJ1_charAt_3b067_6 rfl rfl rfl ?_
  refine g_iload_n 8 1 K dJ1_charAt_3b067_7 rfl rfl rfl ?_
  refine g_tb (v := .int (txb k i.toNatClampNeg)) 9 K (hs.2.2.1.1 k hk).2.2.2 hi rfl dJ1_charAt_3b067_8 rfl ?_
  refine g_sipush 12 255 K dJ1_charAt_3b067_9 rfl (by decide) ?_
  refine g_iand 13 K dJ1_charAt_3b067_12 rfl ?_
  refine g_i2c 14 K dJ1_charAt_3b067_13 rfl ?_
  exact g_tret K hr hlk (pk_nc _) dJ1_charAt_3b067_14
theorem c_charAt (hw : Flat w) {k : Nat} (hk : k < 2) {i : Int32} (hi : vp_in i (txl k)) : Cn l yJ0_charAt_5068e cJ0_charAt_5068e 2 (some .char) 3 64 D tys (Fx adK adV) w [.ref (adK k), .int i] S (some (.int (txc k i.toNatClampNeg))) S := by
  refine c_of (by decide) hw (Nat.le_of_ble_eq_true rfl) [(0, .ref (adK k)), (1, .int i)] rfl ?_
  intro p e s m args below meth c K hr hlk hs
  have K : Ok p s m args c cJ0_charAt_5068e 2 RJ0 D tys (Aw w s.heap.size) w := K
  refine g_aload_n 1 0 K dJ0_charAt_5068e_0 rfl rfl rfl ?_
  refine g_callVr 4 [] K (Fx_ok adK adV) hs (c_isLatin1 hw hk) km_J0_492 kI_J0_isLatin1_aae02 kS_J0_isLatin1_aae02 ki_J0 kC_J0_isLatin1_aae02 mw_J0_isLatin1_aae02 ⟨by decide, by decide, by decide, by decide⟩ (fun H locs hS => vk_recv hs.2.2.1 hk hS) rfl rfl (Nat.le_of_ble_eq_true rfl) dJ0_charAt_5068e_1 rfl ?_
  refine h_if_eq 16 7 K dJ0_charAt_5068e_4 (by decide) rfl (fun h => absurd h (by decide)) (fun _ => ?_)
  refine g_aload_n 8 0 K dJ0_charAt_5068e_7 rfl rfl rfl ?_
  refine g_sget 11 K (hs.2.2.1.1 k hk).2.2.1 kf_J0_9 dJ0_charAt_5068e_8 rfl ?_
  refine g_iload_n 12 1 K dJ0_charAt_5068e_11 rfl rfl rfl ?_
  refine g_callSi 15 [] K (Fx_ok adK adV) hs (c_l1 hw hk hi) km_J0_495 kt_J1_charAt_3b067 ki_J1 kC_J1_charAt_3b067 mw_J1_charAt_3b067 ⟨by decide, by decide, by decide, by decide⟩ rfl rfl (Nat.le_of_ble_eq_true rfl) dJ0_charAt_5068e_12 rfl ?_
  exact g_tret K hr hlk (pk_nc _) dJ0_charAt_5068e_15
end TC
section TR
variable {p : Program} {l : Launch} {e : Env} {R : Room} {s : State} {m : MethodId} {args : Array Value} {below : List Frame} {meth : Method} {c : Code} {kc ks : Nat} {Q : State → Prop} {nL : Nat} {D : va_G} {A : Nat → Prop} {w : St → va_W} {S : St} {lv : List (Nat × Value)} {cc : ByteArray} {tys : TY} {pc : Nat} {α : Type} {res : α} {adK adV : Nat → Nat}
theorem g_slen (pc' k : Nat) (v : Int32) (rest : List Value) (hw : Flat w) (hk : k < 2) (hv : nI (txl k) = v) (K : Ok p s m args c cc nL RX5 D tys A w) (hs : Fx adK adV A s) (hR : 2 ≤ R.frames ∧ 40 ≤ R.locals ∧ kc ≤ R.cells ∧ ks ≤ R.slots) (hW : (rest.map fun v => v.category).sum ≤ 8) (hd : decode cc pc = .ok (.invokevirtual 99, 3)) (hp : pc + 3 = pc') (kk : G p l e R s m args below meth c kc ks Q nL D A w S pc' lv (.int v :: rest)) : G p l e R s m args below meth c kc ks Q nL D A w S pc lv (.ref (adK k) :: rest) := by
  subst hv
  exact g_callVr pc' rest K (Fx_ok adK adV) hs (c_length hw hk) km_X5_99 kI_J0_length_8abf5 kS_J0_length_8abf5 ki_J0 kC_J0_length_8abf5 mw_J0_length_8abf5 ⟨hR.1, hR.2.1, hR.2.2.1, hR.2.2.2⟩ (fun H locs hS => vk_recv hs.2.2.1 hk hS) rfl rfl hW hd hp kk
theorem g_schar (pc' k : Nat) (rest : List Value) (hw : Flat w) (hk : k < 2) (K : Ok p s m args c cc nL RX5 D tys A w) (hs : Fx adK adV A s) {i : Int32} {Kf : Int32 → Option α} (hf : (rd (txc k) (txl k) i).bind Kf = some res) (hR : 4 ≤ R.frames ∧ 85 ≤ R.locals ∧ kc ≤ R.cells ∧ ks ≤ R.slots) (hW : (rest.map fun v => v.category).sum ≤ 8) (hd : decode cc pc = .ok (.invokevirtual 104, 3)) (hp : pc + 3 = pc') (kk : ∀ v : Int32, Kf v = some res → G p l e R s m args below meth c kc ks Q nL D A w S pc' lv (.int v :: rest)) : G p l e R s m args below meth c kc ks Q nL D A w S pc lv (.int i :: .ref (adK k) :: rest) := by
  obtain ⟨h1, h2⟩ := rd_some hf
  exact g_callVr pc' rest K (Fx_ok adK adV) hs (c_charAt hw hk h1) km_X5_104 kI_J0_charAt_5068e kS_J0_charAt_5068e ki_J0 kC_J0_charAt_5068e mw_J0_charAt_5068e ⟨hR.1, hR.2.1, hR.2.2.1, hR.2.2.2⟩ (fun H locs hS => vk_recv hs.2.2.1 hk hS) rfl rfl hW hd hp (kk _ h2)
end TR
/-- which of its two rows the reader is at -/
def rowN (S : St) : Nat := if S.1 2610 = 2 then 28 else 27
theorem c_X5_clauseRow {l : Launch} {D : va_G} {q : Nat → Nat} {n : Nat} {cI cB cZ : ClassId} {adK adV : Nat → Nat} {S : St} : Cn l yX5_clauseRow cX5_clauseRow 1 (some (.array .int)) 0 0 D (tyL cI cB cZ) (Fx adK adV) (wC q n cI cB cZ) [.ref (q 26)] S (some (.ref (q (rowN S)))) S := by
  refine c_of (by decide) fl_wC (Nat.le_of_ble_eq_true rfl) [(0, .ref (q 26))] rfl ?_
  intro p e s m args below meth c K hr hlk hs
  have K : Ok p s m args c cX5_clauseRow 1 RX5 D (tyL cI cB cZ) (Aw (wC q n cI cB cZ) s.heap.size) (wC q n cI cB cZ) := K
  have hf : (if S.1 2610 = 2 then some 28 else some 27) = some (rowN S) := by unfold rowN; split <;> rfl
  refine g_aload_n 1 0 K dX5_clauseRow_0 rfl rfl rfl ?_
  refine gf_C_26_10 4 K dX5_clauseRow_1 rfl ?_
  refine g_iconst 5 2 K dX5_clauseRow_4 rfl (by decide) ?_
  refine g_icmp_ne 15 8 K hf dX5_clauseRow_5 (by decide) rfl (fun hf => ?_) (fun hf => ?_)
  · refine g_aload_n 9 0 K dX5_clauseRow_8 rfl rfl rfl ?_
    refine gf_C_26_1 12 K dX5_clauseRow_9 rfl ?_
    refine g_goto 19 K dX5_clauseRow_12 (by decide) ?_
    exact g_aret K hr hlk (congrArg q (Option.some.inj hf)) dX5_clauseRow_19
  · refine g_aload_n 16 0 K dX5_clauseRow_15 rfl rfl rfl ?_
    refine gf_C_26_0 19 K dX5_clauseRow_16 rfl ?_
    exact g_aret K hr hlk (congrArg q (Option.some.inj hf)) dX5_clauseRow_19
section RR
variable {p : Program} {l : Launch} {e : Env} {R : Room} {s : State} {m : MethodId} {args : Array Value} {below : List Frame} {meth : Method} {c : Code} {kc ks : Nat} {Q : State → Prop} {nL : Nat} {D : va_G} {A : Nat → Prop} {S : St} {lv : List (Nat × Value)} {cc : ByteArray} {pc : Nat} {α : Type} {res : α} {q : Nat → Nat} {n : Nat} {cI cB cZ : ClassId} {adK adV : Nat → Nat}
theorem g_callRow (pc' : Nat) (rest : List Value) (K : Ok p s m args c cc nL RX5 D (tyL cI cB cZ) A (wC q n cI cB cZ)) (hs : Fx adK adV A s) {idx : Nat} {dc : Decidable (S.1 2610 = 2)} {a b : Option α} (hf : @ite _ (S.1 2610 = 2) dc a b = some res) (h1 : Cond.methodLink RX5 idx yX5_clauseRow ∈ big) (hR : 1 ≤ R.frames ∧ 20 ≤ R.locals ∧ kc ≤ R.cells ∧ ks ≤ R.slots) (hW : (rest.map fun v => v.category).sum ≤ 8) (hd : decode cc pc = .ok (.invokevirtual idx, 3)) (hp : pc + 3 = pc') (ka : a = some res → G p l e R s m args below meth c kc ks Q nL D A (wC q n cI cB cZ) S pc' lv (.ref (q 28) :: rest)) (kb : b = some res → G p l e R s m args below meth c kc ks Q nL D A (wC q n cI cB cZ) S pc' lv (.ref (q 27) :: rest)) : G p l e R s m args below meth c kc ks Q nL D A (wC q n cI cB cZ) S pc lv (.ref (q 26) :: rest) := by
  have kk : G p l e R s m args below meth c kc ks Q nL D A (wC q n cI cB cZ) S pc' lv ((some (Value.ref (q (rowN S)))).toList ++ rest) := by
    show G p l e R s m args below meth c kc ks Q nL D A (wC q n cI cB cZ) S pc' lv (.ref (q (rowN S)) :: rest)
    by_cases h : S.1 2610 = 2
    · rw [if_pos h] at hf
      rw [show rowN S = 28 by unfold rowN; rw [if_pos h]]
      exact ka hf
    · rw [if_neg h] at hf
      rw [show rowN S = 27 by unfold rowN; rw [if_neg h]]
      exact kb hf
  exact g_callV pc' 26 (rest := rest) (As := []) (C := RX5) (T := TX5) (ci := 5) (N := 12) K (Fx_ok adK adV) hs c_X5_clauseRow h1 kI_X5_clauseRow kS_X5_clauseRow ki_X5 kC_X5_clauseRow mw_X5_clauseRow ⟨hR.1, hR.2.1, hR.2.2.1, hR.2.2.2⟩ rfl rfl rfl rfl hW hd hp kk
end RR
