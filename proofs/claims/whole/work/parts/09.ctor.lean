-- CONSTRUCTORS: worlds that grow
abbrev cw (ws : va_W) : St → va_W := fun _ => ws
def PostI (D : va_G) (Pw : va_W → Prop) (ws0 : va_W) (sz : Nat) (st : State) (oc : Outcome) (t : State) : Prop := (oc = .returned none ∧ ∃ ws' : va_W, Pw ws' ∧ va_P D vwCl ws' t.heap ∧ va_D (Aw (cw ws0) sz) ws') ∧ va_F (Aw (cw ws0) sz) st t
/-- the contract of a constructor: from the world ws0 (the new object) to one of which Pw holds; mc cells of ms slots come -/
def Ci (l : Launch) (y : MethodName) (bytes : ByteArray) (maxL fr lo mc ms : Nat) (D : va_G) (tys : TY) (F : FT) (As : List Value) (ws0 : va_W) (Pw : va_W → Prop) : Prop :=
  ∀ sz : Nat, Met l y (Cond.code y bytes maxL none :: big) { frames := fr, cells := mc, slots := ms, locals := lo } (va_Pc As (PreU D tys F (cw ws0) S0 sz)) (fun _ st oc t => PostI D Pw ws0 sz st oc t) mc ms (Aw (cw ws0) sz)
def Qi (below : List Frame) (args : Array Value) (s : State) (D : va_G) (Pw : va_W → Prop) (ws0 : va_W) (mc ms : Nat) : State → Prop := MQ below (fun _ st oc t => PostI D Pw ws0 s.heap.size st oc t) args s mc ms (Aw (cw ws0) s.heap.size)
theorem keep_P {D : va_G} {cl : List vw_C} {ws : va_W} {H H1 : Heap} {B : Nat → Prop} (hP : va_P D cl ws H) (hk : ∀ q : Nat, q < H.size → ¬ B q → H1[q]? = H[q]?) (hd : ∀ (k : Nat) (q : Nat × va_E), ws[k]? = some q → ¬ B q.1) : va_P D cl ws H1 :=
  fun k q hq => (hP k q hq).kept (hk q.1 (hP k q hq).lt (hd k q hq))
theorem app_l {a b : va_W} {k : Nat} {q : Nat × va_E} (h : a[k]? = some q) : (a ++ b)[k]? = some q := by
  rw [List.getElem?_append_left (List.getElem?_eq_some_iff.mp h).1]; exact h
theorem app_r {a b : va_W} {k : Nat} {q : Nat × va_E} (h : b[k]? = some q) : (a ++ b)[a.length + k]? = some q := by
  rw [List.getElem?_append_right (Nat.le_add_right _ _), Nat.add_sub_cancel_left]; exact h
theorem P_l {D : va_G} {cl : List vw_C} {a b : va_W} {H : Heap} (h : va_P D cl (a ++ b) H) : va_P D cl a H := fun k q hq => h k q (app_l hq)
theorem P_r {D : va_G} {cl : List vw_C} {a b : va_W} {H : Heap} (h : va_P D cl (a ++ b) H) : va_P D cl b H := fun k q hq => h (a.length + k) q (app_r hq)
theorem D_l {A : Nat → Prop} {a b : va_W} (h : va_D A (a ++ b)) : va_D A a := ⟨fun i j p q hi hj e => h.1 i j p q (app_l hi) (app_l hj) e, fun k q hq => h.2 k q (app_l hq)⟩
theorem D_r {A : Nat → Prop} {a b : va_W} (h : va_D A (a ++ b)) : va_D A b := ⟨fun i j p q hi hj e => by have := h.1 _ _ p q (app_r hi) (app_r hj) e; omega, fun k q hq => h.2 _ q (app_r hq)⟩
theorem D_x {A : Nat → Prop} {a b : va_W} (h : va_D A (a ++ b)) {i j : Nat} {p q : Nat × va_E} (hi : a[i]? = some p) (hj : b[j]? = some q) : p.1 ≠ q.1 := fun e => by
  have h1 := h.1 _ _ p q (app_l hi) (app_r hj) e
  have h2 := (List.getElem?_eq_some_iff.mp hi).1
  omega
section CT
variable {p : Program} {l : Launch} {e : Env} {R : Room} {s : State} {m : MethodId} {args : Array Value} {below : List Frame} {meth : Method} {c : Code} {kc ks : Nat} {Q : State → Prop} {nL : Nat} {D : va_G} {A : Nat → Prop} {S : St} {lv lv' : List (Nat × Value)} {st : List Value} {cc : ByteArray} {own : String} {tys : TY} {pc : Nat} {F : FT} {ws ws' : va_W}
theorem Ok_w (K : Ok p s m args c cc nL own D tys A (cw ws)) (h : va_D A ws') : Ok p s m args c cc nL own D tys A (cw ws') := ⟨K.1, K.2.1, K.2.2.1, K.2.2.2.1, K.2.2.2.2.1, K.2.2.2.2.2.1, fun _ => h, K.2.2.2.2.2.2.2.1, fun _ => rfl⟩
theorem Ok_v {w v : St → va_W} (K : Ok p s m args c cc nL own D tys A w) (h : ∀ S, va_D A (v S)) (hf : Flat v) : Ok p s m args c cc nL own D tys A v := ⟨K.1, K.2.1, K.2.2.1, K.2.2.2.1, K.2.2.2.2.1, K.2.2.2.2.2.1, h, K.2.2.2.2.2.2.2.1, hf⟩
theorem g_widen {w : St → va_W} {kc' ks' : Nat} (h1 : kc ≤ kc') (h2 : ks ≤ ks') (k : G p l e R s m args below meth c kc' ks' Q nL D A w S pc lv st) : G p l e R s m args below meth c kc ks Q nL D A w S pc lv st := fun H locs ls hP hS hl => W.widen h1 h2 (k H locs ls hP hS hl)
theorem g_order (is : List Nat) (h : is.filterMap (fun i => ws[i]?) = ws') (k : G p l e R s m args below meth c kc ks Q nL D A (cw ws') S pc lv st) : G p l e R s m args below meth c kc ks Q nL D A (cw ws) S pc lv st := fun H locs ls hP hS hl => k H locs ls (va_P.sub hP is h) hS hl
theorem g_into {w : St → va_W} {S1 : St} (h : ws = w S1) (k : G p l e R s m args below meth c kc ks Q nL D A w S1 pc lv st) : G p l e R s m args below meth c kc ks Q nL D A (cw ws) S pc lv st := fun H locs ls hP hS hl => k H locs ls (by rw [← h]; exact hP) hS hl
theorem g_objInit (pc' : Nat) {w : St → va_W} (K : Ok p s m args c cc nL own D tys A w) {idx a : Nat} (h1 : Cond.methodLink own idx objectInit ∈ big) (hR : 1 ≤ R.frames ∧ (st.map fun v => v.category).sum + 12 ≤ R.locals) (hd : decode cc pc = .ok (.invokespecial idx, 3)) (hp : pc + 3 = pc') (kk : G p l e R s m args below meth c kc ks Q nL D A w S pc' lv st) : G p l e R s m args below meth c kc ks Q nL D A w S pc lv (.ref a :: st) := by
  subst hp
  exact fun H locs ls hP hS hl => W.objInit (g := F0 m pc ls (.ref a :: st)) (rest := st) K.1 K.2.1 K.2.2.2.1 (K.2.2.2.2.1 _ h1) (K.2.2.2.2.1 _ kI_Object_init) (K.2.2.2.2.1 _ kC_Object_init) rfl (hl.1.trans K.2.2.1.symm) rfl hd hR.1 (by show 2 * 0 + _ + 12 ≤ _; have := hR.2; omega) (kk H locs ls hP hS hl)
theorem g_newa (pc' N kc' ks' t0 : Nat) (K : Ok p s m args c cc nL own D tys A (cw ws)) {atype : ArrayType} {ty : FieldType} {cA : ClassId} {n : Int32} (ht : tys[t0]? = some (cA, ty)) (hty : newarray.typeOf atype = ty) (hra : ∀ c, va_RA s c ty → s.vm.findClass ("[" ++ ty.toString) = some c) (hdv : defaultValue ty = .int 0) (ha : Cond.arrayClass ty ∈ big) (hn : ¬ n < 0) (hN : n.toNatClampNeg = N) (hbytes : N * componentBytes ty ≤ 536870912) (hc : kc + 1 ≤ kc' ∧ ks + N ≤ ks' ∧ kc' ≤ R.cells ∧ ks' ≤ R.slots) (hd : decode cc pc = .ok (.newarray atype, 2)) (hp : pc + 2 = pc') (kk : ∀ a : Nat, va_D A (ws ++ [(a, .inl (cA, N, .inl (fun _ => 0)))]) → G p l e R s m args below meth c kc' ks' Q nL D A (cw (ws ++ [(a, .inl (cA, N, .inl (fun _ => 0)))])) S pc' lv (.ref a :: st)) : G p l e R s m args below meth c kc ks Q nL D A (cw ws) S pc lv (.int n :: st) := by
  subst hp
  subst hty
  intro H locs ls hP hS hl
  refine va_newa K.1 K.2.1 (K.2.2.2.2.1 _ ha) rfl K.2.2.2.2.2.1 hP (K.2.2.2.2.2.2.1 S) hS K.2.2.2.2.2.2.2.1 (a0 := (N, .inl (fun _ => 0))) (fun cA => by rw [hdv]; rfl) hn hN hbytes (by omega) (by omega) hd (fun q cA' H1 hK' hP' hD' hS' => ?_)
  have e1 := hra _ (hK'.2 tys.length (cA', newarray.typeOf atype) (by rw [List.getElem?_append_right (Nat.le_refl _), Nat.sub_self]; rfl)).2
  have e2 := hra _ (K.2.2.2.2.2.1.2 t0 _ ht).2
  have e3 : cA' = cA := Option.some.inj (e1.symm.trans e2)
  subst e3
  exact W.widen hc.1 hc.2.1 (kk q hD' H1 locs ls hP' hS' hl)
theorem g_newo (pc' kc' ks' : Nat) (K : Ok p s m args c cc nL own D tys A (cw ws)) {C : String} {T : u_T} {N ci idx : Nat} {fs : List Value} (hin : ∀ x ∈ u_ws C T N, x ∈ big) (ty : Nat → FieldType) (hty : ∀ k, k < N → parseFieldDescriptor (T k).2.2.1 = some (ty k)) (hcl : Cond.classLink own idx C ∈ big) (hinst : Cond.instantiable C N ∈ big) (hini : Cond.initialized C ∈ big) (hc : vwCl[ci]? = some (C, T, N)) (hfs : ∀ j, j < N → defaultValue (ty j) = vp_V fs j) (hR : kc + 1 ≤ kc' ∧ ks + N ≤ ks' ∧ kc' ≤ R.cells ∧ ks' ≤ R.slots) (hd : decode cc pc = .ok (.new idx, 3)) (hp : pc + 3 = pc') (kk : ∀ a : Nat, va_D A (ws ++ [(a, .inr (ci, fs))]) → G p l e R s m args below meth c kc' ks' Q nL D A (cw (ws ++ [(a, .inr (ci, fs))])) S pc' lv (.ref a :: st)) : G p l e R s m args below meth c kc ks Q nL D A (cw ws) S pc lv st := by
  subst hp
  intro H locs ls hP hS hl
  refine va_new K.1 K.2.1 K.2.2.2.2.1 hin ty hty K.2.2.2.1 (K.2.2.2.2.1 _ hcl) (K.2.2.2.2.1 _ hinst) (K.2.2.2.2.1 _ hini) K.2.2.2.2.2.1 hP (K.2.2.2.2.2.2.1 S) hS K.2.2.2.2.2.2.2.1 hc hfs (by omega) (by omega) hd (fun q H1 hP' hD' hS' => ?_)
  exact W.widen hR.1 hR.2.1 (kk q hD' H1 locs ls hP' hS' hl)
theorem g_putFc (pc' c0 k : Nat) (K : Ok p s m args c cc nL own D tys A (cw ws)) {C ref : String} {T : u_T} {N ci idx a : Nat} {fs : List Value} {v : Value} {ty : FieldType} (hin2 : meth.name = "<init>") (hin : ∀ x ∈ u_ws C T N, x ∈ big) (hc : vwCl[ci]? = some (C, T, N)) (hk : k < N) (hr : (T k).1 = ref) (hlk : Cond.fieldLink own idx ref (T k).2.1 (T k).2.2.1 ∈ big) (ty0 : Nat → FieldType) (hty : ∀ k, k < N → parseFieldDescriptor (T k).2.2.1 = some (ty0 k)) (hnm : ∀ a, a < N → ∀ b, b < N → a ≠ b → (T a).2.1 ≠ (T b).2.1) (he : ws[c0]? = some (a, .inr (ci, fs))) (hfin : (T k).2.2.2 = true) (hdecl : (T k).1 = own) (hpd : parseFieldDescriptor (T k).2.2.1 = some ty) (hn : narrow ty v = v) (hfit : fits ty v = true) (hl0 : k < fs.length) (hw : ws.set c0 (a, .inr (ci, fs.set k v)) = ws') (hd : decode cc pc = .ok (.putfield idx, 3)) (hp : pc + 3 = pc') (kk : va_D A ws' → G p l e R s m args below meth c kc ks Q nL D A (cw ws') S pc' lv st) : G p l e R s m args below meth c kc ks Q nL D A (cw ws) S pc lv (v :: .ref a :: st) := by
  subst hp
  subst hw
  exact fun H locs ls hP hS hl => va_putF K.1 K.2.1 K.2.2.2.2.1 hin ty0 hty hnm K.2.2.2.1 K.2.2.2.2.2.1 hP (K.2.2.2.2.2.2.1 S) hS c0 he hc k hk (K.2.2.2.2.1 _ hlk) (fun _ h => by rw [← hr]; exact h) hfin hin2 hdecl hpd hn hfit hl0 hd (fun H1 locs1 hP1 hD1 hS1 => kk hD1 H1 locs1 ls hP1 hS1 hl)
theorem g_putc (pc' c0 k : Nat) (K : Ok p s m args c cc nL own D tys A (cw ws)) {C ref : String} {T : u_T} {N ci idx a : Nat} {fs : List Value} {v : Value} {ty : FieldType} (hin : ∀ x ∈ u_ws C T N, x ∈ big) (hc : vwCl[ci]? = some (C, T, N)) (hk : k < N) (hr : (T k).1 = ref) (hlk : Cond.fieldLink own idx ref (T k).2.1 (T k).2.2.1 ∈ big) (ty0 : Nat → FieldType) (hty : ∀ k, k < N → parseFieldDescriptor (T k).2.2.1 = some (ty0 k)) (hnm : ∀ a, a < N → ∀ b, b < N → a ≠ b → (T a).2.1 ≠ (T b).2.1) (he : ws[c0]? = some (a, .inr (ci, fs))) (hfin : (T k).2.2.2 = false) (hpd : parseFieldDescriptor (T k).2.2.1 = some ty) (hn : narrow ty v = v) (hfit : fits ty v = true) (hl0 : k < fs.length) (hw : ws.set c0 (a, .inr (ci, fs.set k v)) = ws') (hd : decode cc pc = .ok (.putfield idx, 3)) (hp : pc + 3 = pc') (kk : va_D A ws' → G p l e R s m args below meth c kc ks Q nL D A (cw ws') S pc' lv st) : G p l e R s m args below meth c kc ks Q nL D A (cw ws) S pc lv (v :: .ref a :: st) := by
  subst hp
  subst hw
  exact fun H locs ls hP hS hl => va_put K.1 K.2.1 K.2.2.2.2.1 hin ty0 hty hnm K.2.2.2.1 K.2.2.2.2.2.1 hP (K.2.2.2.2.2.2.1 S) hS c0 he hc k hk (K.2.2.2.2.1 _ hlk) (fun _ h => by rw [← hr]; exact h) hfin hpd hn hfit hl0 hd (fun H1 locs1 hP1 hD1 hS1 => kk hD1 H1 locs1 ls hP1 hS1 hl)
theorem g_astc (pc' c0 t0 : Nat) (K : Ok p s m args c cc nL own D tys A (cw ws)) {cA : ClassId} {n a : Nat} {f : Nat → Int32} {i x : Int32} (he : ws[c0]? = some (a, .inl (cA, n, .inl f))) (ht : tys[t0]? = some (cA, .int)) (hi : vp_in i n) (hw : ws.set c0 (a, .inl (cA, n, .inl (upd f i.toNatClampNeg x))) = ws') (hd : decode cc pc = .ok (.iastore, 1)) (hp : pc + 1 = pc') (kk : va_D A ws' → G p l e R s m args below meth c kc ks Q nL D A (cw ws') S pc' lv st) : G p l e R s m args below meth c kc ks Q nL D A (cw ws) S pc lv (.int x :: .int i :: .ref a :: st) := by
  subst hp
  subst hw
  exact fun H locs ls hP hS hl => va_iast K.1 K.2.1 K.2.2.2.2.2.1 hP (K.2.2.2.2.2.2.1 S) hS c0 t0 he ht hi hd (fun H1 locs1 hP1 hD1 hS1 => kk hD1 H1 locs1 ls hP1 hS1 hl)
abbrev DscI (y : MethodName) (n : Nat) : Prop := y.cls ≠ "java/lang/invoke/MethodHandle" ∧ y.cls ≠ "java/lang/invoke/VarHandle" ∧ (parseMethodDescriptor y.desc).map (fun d => d.parameters.length) = some n
/-- behind a constructor's call: the rest stays, the new object's world comes -/
theorem g_ctor {wr : va_W} {b mc ms : Nat} {e0 : va_E} {Pw : va_W → Prop} {st0 rest : List Value} (kc' ks' : Nat) (hk : kc + mc = kc' ∧ ks + ms = ks') (K : Ok p s m args c cc nL own D tys A (cw (wr ++ [(b, e0)])))
    (hr : ∀ (H : Heap) (locs : List Loc) (ls : Array Slot), va_P D vwCl (wr ++ [(b, e0)]) H → va_S A s.heap H locs → lv_has ls nL lv → va_Run p l e R s m args below meth c H locs kc ks mc ms (F0 m pc ls st0) rest (fun st oc t => PostI D Pw [(b, e0)] H.size st oc t) (Aw (cw [(b, e0)]) H.size))
    (kk : ∀ w1 : va_W, Pw w1 → va_D A (wr ++ w1) → G p l e R s m args below meth c kc' ks' Q nL D A (cw (wr ++ w1)) S (pc + 3) lv rest) : G p l e R s m args below meth c kc ks Q nL D A (cw (wr ++ [(b, e0)])) S pc lv st0 := by
  intro H locs ls hP hS hl T hT X
  obtain ⟨v, st₀, t, T', L, h0, X', hL, e1, e2, ⟨⟨hv, w1, hw1, hp, hd1⟩, hz, hkk⟩, stp⟩ := hr H locs ls hP hS hl T hT X
  cases hv
  rw [h0] at hz hkk
  have hD := K.2.2.2.2.2.2.1 S
  have hAb : A b := hD.2 wr.length (b, e0) (by rw [List.getElem?_append_right (Nat.le_refl _)]; simp)
  have hAw : ∀ q, Aw (cw [(b, e0)]) H.size q → A q := by
    intro q hq
    rcases hq with ⟨k, x, hk⟩ | hq
    · cases k with
      | zero => cases hk; exact hAb
      | succ k => simp at hk
    · exact K.2.2.2.2.2.2.2.1 q (Nat.le_trans hS.1 hq)
  have hap : ∀ (k : Nat) (q : Nat × va_E), wr[k]? = some q → ¬ Aw (cw [(b, e0)]) H.size q.1 := by
    intro k q hq hx
    rcases hx with ⟨k2, x, hk⟩ | hx
    · cases k2 with
      | zero =>
        have h1 : b = q.1 := by
          have := Option.some.inj hk
          exact (congrArg Prod.fst this)
        exact D_x hD hq (j := 0) (q := (b, e0)) rfl h1.symm
      | succ k => simp at hk
    · exact Nat.lt_irrefl _ (Nat.lt_of_lt_of_le (P_l hP k q hq).lt hx)
  have hDn : va_D A (wr ++ w1) := va_D.app (D_l hD) (hd1.weaken (fun k q _ h => hAw q.1 h)) (fun i j x y hx hy hxy => hap i x hx (by rw [hxy]; exact hd1.2 j y hy))
  have hPn : va_P D vwCl (wr ++ w1) T'.heap := by
    rw [e1]
    exact va_P.app (keep_P (P_l hP) hkk hap) hp
  rw [hk.1, hk.2] at X'
  obtain ⟨t2, a1, b1⟩ := kk w1 hw1 hDn T'.heap (locs ++ L) ls hPn
    ⟨Nat.le_trans hS.1 (by rw [e1]; exact hz), fun q h1 h2 => by rw [e1, hkk q (Nat.lt_of_lt_of_le h1 hS.1) (fun z => h2 (hAw q z))]; exact hS.2.1 q h1 h2, fun q hq => by
      rcases List.mem_append.mp hq with h | h
      · exact hS.2.2 q h
      · exact hAw _ (hL q h)⟩ hl T' rfl X'
  exact ⟨t2, stp t2 a1, b1⟩
theorem ci_pre {wr : va_W} {b : Nat} {e0 : va_E} (K : Ok p s m args c cc nL own D tys A (cw (wr ++ [(b, e0)]))) (hF : Fok F) (hs : F A s) {H : Heap} {locs : List Loc} (hP : va_P D vwCl (wr ++ [(b, e0)]) H) (hS : va_S A s.heap H locs) {As : List Value} : ∀ U : State, U.heap = H → s.WarmedH U.vm → va_Pc As (PreU D tys F (cw [(b, e0)]) S0 H.size) As.toArray U := fun U hU hW =>
  ⟨rfl, by rw [hU], by rw [hU]; exact P_r hP, va_K.moved hW.alike K.2.2.2.2.2.1, (D_r (K.2.2.2.2.2.2.1 S0)).weaken (fun _ _ _ _ => trivial), hF.2 A _ s U hs hW (by rw [hU]; exact hS.1) (fun q h1 h2 => by rw [hU]; exact hS.2.1 q h1 h2) (fun q hq => by
    rcases hq with ⟨k, x, hk⟩ | hq
    · exact (D_r (K.2.2.2.2.2.2.1 S0)).2 k _ hk
    · exact K.2.2.2.2.2.2.2.1 q (Nat.le_trans hS.1 hq))⟩
theorem g_ctorI (pc' kc' ks' : Nat) (wr : va_W) (rest : List Value) {b mc ms maxL fr lo n idx : Nat} {e0 : va_E} {Pw : va_W → Prop} {st0 As : List Value} {y : MethodName} {bytes : ByteArray} (K : Ok p s m args c cc nL own D tys A (cw (wr ++ [(b, e0)]))) (hF : Fok F) (hs : F A s) (hM : Ci l y bytes maxL fr lo mc ms D tys F (.ref b :: As) [(b, e0)] Pw) (h1 : Cond.methodLink own idx y ∈ big) (h2 : Cond.instanceMethod y ∈ big) (h4 : Cond.initialized y.cls ∈ big) (h5 : Cond.code y bytes maxL none ∈ big) (hy : y.name = "<init>") (h6 : DscI y n) (hR : fr + 1 ≤ R.frames ∧ 8 + (maxL + 11) + lo ≤ R.locals ∧ kc + mc ≤ R.cells ∧ ks + ms ≤ R.slots) (hk : kc + mc = kc' ∧ ks + ms = ks') (hn : As.length = n) (hst : st0 = As.reverse ++ .ref b :: rest) (hW : (rest.map fun v => v.category).sum ≤ 8) (hd : decode cc pc = .ok (.invokespecial idx, 3)) (hp : pc + 3 = pc') (kk : ∀ w1 : va_W, Pw w1 → va_D A (wr ++ w1) → G p l e R s m args below meth c kc' ks' Q nL D A (cw (wr ++ w1)) S pc' lv rest) : G p l e R s m args below meth c kc ks Q nL D A (cw (wr ++ [(b, e0)])) S pc lv st0 := by
  subst hp
  subst hst
  exact g_ctor kc' ks' hk K (fun H locs ls hP hS hl => va_runI (As := As) (rest := rest) ⟨K.1, K.2.1, K.2.2.1, K.2.2.2.1, K.2.2.2.2.1⟩ (hM H.size) (cwI n K.2.2.2.2.1 (big_sub (big_cons h5 (fun _ h => h))) rfl rfl rfl (K.2.2.2.2.1 _ h4) (K.2.2.2.2.1 _ h1) (K.2.2.2.2.1 _ h2) hy h6 ⟨hR.1, hR.2.1⟩) ⟨c_blind hF, ci_pre K hF hs hP hS⟩ rfl hn hl.1 rfl (lv_room hW) hd ⟨hR.2.2.1, hR.2.2.2⟩) kk
theorem g_ctorN (pc' kc' ks' : Nat) (wr : va_W) (rest : List Value) {b mc ms maxL fr lo n idx : Nat} {e0 : va_E} {Pw : va_W → Prop} {st0 As : List Value} {y : MethodName} {bytes : ByteArray} {host : String} (K : Ok p s m args c cc nL own D tys A (cw (wr ++ [(b, e0)]))) (hF : Fok F) (hs : F A s) (hM : Ci l y bytes maxL fr lo mc ms D tys F (.ref b :: As) [(b, e0)] Pw) (h1 : va_Nw (Cond.methodLinkNest own idx y host) s) (h2 : Cond.instanceMethod y ∈ big) (h4 : Cond.initialized y.cls ∈ big) (h5 : Cond.code y bytes maxL none ∈ big) (hy : y.name = "<init>") (h6 : DscI y n) (hR : fr + 1 ≤ R.frames ∧ 8 + (maxL + 11) + lo ≤ R.locals ∧ kc + mc ≤ R.cells ∧ ks + ms ≤ R.slots) (hk : kc + mc = kc' ∧ ks + ms = ks') (hn : As.length = n) (hst : st0 = As.reverse ++ .ref b :: rest) (hW : (rest.map fun v => v.category).sum ≤ 8) (hd : decode cc pc = .ok (.invokespecial idx, 3)) (hp : pc + 3 = pc') (kk : ∀ w1 : va_W, Pw w1 → va_D A (wr ++ w1) → G p l e R s m args below meth c kc' ks' Q nL D A (cw (wr ++ w1)) S pc' lv rest) : G p l e R s m args below meth c kc ks Q nL D A (cw (wr ++ [(b, e0)])) S pc lv st0 := by
  subst hp
  subst hst
  exact g_ctor kc' ks' hk K (fun H locs ls hP hS hl => va_runIN (As := As) (rest := rest) ⟨K.1, K.2.1, K.2.2.1, K.2.2.2.1, K.2.2.2.2.1⟩ (hM H.size) ⟨va_cnB n K.2.2.2.2.1 (big_sub (big_cons h5 (fun _ h => h))) rfl rfl rfl h1 (K.2.2.2.2.1 _ h4) h6 ⟨hR.1, hR.2.1⟩, hy, K.2.2.2.2.1 _ h2⟩ ⟨c_blind hF, ci_pre K hF hs hP hS⟩ rfl hn hl.1 rfl (lv_room hW) hd ⟨hR.2.2.1, hR.2.2.2⟩) kk
theorem g_vretI {w : St → va_W} {ws0 : va_W} {Pw : va_W → Prop} {mc ms : Nat} (K : Ok p s m args c cc nL own D tys (Aw (cw ws0) s.heap.size) w) (hr : meth.sig.returnType = none) (hlk : meth.locks = false) (hk : kc ≤ mc ∧ ks ≤ ms) (hpw : Pw (w S)) (hd : decode cc pc = .ok (.return_, 1)) : G p l e R s m args below meth c kc ks (Qi below args s D Pw ws0 mc ms) nL D (Aw (cw ws0) s.heap.size) w S pc lv [] :=
  fun H locs ls hP hS hl => W.widen hk.1 hk.2 (W.vret K.1 K.2.1 hr (fun t ht hW => ⟨⟨rfl, w S, hpw, by rw [ht]; exact hP, K.2.2.2.2.2.2.1 S⟩, hS.F ht⟩) hS.2.2 hd hlk)
end CT
theorem ci_of {l : Launch} {y : MethodName} {bytes : ByteArray} {maxL fr lo mc ms : Nat} {D : va_G} {tys : TY} {F : FT} {As : List Value} {ws0 : va_W} {Pw : va_W → Prop} (hy : plainName y.cls = true) (hy1 : y.name = "<init>") (hlen : (lg_sl As).length ≤ maxL) (lv0 : List (Nat × Value)) (hlv : lv_args 0 As = lv0)
    (body : ∀ (p : Program) (e : Env) (s : State) (m : MethodId) (args : Array Value) (below : List Frame) (meth : Method) (c : Code), Ok p s m args c bytes maxL y.cls D tys (Aw (cw ws0) s.heap.size) (cw ws0) → meth.sig.returnType = none → meth.locks = false → meth.name = "<init>" → F (Aw (cw ws0) s.heap.size) s →
      G p l e { frames := fr, cells := mc, slots := ms, locals := lo } s m args below meth c 0 0 (Qi below args s D Pw ws0 mc ms) maxL D (Aw (cw ws0) s.heap.size) (cw ws0) S0 0 lv0 []) : Ci l y bytes maxL fr lo mc ms D tys F As ws0 Pw := by
  intro sz
  refine Met.ofW (cc := bytes) (maxL := maxL) (ret := none) hy rfl ?_
  intro p e s m args below meth c s₁ B hml hv
  obtain ⟨rfl, hsz, hP, hK, hD, hF⟩ := hv
  subst hsz
  have hts := atoms_spec (ws := Cond.code y bytes maxL none :: big) B.pre
  have hown : s.vm.findClass y.cls = some m.cls := findClass_of_methodNamed B.named
  have K : Ok p s m As.toArray c bytes maxL y.cls D tys (Aw (cw ws0) s.heap.size) (cw ws0) := ⟨B.exec, B.bytes, hml, hown, fun x hx => hts x (List.mem_cons_of_mem _ hx), hK, fl_Aw (w := cw ws0) (fun _ => rfl) (S := S0) hD _, fun q hq => Or.inr hq, fun _ => rfl⟩
  have hl := lv_entry As (n := maxL) hlen
  rw [hlv] at hl
  have hin : meth.name = "<init>" := by rw [← hy1]; exact (name_of_methodNamed B.named B.method).1
  have h1 := body p e s m As.toArray below meth c K B.returns B.notSynchronized hin hF s.heap [] _ hP va_S.rf hl
  rw [lg_entry_eq]
  exact h1
