-- HEAP, CALLS, ENTRY, RETURN over G
/-- further facts of the start that a method may stand on: they stay as long as the world alone is written -/
abbrev FT : Type := (Nat → Prop) → State → Prop
def Fok (F : FT) : Prop := (∀ (A : Nat → Prop) (U : State) (g : JFrame) (mk : MethodId) (a : Array Value), F A U → F A (U.calling g mk a)) ∧ ∀ (A A' : Nat → Prop) (s U : State), F A s → s.WarmedH U.vm → s.heap.size ≤ U.heap.size → (∀ q : Nat, q < s.heap.size → ¬ A q → U.heap[q]? = s.heap[q]?) → (∀ q, A' q → A q) → F A' U
def PreU (D : va_G) (tys : TY) (F : FT) (w : St → va_W) (S : St) (sz : Nat) (U : State) : Prop := U.heap.size = sz ∧ va_P D vwCl (w S) U.heap ∧ va_K D vwCl tys U ∧ va_D (fun _ => True) (w S) ∧ F (Aw w sz) U
def PostU (D : va_G) (w : St → va_W) (rv : Option Value) (S' : St) (sz : Nat) (st : State) (oc : Outcome) (t : State) : Prop := (oc = .returned rv ∧ va_P D vwCl (w S') t.heap) ∧ va_F (Aw w sz) st t
/-- the contract of a method over a world: from S it answers rv and leaves S' -/
def Cn (l : Launch) (y : MethodName) (bytes : ByteArray) (maxL : Nat) (ret : Option FieldType) (fr lo : Nat) (D : va_G) (tys : TY) (F : FT) (w : St → va_W) (As : List Value) (S : St) (rv : Option Value) (S' : St) : Prop :=
  ∀ sz : Nat, Met l y (Cond.code y bytes maxL ret :: big) { frames := fr, cells := 0, slots := 0, locals := lo } (va_Pc As (PreU D tys F w S sz)) (fun _ st oc t => PostU D w rv S' sz st oc t) 0 0 (Aw w sz)
def Qm (below : List Frame) (args : Array Value) (s : State) (D : va_G) (w : St → va_W) (rv : Option Value) (S' : St) : State → Prop := MQ below (fun _ st oc t => PostU D w rv S' s.heap.size st oc t) args s 0 0 (Aw w s.heap.size)
def zr (v : Int32) (S : St) : Option (Int32 × St) := if v = 0 ∨ v = 1 then some (v, S) else none
section GH
variable {p : Program} {l : Launch} {e : Env} {R : Room} {s : State} {m : MethodId} {args : Array Value} {below : List Frame} {meth : Method} {c : Code} {kc ks : Nat} {Q : State → Prop} {nL : Nat} {D : va_G} {A : Nat → Prop} {w : St → va_W} {S : St} {lv lv' : List (Nat × Value)} {st : List Value} {cc : ByteArray} {own : String} {tys : TY} {pc : Nat} {α : Type} {res : α} {F : FT}
theorem g_get (pc' c0 k : Nat) (K : Ok p s m args c cc nL own D tys A w) {C ref : String} {T : u_T} {N ci idx a : Nat} {fs : List Value} {v : Value} (hin : ∀ x ∈ u_ws C T N, x ∈ big) (hc : vwCl[ci]? = some (C, T, N)) (hk : k < N) (hr : (T k).1 = ref) (hlk : Cond.fieldLink own idx ref (T k).2.1 (T k).2.2.1 ∈ big) (he : (w S)[c0]? = some (a, .inr (ci, fs))) (hv : fs[k]? = some v) (hd : decode cc pc = .ok (.getfield idx, 3)) (hp : pc + 3 = pc') (kk : G p l e R s m args below meth c kc ks Q nL D A w S pc' lv (v :: st)) : G p l e R s m args below meth c kc ks Q nL D A w S pc lv (.ref a :: st) := by
  subst hp
  exact fun H locs ls hP hS hl => va_get K.1 K.2.1 K.2.2.2.2.1 hin K.2.2.2.1 K.2.2.2.2.2.1 hP c0 he hc k hk (K.2.2.2.2.1 _ hlk) (fun _ h => by rw [← hr]; exact h) hv hd (kk H locs ls hP hS hl)
theorem g_put (pc' c0 k : Nat) (S1 : St) (K : Ok p s m args c cc nL own D tys A w) {C ref : String} {T : u_T} {N ci idx a : Nat} {fs : List Value} {v : Value} {ty : FieldType} (hin : ∀ x ∈ u_ws C T N, x ∈ big) (hc : vwCl[ci]? = some (C, T, N)) (hk : k < N) (hr : (T k).1 = ref) (hlk : Cond.fieldLink own idx ref (T k).2.1 (T k).2.2.1 ∈ big) (ty0 : Nat → FieldType) (hty : ∀ k, k < N → parseFieldDescriptor (T k).2.2.1 = some (ty0 k)) (hnm : ∀ a, a < N → ∀ b, b < N → a ≠ b → (T a).2.1 ≠ (T b).2.1) (he : (w S)[c0]? = some (a, .inr (ci, fs))) (hfin : (T k).2.2.2 = false) (hpd : parseFieldDescriptor (T k).2.2.1 = some ty) (hn : narrow ty v = v) (hfit : fits ty v = true) (hl0 : k < fs.length) (hw : (w S).set c0 (a, .inr (ci, fs.set k v)) = w S1) (hd : decode cc pc = .ok (.putfield idx, 3)) (hp : pc + 3 = pc') (kk : G p l e R s m args below meth c kc ks Q nL D A w S1 pc' lv st) : G p l e R s m args below meth c kc ks Q nL D A w S pc lv (v :: .ref a :: st) := by
  subst hp
  exact fun H locs ls hP hS hl => va_put K.1 K.2.1 K.2.2.2.2.1 hin ty0 hty hnm K.2.2.2.1 K.2.2.2.2.2.1 hP (K.2.2.2.2.2.2.1 S) hS c0 he hc k hk (K.2.2.2.2.1 _ hlk) (fun _ h => by rw [← hr]; exact h) hfin hpd hn hfit hl0 hd (fun H1 locs1 hP1 _ hS1 => kk H1 locs1 ls (by rw [hw] at hP1; exact hP1) hS1 hl)
theorem g_iald (pc' c0 t0 : Nat) (K : Ok p s m args c cc nL own D tys A w) {cA : ClassId} {n a : Nat} {f : Nat → Int32} {i : Int32} {Kf : Int32 → Option α} (he : (w S)[c0]? = some (a, .inl (cA, n, .inl f))) (ht : tys[t0]? = some (cA, .int)) (hf : (rd f n i).bind Kf = some res) (hd : decode cc pc = .ok (.iaload, 1)) (hp : pc + 1 = pc') (kk : ∀ v : Int32, Kf v = some res → G p l e R s m args below meth c kc ks Q nL D A w S pc' lv (.int v :: st)) : G p l e R s m args below meth c kc ks Q nL D A w S pc lv (.int i :: .ref a :: st) := by
  subst hp
  obtain ⟨h1, h2⟩ := rd_some hf
  exact fun H locs ls hP hS hl => va_iald K.1 K.2.1 K.2.2.2.2.2.1 hP c0 t0 he ht h1 hd (kk _ h2 H locs ls hP hS hl)
theorem g_bald (pc' c0 t0 : Nat) (K : Ok p s m args c cc nL own D tys A w) {cA : ClassId} {n a : Nat} {f : Nat → Int32} {i : Int32} {Kf : Int32 → Option α} (he : (w S)[c0]? = some (a, .inl (cA, n, .inl f))) (ht : tys[t0]? = some (cA, .byte)) (hf : (rd f n i).bind Kf = some res) (hd : decode cc pc = .ok (.baload, 1)) (hp : pc + 1 = pc') (kk : ∀ v : Int32, Kf v = some res → G p l e R s m args below meth c kc ks Q nL D A w S pc' lv (.int v :: st)) : G p l e R s m args below meth c kc ks Q nL D A w S pc lv (.int i :: .ref a :: st) := by
  subst hp
  obtain ⟨h1, h2⟩ := rd_some hf
  exact fun H locs ls hP hS hl => va_bald K.1 K.2.1 K.2.2.2.2.2.1 hP c0 t0 he ht h1 hd (kk _ h2 H locs ls hP hS hl)
theorem g_zald (pc' c0 t0 : Nat) (K : Ok p s m args c cc nL own D tys A w) {cA : ClassId} {n a : Nat} {f : Nat → Int32} {i : Int32} {Kf : Int32 → Option α} (he : (w S)[c0]? = some (a, .inl (cA, n, .inl f))) (ht : tys[t0]? = some (cA, .boolean)) (hf : (rd f n i).bind Kf = some res) (hd : decode cc pc = .ok (.baload, 1)) (hp : pc + 1 = pc') (kk : ∀ v : Int32, Kf v = some res → G p l e R s m args below meth c kc ks Q nL D A w S pc' lv (.int v :: st)) : G p l e R s m args below meth c kc ks Q nL D A w S pc lv (.int i :: .ref a :: st) := by
  subst hp
  obtain ⟨h1, h2⟩ := rd_some hf
  exact fun H locs ls hP hS hl => va_zald K.1 K.2.1 K.2.2.2.2.2.1 hP c0 t0 he ht h1 hd (kk _ h2 H locs ls hP hS hl)
theorem g_iast (pc' c0 t0 ak : Nat) (K : Ok p s m args c cc nL own D tys A w) {cA : ClassId} {n a : Nat} {i x : Int32} {Kf : St → Option α} (he : (w S)[c0]? = some (a, .inl (cA, n, .inl (S.2 ak)))) (ht : tys[t0]? = some (cA, .int)) (hw : ∀ f : Nat → Int32, (w S).set c0 (a, .inl (cA, n, .inl f)) = w (pA S ak f)) (hf : (wr S ak n i x).bind Kf = some res) (hd : decode cc pc = .ok (.iastore, 1)) (hp : pc + 1 = pc') (kk : ∀ S1 : St, Kf S1 = some res → G p l e R s m args below meth c kc ks Q nL D A w S1 pc' lv st) : G p l e R s m args below meth c kc ks Q nL D A w S pc lv (.int x :: .int i :: .ref a :: st) := by
  subst hp
  obtain ⟨h1, h2⟩ := wr_some hf
  exact fun H locs ls hP hS hl => va_iast K.1 K.2.1 K.2.2.2.2.2.1 hP (K.2.2.2.2.2.2.1 S) hS c0 t0 he ht h1 hd (fun H1 locs1 hP1 _ hS1 => kk _ h2 H1 locs1 ls (by rw [hw] at hP1; exact hP1) hS1 hl)
theorem g_bast (pc' c0 t0 ak : Nat) (K : Ok p s m args c cc nL own D tys A w) {cA : ClassId} {n a : Nat} {i x : Int32} {Kf : St → Option α} (he : (w S)[c0]? = some (a, .inl (cA, n, .inl (S.2 ak)))) (ht : tys[t0]? = some (cA, .byte)) (hw : ∀ f : Nat → Int32, (w S).set c0 (a, .inl (cA, n, .inl f)) = w (pA S ak f)) (hf : (wr S ak n i (vp_nar .byte x)).bind Kf = some res) (hd : decode cc pc = .ok (.bastore, 1)) (hp : pc + 1 = pc') (kk : ∀ S1 : St, Kf S1 = some res → G p l e R s m args below meth c kc ks Q nL D A w S1 pc' lv st) : G p l e R s m args below meth c kc ks Q nL D A w S pc lv (.int x :: .int i :: .ref a :: st) := by
  subst hp
  obtain ⟨h1, h2⟩ := wr_some hf
  exact fun H locs ls hP hS hl => va_bast K.1 K.2.1 K.2.2.2.2.2.1 hP (K.2.2.2.2.2.2.1 S) hS c0 t0 he ht h1 hd (fun H1 locs1 hP1 _ hS1 => kk _ h2 H1 locs1 ls (by rw [hw] at hP1; exact hP1) hS1 hl)
theorem g_zast (pc' c0 t0 ak : Nat) (K : Ok p s m args c cc nL own D tys A w) {cA : ClassId} {n a : Nat} {i x : Int32} {Kf : St → Option α} (he : (w S)[c0]? = some (a, .inl (cA, n, .inl (S.2 ak)))) (ht : tys[t0]? = some (cA, .boolean)) (hw : ∀ f : Nat → Int32, (w S).set c0 (a, .inl (cA, n, .inl f)) = w (pA S ak f)) (hf : (wr S ak n i (vp_nar .boolean x)).bind Kf = some res) (hd : decode cc pc = .ok (.bastore, 1)) (hp : pc + 1 = pc') (kk : ∀ S1 : St, Kf S1 = some res → G p l e R s m args below meth c kc ks Q nL D A w S1 pc' lv st) : G p l e R s m args below meth c kc ks Q nL D A w S pc lv (.int x :: .int i :: .ref a :: st) := by
  subst hp
  obtain ⟨h1, h2⟩ := wr_some hf
  exact fun H locs ls hP hS hl => va_zast K.1 K.2.1 K.2.2.2.2.2.1 hP (K.2.2.2.2.2.2.1 S) hS c0 t0 he ht h1 hd (fun H1 locs1 hP1 _ hS1 => kk _ h2 H1 locs1 ls (by rw [hw] at hP1; exact hP1) hS1 hl)
theorem g_alen (pc' c0 t0 : Nat) (v : Int32) (K : Ok p s m args c cc nL own D tys A w) {cA : ClassId} {a : Nat} {x : vp_A} {ty : FieldType} (he : (w S)[c0]? = some (a, .inl (cA, x))) (ht : tys[t0]? = some (cA, ty)) (hv : Int32.ofNat x.1 = v) (hd : decode cc pc = .ok (.arraylength, 1)) (hp : pc + 1 = pc') (kk : G p l e R s m args below meth c kc ks Q nL D A w S pc' lv (.int v :: st)) : G p l e R s m args below meth c kc ks Q nL D A w S pc lv (.ref a :: st) := by
  subst hp
  exact fun H locs ls hP hS hl => va_alen K.1 K.2.1 K.2.2.2.2.2.1 hP c0 t0 he ht hv hd (kk H locs ls hP hS hl)
theorem g_mmin (pc' : Nat) (K : Ok p s m args c cc nL own D tys A w) {idx : Nat} {x y : Int32} (h1 : Cond.methodLink own idx Lib.Math.min.name ∈ big) (h2 : Cond.static Lib.Math.min.name ∈ big) (h3 : Cond.initialized "java/lang/Math" ∈ big) (h4 : Cond.code Lib.Math.min.name Lib.Math.min.code 2 (some .int) ∈ big) (hR : 1 ≤ R.frames ∧ (st.map fun v => v.category).sum + 13 ≤ R.locals ∧ kc ≤ R.cells ∧ ks ≤ R.slots) (hd : decode cc pc = .ok (.invokestatic idx, 3)) (hp : pc + 3 = pc') (kk : G p l e R s m args below meth c kc ks Q nL D A w S pc' lv (.int (if y < x then y else x) :: st)) : G p l e R s m args below meth c kc ks Q nL D A w S pc lv (.int y :: .int x :: st) := by
  subst hp
  exact fun H locs ls hP hS hl => va_mmin K.1 K.2.1 (K.2.2.1.trans hl.1.symm) K.2.2.2.1 (K.2.2.2.2.1 _ h1) (K.2.2.2.2.1 _ h2) (K.2.2.2.2.1 _ h3) (K.2.2.2.2.1 _ h4) hR.1 hR.2.1 hR.2.2.1 hR.2.2.2 hd (kk H locs ls hP hS hl)
theorem g_mmax (pc' : Nat) (K : Ok p s m args c cc nL own D tys A w) {idx : Nat} {x y : Int32} (h1 : Cond.methodLink own idx Lib.Math.max.name ∈ big) (h2 : Cond.static Lib.Math.max.name ∈ big) (h3 : Cond.initialized "java/lang/Math" ∈ big) (h4 : Cond.code Lib.Math.max.name Lib.Math.max.code 2 (some .int) ∈ big) (hR : 1 ≤ R.frames ∧ (st.map fun v => v.category).sum + 13 ≤ R.locals ∧ kc ≤ R.cells ∧ ks ≤ R.slots) (hd : decode cc pc = .ok (.invokestatic idx, 3)) (hp : pc + 3 = pc') (kk : G p l e R s m args below meth c kc ks Q nL D A w S pc' lv (.int (if x < y then y else x) :: st)) : G p l e R s m args below meth c kc ks Q nL D A w S pc lv (.int y :: .int x :: st) := by
  subst hp
  exact fun H locs ls hP hS hl => va_mmax K.1 K.2.1 (K.2.2.1.trans hl.1.symm) K.2.2.2.1 (K.2.2.2.2.1 _ h1) (K.2.2.2.2.1 _ h2) (K.2.2.2.2.1 _ h3) (K.2.2.2.2.1 _ h4) hR.1 hR.2.1 hR.2.2.1 hR.2.2.2 hd (kk H locs ls hP hS hl)
theorem g_tabOut (t : Nat) (K : Ok p s m args c cc nL own D tys A w) {dflt lo hi : Int} {offs : Array Int} {len : Nat} {x : Int32} (h : x.toInt < lo ∨ hi < x.toInt) (hd : decode cc pc = .ok (.tableswitch dflt lo hi offs, len)) (ht : (pc : Int) + dflt = (t : Int)) (k : G p l e R s m args below meth c kc ks Q nL D A w S t lv st) : G p l e R s m args below meth c kc ks Q nL D A w S pc lv (.int x :: st) :=
  fun H locs ls hP hS hl => lv_tableOut K.1 K.2.1 hd h ht (k H locs ls hP hS hl)
theorem g_tabIn (t : Nat) (v : Int32) (K : Ok p s m args c cc nL own D tys A w) {dflt lo hi : Int} {offs : Array Int} {len : Nat} {x : Int32} {off : Int} (hx : x = v) (hd : decode cc pc = .ok (.tableswitch dflt lo hi offs, len)) (h1 : ¬ v.toInt < lo) (h2 : ¬ hi < v.toInt) (ho : offs[(v.toInt - lo).toNat]? = some off) (ht : (pc : Int) + off = (t : Int)) (k : G p l e R s m args below meth c kc ks Q nL D A w S t lv st) : G p l e R s m args below meth c kc ks Q nL D A w S pc lv (.int x :: st) := by
  subst hx
  exact fun H locs ls hP hS hl => lv_tableIn K.1 K.2.1 hd h1 h2 ho ht (k H locs ls hP hS hl)
/-- behind a call that changes the world alone -/
theorem g_after {rv : Option Value} {S1 : St} {st0 rest : List Value} (K : Ok p s m args c cc nL own D tys A w)
    (hr : ∀ (H : Heap) (locs : List Loc) (ls : Array Slot), va_P D vwCl (w S) H → va_S A s.heap H locs → lv_has ls nL lv → va_Run p l e R s m args below meth c H locs kc ks 0 0 (F0 m pc ls st0) rest (fun st oc t => PostU D w rv S1 H.size st oc t) (Aw w H.size))
    (kk : G p l e R s m args below meth c kc ks Q nL D A w S1 (pc + 3) lv (rv.toList ++ rest)) : G p l e R s m args below meth c kc ks Q nL D A w S pc lv st0 := by
  intro H locs ls hP hS hl T hT X
  obtain ⟨v, st₀, t, T', L, h0, X', hL, e1, e2, ⟨⟨hv, hp⟩, hz, hk⟩, stp⟩ := hr H locs ls hP hS hl T hT X
  cases hv
  rw [h0] at hz hk
  have hAw := fl_A K.2.2.2.2.2.2.2.2 (K.2.2.2.2.2.2.1 S) K.2.2.2.2.2.2.2.1 hS.1
  obtain ⟨t2, a1, b1⟩ := kk T'.heap (locs ++ L) ls (by rw [e1]; exact hp)
    ⟨Nat.le_trans hS.1 (by rw [e1]; exact hz), fun q h1 h2 => by rw [e1, hk q (Nat.lt_of_lt_of_le h1 hS.1) (fun z => h2 (hAw q z))]; exact hS.2.1 q h1 h2, fun q hq => by
      rcases List.mem_append.mp hq with h | h
      · exact hS.2.2 q h
      · exact hAw _ (hL q h)⟩ hl T' rfl X'
  exact ⟨t2, stp t2 a1, b1⟩
theorem c_blind (hF : Fok F) {w : St → va_W} {S : St} {sz : Nat} {As : List Value} : FrameBlind (va_Pc As (PreU D tys F w S sz)) := fun a U g mk q => by
  obtain ⟨q0, q1, qP, qK, qD, qF⟩ := q
  exact ⟨q0, q1, qP, va_K.moved (u := U) (U := U.calling g mk a) (Vm.Alike.refl U.vm) qK, qD, hF.1 _ _ _ _ _ qF⟩
theorem c_pre (K : Ok p s m args c cc nL own D tys A w) (hF : Fok F) (hs : F A s) {H : Heap} {locs : List Loc} (hP : va_P D vwCl (w S) H) (hS : va_S A s.heap H locs) {As : List Value} : ∀ U : State, U.heap = H → s.WarmedH U.vm → va_Pc As (PreU D tys F w S H.size) As.toArray U := fun U hU hW =>
  ⟨rfl, by rw [hU], by rw [hU]; exact hP, va_K.moved hW.alike K.2.2.2.2.2.1, (K.2.2.2.2.2.2.1 S).weaken (fun _ _ _ _ => trivial), hF.2 A _ s U hs hW (by rw [hU]; exact hS.1) (fun q h1 h2 => by rw [hU]; exact hS.2.1 q h1 h2) (fl_A K.2.2.2.2.2.2.2.2 (K.2.2.2.2.2.2.1 S) K.2.2.2.2.2.2.2.1 hS.1)⟩
abbrev Dsc (y : MethodName) (C : String) (n : Nat) : Prop := y.cls = C ∧ y.cls ≠ "java/lang/invoke/MethodHandle" ∧ y.cls ≠ "java/lang/invoke/VarHandle" ∧ (parseMethodDescriptor y.desc).map (fun d => d.parameters.length) = some n
theorem g_callV (pc' c0 : Nat) (K : Ok p s m args c cc nL own D tys A w) (hF : Fok F) (hs : F A s) {y : MethodName} {bytes : ByteArray} {maxL fr lo n idx ci b N : Nat} {ret : Option FieldType} {As rest : List Value} {rv : Option Value} {S1 : St} {C : String} {T : u_T} {fs : List Value} {st0 : List Value} (hM : Cn l y bytes maxL ret fr lo D tys F w (.ref b :: As) S rv S1) (h1 : Cond.methodLink own idx y ∈ big) (h2 : Cond.instanceMethod y ∈ big) (h3 : Cond.selects C y y ∈ big) (h4 : Cond.initialized C ∈ big) (h5 : Cond.code y bytes maxL ret ∈ big) (h6 : Dsc y C n) (hR : fr + 1 ≤ R.frames ∧ 8 + (maxL + 11) + lo ≤ R.locals ∧ kc ≤ R.cells ∧ ks ≤ R.slots) (hc : vwCl[ci]? = some (C, T, N)) (he : (w S)[c0]? = some (b, .inr (ci, fs))) (hn : As.length = n) (hst : st0 = As.reverse ++ .ref b :: rest) (hW : (rest.map fun v => v.category).sum ≤ 8) (hd : decode cc pc = .ok (.invokevirtual idx, 3)) (hp : pc + 3 = pc') (kk : G p l e R s m args below meth c kc ks Q nL D A w S1 pc' lv (rv.toList ++ rest)) : G p l e R s m args below meth c kc ks Q nL D A w S pc lv st0 := by
  subst hp
  subst hst
  have hG : GoodIn big (wsV own idx C y (Cond.code y bytes maxL ret :: big)) := big_sub (big_cons h1 (big_cons h2 (big_cons h3 (big_cons h4 (big_cons h5 (fun _ h => h))))))
  exact g_after K (fun H locs ls hP hS hl => va_runV (As := As) (rest := rest) ⟨K.1, K.2.1, K.2.2.1, K.2.2.2.1, K.2.2.2.2.1⟩ (hM H.size) (cwV n K.2.2.2.2.1 hG rfl rfl rfl h6 ⟨hR.1, hR.2.1⟩) ⟨c_blind hF, va_recv K.2.2.2.2.2.1 hP hc he, c_pre K hF hs hP hS⟩ rfl hn hl.1 rfl (lv_room hW) hd ⟨hR.2.2.1, hR.2.2.2⟩) kk
theorem g_callS (pc' : Nat) (K : Ok p s m args c cc nL own D tys A w) (hF : Fok F) (hs : F A s) {y : MethodName} {bytes : ByteArray} {maxL fr lo n idx : Nat} {ret : Option FieldType} {As rest : List Value} {rv : Option Value} {S1 : St} {C : String} {st0 : List Value} (hM : Cn l y bytes maxL ret fr lo D tys F w As S rv S1) (h1 : Cond.methodLink own idx y ∈ big) (h2 : Cond.static y ∈ big) (h4 : Cond.initialized C ∈ big) (h5 : Cond.code y bytes maxL ret ∈ big) (h6 : Dsc y C n) (hR : fr + 1 ≤ R.frames ∧ 8 + (maxL + 11) + lo ≤ R.locals ∧ kc ≤ R.cells ∧ ks ≤ R.slots) (hn : As.length = n) (hst : st0 = As.reverse ++ rest) (hW : (rest.map fun v => v.category).sum ≤ 8) (hd : decode cc pc = .ok (.invokestatic idx, 3)) (hp : pc + 3 = pc') (kk : G p l e R s m args below meth c kc ks Q nL D A w S1 pc' lv (rv.toList ++ rest)) : G p l e R s m args below meth c kc ks Q nL D A w S pc lv st0 := by
  subst hp
  subst hst
  obtain ⟨hC, h6⟩ := h6
  subst hC
  have hG : GoodIn big (va_wsS own idx y (Cond.code y bytes maxL ret :: big)) := big_sub (big_cons h1 (big_cons h2 (big_cons h4 (big_cons h5 (fun _ h => h)))))
  exact g_after K (fun H locs ls hP hS hl => va_runS (As := As) (rest := rest) ⟨K.1, K.2.1, K.2.2.1, K.2.2.2.1, K.2.2.2.2.1⟩ (hM H.size) (va_cwS n K.2.2.2.2.1 hG rfl rfl rfl h6 ⟨hR.1, hR.2.1⟩) ⟨c_blind hF, c_pre K hF hs hP hS⟩ rfl hn hl.1 rfl (lv_room hW) hd ⟨hR.2.2.1, hR.2.2.2⟩) kk
theorem g_callSN (pc' : Nat) (K : Ok p s m args c cc nL own D tys A w) (hF : Fok F) (hs : F A s) {y : MethodName} {bytes : ByteArray} {maxL fr lo n idx : Nat} {ret : Option FieldType} {As rest : List Value} {rv : Option Value} {S1 : St} {C host : String} {st0 : List Value} (hM : Cn l y bytes maxL ret fr lo D tys F w As S rv S1) (h1 : va_Nw (Cond.methodLinkNest own idx y host) s) (h2 : Cond.static y ∈ big) (h4 : Cond.initialized C ∈ big) (h5 : Cond.code y bytes maxL ret ∈ big) (h6 : Dsc y C n) (hR : fr + 1 ≤ R.frames ∧ 8 + (maxL + 11) + lo ≤ R.locals ∧ kc ≤ R.cells ∧ ks ≤ R.slots) (hn : As.length = n) (hst : st0 = As.reverse ++ rest) (hW : (rest.map fun v => v.category).sum ≤ 8) (hd : decode cc pc = .ok (.invokestatic idx, 3)) (hp : pc + 3 = pc') (kk : G p l e R s m args below meth c kc ks Q nL D A w S1 pc' lv (rv.toList ++ rest)) : G p l e R s m args below meth c kc ks Q nL D A w S pc lv st0 := by
  subst hp
  subst hst
  obtain ⟨hC, h6⟩ := h6
  subst hC
  have hG : GoodIn big (Cond.code y bytes maxL ret :: big) := big_sub (big_cons h5 (fun _ h => h))
  exact g_after K (fun H locs ls hP hS hl => va_runSN (As := As) (rest := rest) ⟨K.1, K.2.1, K.2.2.1, K.2.2.2.1, K.2.2.2.2.1⟩ (hM H.size) ⟨va_cnB n K.2.2.2.2.1 hG rfl rfl rfl h1 (K.2.2.2.2.1 _ h4) h6 ⟨hR.1, hR.2.1⟩, K.2.2.2.2.1 _ h2, trivial⟩ ⟨c_blind hF, c_pre K hF hs hP hS⟩ rfl hn hl.1 rfl (lv_room hW) hd ⟨hR.2.2.1, hR.2.2.2⟩) kk
theorem g_iret (K : Ok p s m args c cc nL own D tys (Aw w s.heap.size) w) (hr : meth.sig.returnType = some .int) (hlk : meth.locks = false) {v r : Int32} {S1 : St} (hf : some (v, S) = some (r, S1)) (hd : decode cc pc = .ok (.ireturn, 1)) : G p l e R s m args below meth c 0 0 (Qm below args s D w (some (.int r)) S1) nL D (Aw w s.heap.size) w S pc lv [.int v] := by
  cases hf
  exact fun H locs ls hP hS hl => W.iret K.1 K.2.1 hr (fun t ht hW => ⟨⟨rfl, by rw [ht]; exact hP⟩, hS.F ht⟩) hS.2.2 hd hlk
theorem g_zret (K : Ok p s m args c cc nL own D tys (Aw w s.heap.size) w) (hr : meth.sig.returnType = some .boolean) (hlk : meth.locks = false) {v r : Int32} {S1 : St} (hf : zr v S = some (r, S1)) (hd : decode cc pc = .ok (.ireturn, 1)) : G p l e R s m args below meth c 0 0 (Qm below args s D w (some (.int r)) S1) nL D (Aw w s.heap.size) w S pc lv [.int v] := by
  unfold zr at hf
  by_cases hv : v = 0 ∨ v = 1
  · rw [if_pos hv] at hf
    have hn : narrow .boolean (.int v) = .int v := by rcases hv with rfl | rfl <;> rfl
    cases hf
    exact fun H locs ls hP hS hl => W.zret K.1 K.2.1 hr hn (fun t ht hW => ⟨⟨rfl, by rw [ht]; exact hP⟩, hS.F ht⟩) hS.2.2 hd hlk
  · rw [if_neg hv] at hf
    cases hf
theorem g_vret (K : Ok p s m args c cc nL own D tys (Aw w s.heap.size) w) (hr : meth.sig.returnType = none) (hlk : meth.locks = false) {S1 : St} (hf : some S = some S1) (hd : decode cc pc = .ok (.return_, 1)) : G p l e R s m args below meth c 0 0 (Qm below args s D w none S1) nL D (Aw w s.heap.size) w S pc lv [] := by
  cases hf
  exact fun H locs ls hP hS hl => W.vret K.1 K.2.1 hr (fun t ht hW => ⟨⟨rfl, by rw [ht]; exact hP⟩, hS.F ht⟩) hS.2.2 hd hlk
end GH
theorem c_of {l : Launch} {y : MethodName} {bytes : ByteArray} {maxL : Nat} {ret : Option FieldType} {fr lo : Nat} {D : va_G} {tys : TY} {F : FT} {w : St → va_W} {As : List Value} {S : St} {rv : Option Value} {S1 : St} (hy : plainName y.cls = true) (hfl : Flat w) (hlen : (lg_sl As).length ≤ maxL) (lv0 : List (Nat × Value)) (hlv : lv_args 0 As = lv0)
    (body : ∀ (p : Program) (e : Env) (s : State) (m : MethodId) (args : Array Value) (below : List Frame) (meth : Method) (c : Code), Ok p s m args c bytes maxL y.cls D tys (Aw w s.heap.size) w → meth.sig.returnType = ret → meth.locks = false → F (Aw w s.heap.size) s →
      G p l e { frames := fr, cells := 0, slots := 0, locals := lo } s m args below meth c 0 0 (Qm below args s D w rv S1) maxL D (Aw w s.heap.size) w S 0 lv0 []) : Cn l y bytes maxL ret fr lo D tys F w As S rv S1 := by
  intro sz
  refine Met.ofW (cc := bytes) (maxL := maxL) (ret := ret) hy rfl ?_
  intro p e s m args below meth c s₁ B hml hv
  obtain ⟨rfl, hsz, hP, hK, hD, hF⟩ := hv
  subst hsz
  have hts := atoms_spec (ws := Cond.code y bytes maxL ret :: big) B.pre
  have hown : s.vm.findClass y.cls = some m.cls := findClass_of_methodNamed B.named
  have K : Ok p s m As.toArray c bytes maxL y.cls D tys (Aw w s.heap.size) w := ⟨B.exec, B.bytes, hml, hown, fun x hx => hts x (List.mem_cons_of_mem _ hx), hK, fl_Aw hfl hD _, fun q hq => Or.inr hq, hfl⟩
  have hl := lv_entry As (n := maxL) hlen
  rw [hlv] at hl
  have h1 := body p e s m As.toArray below meth c K B.returns B.notSynchronized hF s.heap [] _ hP va_S.rf hl
  rw [lg_entry_eq]
  exact h1
