-- PURE WORDS: a state is its whole numbers (S.1 k) and its rows (S.2 k)
abbrev St : Type := (Nat → Int32) × (Nat → Nat → Int32)
def S0 : St := (fun _ => 0, fun _ _ => 0)
def pF (S : St) (k : Nat) (v : Int32) : St := (upd S.1 k v, S.2)
def pA (S : St) (k : Nat) (f : Nat → Int32) : St := (S.1, fun j => if j = k then f else S.2 j)
def inB (i : Int32) (n : Nat) : Bool := !(decide (i < 0) || decide (n ≤ i.toNatClampNeg))
theorem inB_in {i : Int32} {n : Nat} (h : inB i n = true) : vp_in i n := by
  unfold inB at h
  unfold vp_in
  simp at h
  intro hc
  rcases hc with hc | hc
  · exact absurd hc (by simpa using h.1)
  · exact absurd hc (by omega)
def rd (f : Nat → Int32) (n : Nat) (i : Int32) : Option Int32 := if inB i n = true then some (f i.toNatClampNeg) else none
def wr (S : St) (k n : Nat) (i x : Int32) : Option St := if inB i n = true then some (pA S k (upd (S.2 k) i.toNatClampNeg x)) else none
def lett {α β : Type} (a : α) (f : α → β) : β := f a
theorem rd_some {α : Type} {f : Nat → Int32} {n : Nat} {i : Int32} {K : Int32 → Option α} {r : α} (h : (rd f n i).bind K = some r) : vp_in i n ∧ K (f i.toNatClampNeg) = some r := by
  unfold rd at h
  by_cases hb : inB i n = true
  · rw [if_pos hb] at h
    exact ⟨inB_in hb, h⟩
  · rw [if_neg hb] at h
    cases h
theorem wr_some {α : Type} {S : St} {k n : Nat} {i x : Int32} {K : St → Option α} {r : α} (h : (wr S k n i x).bind K = some r) : vp_in i n ∧ K (pA S k (upd (S.2 k) i.toNatClampNeg x)) = some r := by
  unfold wr at h
  by_cases hb : inB i n = true
  · rw [if_pos hb] at h
    exact ⟨inB_in hb, h⟩
  · rw [if_neg hb] at h
    cases h
theorem bd_some {α β : Type} {o : Option β} {K : β → Option α} {r : α} (h : o.bind K = some r) : ∃ v, o = some v ∧ K v = some r := by
  cases o with
  | none => cases h
  | some v => exact ⟨v, rfl, h⟩
def loop0 {α : Type} (b : (St → Option α) → St → Option α) : Nat → St → Option α
  | 0, _ => none
  | n + 1, S => b (loop0 b n) S
def loop1 {α T1 : Type} (b : (St → T1 → Option α) → St → T1 → Option α) : Nat → St → T1 → Option α
  | 0, _, _ => none
  | n + 1, S, x => b (loop1 b n) S x
def loop2 {α T1 T2 : Type} (b : (St → T1 → T2 → Option α) → St → T1 → T2 → Option α) : Nat → St → T1 → T2 → Option α
  | 0, _, _, _ => none
  | n + 1, S, x, y => b (loop2 b n) S x y
def loop3 {α T1 T2 T3 : Type} (b : (St → T1 → T2 → T3 → Option α) → St → T1 → T2 → T3 → Option α) : Nat → St → T1 → T2 → T3 → Option α
  | 0, _, _, _, _ => none
  | n + 1, S, x, y, z => b (loop3 b n) S x y z
def loop4 {α T1 T2 T3 T4 : Type} (b : (St → T1 → T2 → T3 → T4 → Option α) → St → T1 → T2 → T3 → T4 → Option α) : Nat → St → T1 → T2 → T3 → T4 → Option α
  | 0, _, _, _, _, _ => none
  | n + 1, S, x, y, z, u => b (loop4 b n) S x y z u
-- WORDS OF THE TABLES: one list for every method
def big : List Cond := lw_tbl.filter goodWord
theorem big_of {w : Cond} (i : Nat) (h : lw_tbl[i]? = some w) (hg : goodWord w = true) : w ∈ big := List.mem_filter.mpr ⟨List.mem_of_getElem? h, hg⟩
theorem big_good : GoodIn big big := fun w h => ⟨h, good_of_word (List.mem_filter.mp h).2⟩
theorem big_cons {x : Cond} (h : x ∈ big) {ws : List Cond} (k : ∀ w ∈ ws, w ∈ big) : ∀ w ∈ x :: ws, w ∈ big := fun w hw => (List.mem_cons.mp hw).elim (fun e => e ▸ h) (k w)
theorem big_sub {ws : List Cond} (k : ∀ w ∈ ws, w ∈ big) : GoodIn big ws := fun w h => big_good w (k w h)
-- THE WORLD OF A METHOD: a function of the state, its addresses fixed
def Aw (w : St → va_W) (sz : Nat) : Nat → Prop := va_A (w S0) sz
def Flat (w : St → va_W) : Prop := ∀ S, (w S).map (fun q => q.1) = (w S0).map (fun q => q.1)
theorem fl_get {w : St → va_W} (h : Flat w) {S : St} {k a : Nat} {e : va_E} (hk : (w S)[k]? = some (a, e)) : ∃ e', (w S0)[k]? = some (a, e') := by
  have h1 : ((w S).map (fun q => q.1))[k]? = some a := by rw [List.getElem?_map, hk]; rfl
  rw [h S, List.getElem?_map] at h1
  cases h2 : (w S0)[k]? with
  | none => rw [h2] at h1; cases h1
  | some x =>
    rw [h2] at h1
    obtain ⟨a', e'⟩ := x
    cases h1
    exact ⟨e', rfl⟩
theorem fl_get0 {w : St → va_W} (h : Flat w) (S : St) {k a : Nat} {e : va_E} (hk : (w S0)[k]? = some (a, e)) : ∃ e', (w S)[k]? = some (a, e') := by
  have h1 : ((w S0).map (fun q => q.1))[k]? = some a := by rw [List.getElem?_map, hk]; rfl
  rw [← h S, List.getElem?_map] at h1
  cases h2 : (w S)[k]? with
  | none => rw [h2] at h1; cases h1
  | some x =>
    rw [h2] at h1
    obtain ⟨a', e'⟩ := x
    cases h1
    exact ⟨e', rfl⟩
theorem fl_D {w : St → va_W} (h : Flat w) {A : Nat → Prop} {S : St} (hD : va_D A (w S)) (S' : St) : va_D A (w S') := by
  have back : ∀ {k : Nat} {q : Nat × va_E}, (w S')[k]? = some q → ∃ e', (w S)[k]? = some (q.1, e') := by
    intro k q hq
    obtain ⟨a, e⟩ := q
    obtain ⟨e0, h0⟩ := fl_get h hq
    exact fl_get0 h S h0
  refine ⟨fun i j p q hi hj e => ?_, fun k q hk => ?_⟩
  · obtain ⟨e1, h1⟩ := back hi
    obtain ⟨e2, h2⟩ := back hj
    exact hD.1 i j _ _ h1 h2 e
  · obtain ⟨e1, h1⟩ := back hk
    exact hD.2 k (q.1, e1) h1
theorem fl_A {w : St → va_W} (h : Flat w) {A : Nat → Prop} {S : St} (hD : va_D A (w S)) {s0 sz : Nat} (hA : ∀ q, s0 ≤ q → A q) (hs : s0 ≤ sz) : ∀ q, Aw w sz q → A q := by
  intro q hq
  rcases hq with ⟨k, e, hk⟩ | hq
  · obtain ⟨e', h'⟩ := fl_get0 h S hk
    exact hD.2 k _ h'
  · exact hA q (Nat.le_trans hs hq)
theorem fl_Aw {w : St → va_W} (h : Flat w) {B : Nat → Prop} {S : St} (hD : va_D B (w S)) (sz : Nat) (S' : St) : va_D (Aw w sz) (w S') := by
  refine fl_D h (S := S) ⟨hD.1, fun k q hk => ?_⟩ S'
  obtain ⟨a, e⟩ := q
  obtain ⟨e0, h0⟩ := fl_get h hk
  exact Or.inl ⟨k, e0, h0⟩
abbrev tyL (cI cB cZ : ClassId) : List (ClassId × FieldType) := [(cI, .int), (cB, .byte), (cZ, .boolean)]
abbrev TY : Type := List (ClassId × FieldType)
/-- what a method stands on at its entry: the machine, its code, the tables' words, the kinds, the world's addresses -/
def Ok (p : Program) (s : State) (m : MethodId) (args : Array Value) (c : Code) (cc : ByteArray) (nL : Nat) (own : String) (D : va_G) (tys : TY) (A : Nat → Prop) (w : St → va_W) : Prop :=
  p.tables.exec = Jvm.exec ∧ c.code = cc ∧ c.maxLocals = nL ∧ s.vm.findClass own = some m.cls ∧ (∀ x ∈ big, x.before args s = true) ∧ va_K D vwCl tys s ∧ (∀ S, va_D A (w S)) ∧ (∀ q, s.heap.size ≤ q → A q) ∧ Flat w
/-- the machine at a place of a method, its world holding the state S, comes to Q -/
def G (p : Program) (l : Launch) (e : Env) (R : Room) (s : State) (m : MethodId) (args : Array Value) (below : List Frame) (meth : Method) (c : Code) (kc ks : Nat) (Q : State → Prop) (nL : Nat) (D : va_G) (A : Nat → Prop) (w : St → va_W) (S : St) (pc : Nat) (lv : List (Nat × Value)) (st : List Value) : Prop :=
  ∀ (H : Heap) (locs : List Loc) (ls : Array Slot), va_P D vwCl (w S) H → va_S A s.heap H locs → lv_has ls nL lv → W p l e R s m args below meth c H locs kc ks Q (F0 m pc ls st)
section GR
variable {p : Program} {l : Launch} {e : Env} {R : Room} {s : State} {m : MethodId} {args : Array Value} {below : List Frame} {meth : Method} {c : Code} {kc ks : Nat} {Q : State → Prop} {nL : Nat} {D : va_G} {A : Nat → Prop} {w : St → va_W} {S : St} {lv lv' : List (Nat × Value)} {st : List Value} {cc : ByteArray} {own : String} {tys : TY} {pc : Nat} {α : Type} {res : α}
theorem g_sub (ks' : List Nat) (h : lv_pick lv ks' = lv') (k : G p l e R s m args below meth c kc ks Q nL D A w S pc lv' st) : G p l e R s m args below meth c kc ks Q nL D A w S pc lv st :=
  fun H locs ls hP hS hl => k H locs ls hP hS (lv_sub hl ks' h)
theorem g_iconst (pc' : Nat) (v : Int32) (K : Ok p s m args c cc nL own D tys A w) {n : Int} (hd : decode cc pc = .ok (.iconst n, 1)) (hp : pc + 1 = pc') (hv : Int32.ofInt n = v) (k : G p l e R s m args below meth c kc ks Q nL D A w S pc' lv (.int v :: st)) : G p l e R s m args below meth c kc ks Q nL D A w S pc lv st := by
  subst hp
  exact fun H locs ls hP hS hl => lv_iconst K.1 K.2.1 hd hv (k H locs ls hP hS hl)
theorem g_bipush (pc' : Nat) (v : Int32) (K : Ok p s m args c cc nL own D tys A w) {n : Int} (hd : decode cc pc = .ok (.bipush n, 2)) (hp : pc + 2 = pc') (hv : (Int8.ofInt n).toInt32 = v) (k : G p l e R s m args below meth c kc ks Q nL D A w S pc' lv (.int v :: st)) : G p l e R s m args below meth c kc ks Q nL D A w S pc lv st := by
  subst hp
  exact fun H locs ls hP hS hl => lv_bipush K.1 K.2.1 hd hv (k H locs ls hP hS hl)
theorem g_sipush (pc' : Nat) (v : Int32) (K : Ok p s m args c cc nL own D tys A w) {n : Int} (hd : decode cc pc = .ok (.sipush n, 3)) (hp : pc + 3 = pc') (hv : (Int16.ofInt n).toInt32 = v) (k : G p l e R s m args below meth c kc ks Q nL D A w S pc' lv (.int v :: st)) : G p l e R s m args below meth c kc ks Q nL D A w S pc lv st := by
  subst hp
  exact fun H locs ls hP hS hl => lv_sipush K.1 K.2.1 hd hv (k H locs ls hP hS hl)
theorem g_lconst (pc' : Nat) (v : Int64) (K : Ok p s m args c cc nL own D tys A w) {n : Fin 2} (hd : decode cc pc = .ok (.lconst n, 1)) (hp : pc + 1 = pc') (hv : Int64.ofNat (n : Nat) = v) (k : G p l e R s m args below meth c kc ks Q nL D A w S pc' lv (.long v :: st)) : G p l e R s m args below meth c kc ks Q nL D A w S pc lv st := by
  subst hp
  exact fun H locs ls hP hS hl => lv_lconst K.1 K.2.1 hd hv (k H locs ls hP hS hl)
theorem g_ldc (pc' : Nat) (v : Int32) (K : Ok p s m args c cc nL own D tys A w) {i : Nat} (hd : decode cc pc = .ok (.ldc i, 2)) (hp : pc + 2 = pc') (hw : Cond.constant own i v ∈ big) (k : G p l e R s m args below meth c kc ks Q nL D A w S pc' lv (.int v :: st)) : G p l e R s m args below meth c kc ks Q nL D A w S pc lv st := by
  subst hp
  exact fun H locs ls hP hS hl => W.ldc (g := F0 m pc ls st) K.1 K.2.1 K.2.2.2.1 (K.2.2.2.2.1 _ hw) rfl hd (k H locs ls hP hS hl)
theorem g_ldc2 (pc' : Nat) (v : Int64) (K : Ok p s m args c cc nL own D tys A w) {i : Nat} (hd : decode cc pc = .ok (.ldc2_w i, 3)) (hp : pc + 3 = pc') (hw : Cond.constantLong own i v ∈ big) (k : G p l e R s m args below meth c kc ks Q nL D A w S pc' lv (.long v :: st)) : G p l e R s m args below meth c kc ks Q nL D A w S pc lv st := by
  subst hp
  exact fun H locs ls hP hS hl => W.ldc2 (g := F0 m pc ls st) K.1 K.2.1 K.2.2.2.1 (K.2.2.2.2.1 _ hw) rfl hd (k H locs ls hP hS hl)
theorem g_iload_n (pc' i : Nat) (K : Ok p s m args c cc nL own D tys A w) {j : Fin 4} {a : Nat} {x : Int32} (hd : decode cc pc = .ok (.iload_n j, 1)) (hp : pc + 1 = pc') (hi : lv[i]? = some (a, .int x)) (hj : (j : Nat) = a) (k : G p l e R s m args below meth c kc ks Q nL D A w S pc' lv (.int x :: st)) : G p l e R s m args below meth c kc ks Q nL D A w S pc lv st := by
  subst hp
  exact fun H locs ls hP hS hl => lv_iload_n K.1 K.2.1 hd hj (lv_at hl i hi) (k H locs ls hP hS hl)
theorem g_iload (pc' i : Nat) (K : Ok p s m args c cc nL own D tys A w) {a : Nat} {x : Int32} (hd : decode cc pc = .ok (.iload a, 2)) (hp : pc + 2 = pc') (hi : lv[i]? = some (a, .int x)) (k : G p l e R s m args below meth c kc ks Q nL D A w S pc' lv (.int x :: st)) : G p l e R s m args below meth c kc ks Q nL D A w S pc lv st := by
  subst hp
  exact fun H locs ls hP hS hl => lv_iload K.1 K.2.1 hd (lv_at hl i hi) (k H locs ls hP hS hl)
theorem g_lload_n (pc' i : Nat) (K : Ok p s m args c cc nL own D tys A w) {j : Fin 4} {a : Nat} {x : Int64} (hd : decode cc pc = .ok (.lload_n j, 1)) (hp : pc + 1 = pc') (hi : lv[i]? = some (a, .long x)) (hj : (j : Nat) = a) (k : G p l e R s m args below meth c kc ks Q nL D A w S pc' lv (.long x :: st)) : G p l e R s m args below meth c kc ks Q nL D A w S pc lv st := by
  subst hp
  exact fun H locs ls hP hS hl => lv_lload_n K.1 K.2.1 hd hj (lv_at hl i hi) (k H locs ls hP hS hl)
theorem g_lload (pc' i : Nat) (K : Ok p s m args c cc nL own D tys A w) {a : Nat} {x : Int64} (hd : decode cc pc = .ok (.lload a, 2)) (hp : pc + 2 = pc') (hi : lv[i]? = some (a, .long x)) (k : G p l e R s m args below meth c kc ks Q nL D A w S pc' lv (.long x :: st)) : G p l e R s m args below meth c kc ks Q nL D A w S pc lv st := by
  subst hp
  exact fun H locs ls hP hS hl => lv_lload K.1 K.2.1 hd (lv_at hl i hi) (k H locs ls hP hS hl)
theorem g_aload_n (pc' i : Nat) (K : Ok p s m args c cc nL own D tys A w) {j : Fin 4} {a x : Nat} (hd : decode cc pc = .ok (.aload_n j, 1)) (hp : pc + 1 = pc') (hi : lv[i]? = some (a, .ref x)) (hj : (j : Nat) = a) (k : G p l e R s m args below meth c kc ks Q nL D A w S pc' lv (.ref x :: st)) : G p l e R s m args below meth c kc ks Q nL D A w S pc lv st := by
  subst hp
  exact fun H locs ls hP hS hl => lv_aload_n K.1 K.2.1 hd hj (lv_at hl i hi) (k H locs ls hP hS hl)
theorem g_istore_n (pc' i : Nat) (K : Ok p s m args c cc nL own D tys A w) {j : Fin 4} {x : Int32} (hd : decode cc pc = .ok (.istore_n j, 1)) (hp : pc + 1 = pc') (hj : (j : Nat) = i) (hn : i < nL) (hl' : (i, Value.int x) :: lv.filter (fun q => !(q.1 == i) && !(q.1 + 1 == i && q.2.category == 2)) = lv') (k : G p l e R s m args below meth c kc ks Q nL D A w S pc' lv' st) : G p l e R s m args below meth c kc ks Q nL D A w S pc lv (.int x :: st) := by
  subst hp
  exact fun H locs ls hP hS hl => lv_istore_n K.1 K.2.1 hd hj hl hn hl' (fun ls' h' => k H locs ls' hP hS h')
theorem g_istore (pc' i : Nat) (K : Ok p s m args c cc nL own D tys A w) {x : Int32} (hd : decode cc pc = .ok (.istore i, 2)) (hp : pc + 2 = pc') (hn : i < nL) (hl' : (i, Value.int x) :: lv.filter (fun q => !(q.1 == i) && !(q.1 + 1 == i && q.2.category == 2)) = lv') (k : G p l e R s m args below meth c kc ks Q nL D A w S pc' lv' st) : G p l e R s m args below meth c kc ks Q nL D A w S pc lv (.int x :: st) := by
  subst hp
  exact fun H locs ls hP hS hl => lv_istore K.1 K.2.1 hd hl hn hl' (fun ls' h' => k H locs ls' hP hS h')
theorem g_lstore_n (pc' i : Nat) (K : Ok p s m args c cc nL own D tys A w) {j : Fin 4} {x : Int64} (hd : decode cc pc = .ok (.lstore_n j, 1)) (hp : pc + 1 = pc') (hj : (j : Nat) = i) (hn : i + 1 < nL) (hl' : (i, Value.long x) :: lv.filter (fun q => !(q.1 == i) && (!(q.1 == i + 1) && !(q.1 + 1 == i && q.2.category == 2))) = lv') (k : G p l e R s m args below meth c kc ks Q nL D A w S pc' lv' st) : G p l e R s m args below meth c kc ks Q nL D A w S pc lv (.long x :: st) := by
  subst hp
  exact fun H locs ls hP hS hl => lv_lstore_n K.1 K.2.1 hd hj hl hn hl' (fun ls' h' => k H locs ls' hP hS h')
theorem g_iinc (pc' i : Nat) (v : Int32) (K : Ok p s m args c cc nL own D tys A w) {a : Nat} {n : Int} {x : Int32} (hd : decode cc pc = .ok (.iinc a n, 3)) (hp : pc + 3 = pc') (hi : lv[i]? = some (a, .int x)) (hv : Int32.ofInt n = v) (hn : a < nL) (hl' : (a, Value.int (x + v)) :: lv.filter (fun q => !(q.1 == a) && !(q.1 + 1 == a && q.2.category == 2)) = lv') (k : G p l e R s m args below meth c kc ks Q nL D A w S pc' lv' st) : G p l e R s m args below meth c kc ks Q nL D A w S pc lv st := by
  subst hp
  subst hv
  exact fun H locs ls hP hS hl => lv_iinc K.1 K.2.1 hd hl hi rfl hn hl' (fun ls' h' => k H locs ls' hP hS h')
theorem g_iadd (pc' : Nat) (K : Ok p s m args c cc nL own D tys A w) {x y : Int32} (hd : decode cc pc = .ok (.iadd, 1)) (hp : pc + 1 = pc') (k : G p l e R s m args below meth c kc ks Q nL D A w S pc' lv (.int (x + y) :: st)) : G p l e R s m args below meth c kc ks Q nL D A w S pc lv (.int y :: .int x :: st) := by
  subst hp
  exact fun H locs ls hP hS hl => lv_iadd K.1 K.2.1 hd (k H locs ls hP hS hl)
theorem g_isub (pc' : Nat) (K : Ok p s m args c cc nL own D tys A w) {x y : Int32} (hd : decode cc pc = .ok (.isub, 1)) (hp : pc + 1 = pc') (k : G p l e R s m args below meth c kc ks Q nL D A w S pc' lv (.int (x - y) :: st)) : G p l e R s m args below meth c kc ks Q nL D A w S pc lv (.int y :: .int x :: st) := by
  subst hp
  exact fun H locs ls hP hS hl => lv_isub K.1 K.2.1 hd (k H locs ls hP hS hl)
theorem g_imul (pc' : Nat) (K : Ok p s m args c cc nL own D tys A w) {x y : Int32} (hd : decode cc pc = .ok (.imul, 1)) (hp : pc + 1 = pc') (k : G p l e R s m args below meth c kc ks Q nL D A w S pc' lv (.int (x * y) :: st)) : G p l e R s m args below meth c kc ks Q nL D A w S pc lv (.int y :: .int x :: st) := by
  subst hp
  exact fun H locs ls hP hS hl => lv_imul K.1 K.2.1 hd (k H locs ls hP hS hl)
theorem g_iand (pc' : Nat) (K : Ok p s m args c cc nL own D tys A w) {x y : Int32} (hd : decode cc pc = .ok (.iand, 1)) (hp : pc + 1 = pc') (k : G p l e R s m args below meth c kc ks Q nL D A w S pc' lv (.int (x &&& y) :: st)) : G p l e R s m args below meth c kc ks Q nL D A w S pc lv (.int y :: .int x :: st) := by
  subst hp
  exact fun H locs ls hP hS hl => lv_iand K.1 K.2.1 hd (k H locs ls hP hS hl)
theorem g_idiv (pc' : Nat) (K : Ok p s m args c cc nL own D tys A w) {x y : Int32} (hd : decode cc pc = .ok (.idiv, 1)) (hp : pc + 1 = pc') (hne : ¬ y = 0) (k : G p l e R s m args below meth c kc ks Q nL D A w S pc' lv (.int (x / y) :: st)) : G p l e R s m args below meth c kc ks Q nL D A w S pc lv (.int y :: .int x :: st) := by
  subst hp
  exact fun H locs ls hP hS hl => lv_idiv K.1 K.2.1 hd hne (k H locs ls hP hS hl)
theorem g_ishr (pc' : Nat) (K : Ok p s m args c cc nL own D tys A w) {x y : Int32} (hd : decode cc pc = .ok (.ishr, 1)) (hp : pc + 1 = pc') (k : G p l e R s m args below meth c kc ks Q nL D A w S pc' lv (.int (x >>> (y &&& 31)) :: st)) : G p l e R s m args below meth c kc ks Q nL D A w S pc lv (.int y :: .int x :: st) := by
  subst hp
  exact fun H locs ls hP hS hl => lv_ishr K.1 K.2.1 hd (k H locs ls hP hS hl)
theorem g_ladd (pc' : Nat) (K : Ok p s m args c cc nL own D tys A w) {x y : Int64} (hd : decode cc pc = .ok (.ladd, 1)) (hp : pc + 1 = pc') (k : G p l e R s m args below meth c kc ks Q nL D A w S pc' lv (.long (x + y) :: st)) : G p l e R s m args below meth c kc ks Q nL D A w S pc lv (.long y :: .long x :: st) := by
  subst hp
  exact fun H locs ls hP hS hl => lv_ladd K.1 K.2.1 hd (k H locs ls hP hS hl)
theorem g_lsub (pc' : Nat) (K : Ok p s m args c cc nL own D tys A w) {x y : Int64} (hd : decode cc pc = .ok (.lsub, 1)) (hp : pc + 1 = pc') (k : G p l e R s m args below meth c kc ks Q nL D A w S pc' lv (.long (x - y) :: st)) : G p l e R s m args below meth c kc ks Q nL D A w S pc lv (.long y :: .long x :: st) := by
  subst hp
  exact fun H locs ls hP hS hl => lv_lsub K.1 K.2.1 hd (k H locs ls hP hS hl)
theorem g_lmul (pc' : Nat) (K : Ok p s m args c cc nL own D tys A w) {x y : Int64} (hd : decode cc pc = .ok (.lmul, 1)) (hp : pc + 1 = pc') (k : G p l e R s m args below meth c kc ks Q nL D A w S pc' lv (.long (x * y) :: st)) : G p l e R s m args below meth c kc ks Q nL D A w S pc lv (.long y :: .long x :: st) := by
  subst hp
  exact fun H locs ls hP hS hl => lv_lmul K.1 K.2.1 hd (k H locs ls hP hS hl)
theorem g_lcmp (pc' : Nat) (K : Ok p s m args c cc nL own D tys A w) {x y : Int64} (hd : decode cc pc = .ok (.lcmp, 1)) (hp : pc + 1 = pc') (k : G p l e R s m args below meth c kc ks Q nL D A w S pc' lv (.int (lg_cmp x y) :: st)) : G p l e R s m args below meth c kc ks Q nL D A w S pc lv (.long y :: .long x :: st) := by
  subst hp
  exact fun H locs ls hP hS hl => W.lcmp K.1 K.2.1 hd (k H locs ls hP hS hl)
theorem g_i2l (pc' : Nat) (K : Ok p s m args c cc nL own D tys A w) {x : Int32} (hd : decode cc pc = .ok (.i2l, 1)) (hp : pc + 1 = pc') (k : G p l e R s m args below meth c kc ks Q nL D A w S pc' lv (.long x.toInt64 :: st)) : G p l e R s m args below meth c kc ks Q nL D A w S pc lv (.int x :: st) := by
  subst hp
  exact fun H locs ls hP hS hl => lv_i2l K.1 K.2.1 hd rfl (k H locs ls hP hS hl)
theorem g_i2b (pc' : Nat) (K : Ok p s m args c cc nL own D tys A w) {x : Int32} (hd : decode cc pc = .ok (.i2b, 1)) (hp : pc + 1 = pc') (k : G p l e R s m args below meth c kc ks Q nL D A w S pc' lv (.int x.toInt8.toInt32 :: st)) : G p l e R s m args below meth c kc ks Q nL D A w S pc lv (.int x :: st) := by
  subst hp
  exact fun H locs ls hP hS hl => lv_i2b K.1 K.2.1 hd rfl (k H locs ls hP hS hl)
theorem g_i2c (pc' : Nat) (K : Ok p s m args c cc nL own D tys A w) {x : Int32} (hd : decode cc pc = .ok (.i2c, 1)) (hp : pc + 1 = pc') (k : G p l e R s m args below meth c kc ks Q nL D A w S pc' lv (.int (x.toUInt32 % 65536).toInt32 :: st)) : G p l e R s m args below meth c kc ks Q nL D A w S pc lv (.int x :: st) := by
  subst hp
  exact fun H locs ls hP hS hl => lv_i2c K.1 K.2.1 hd rfl (k H locs ls hP hS hl)
theorem g_dup (pc' : Nat) (K : Ok p s m args c cc nL own D tys A w) {v : Value} (hd : decode cc pc = .ok (.dup, 1)) (hp : pc + 1 = pc') (hc : v.category = 1) (k : G p l e R s m args below meth c kc ks Q nL D A w S pc' lv (v :: v :: st)) : G p l e R s m args below meth c kc ks Q nL D A w S pc lv (v :: st) := by
  subst hp
  exact fun H locs ls hP hS hl => lv_dup K.1 K.2.1 hd hc (k H locs ls hP hS hl)
theorem g_pop (pc' : Nat) (K : Ok p s m args c cc nL own D tys A w) {v : Value} (hd : decode cc pc = .ok (.pop, 1)) (hp : pc + 1 = pc') (hc : v.category = 1) (k : G p l e R s m args below meth c kc ks Q nL D A w S pc' lv st) : G p l e R s m args below meth c kc ks Q nL D A w S pc lv (v :: st) := by
  subst hp
  exact fun H locs ls hP hS hl => lv_pop K.1 K.2.1 hd hc (k H locs ls hP hS hl)
theorem g_dup2 (pc' : Nat) (K : Ok p s m args c cc nL own D tys A w) {v u : Value} (hd : decode cc pc = .ok (.dup2, 1)) (hp : pc + 1 = pc') (hc : v.category = 1) (hc2 : u.category = 1) (k : G p l e R s m args below meth c kc ks Q nL D A w S pc' lv (v :: u :: v :: u :: st)) : G p l e R s m args below meth c kc ks Q nL D A w S pc lv (v :: u :: st) := by
  subst hp
  exact fun H locs ls hP hS hl => lv_dup2_11 K.1 K.2.1 hd hc hc2 (k H locs ls hP hS hl)
theorem g_goto (t : Nat) (K : Ok p s m args c cc nL own D tys A w) {off : Int} (hd : decode cc pc = .ok (.goto off, 3)) (ht : (pc : Int) + off = (t : Int)) (k : G p l e R s m args below meth c kc ks Q nL D A w S t lv st) : G p l e R s m args below meth c kc ks Q nL D A w S pc lv st :=
  fun H locs ls hP hS hl => lv_goto K.1 K.2.1 hd ht (k H locs ls hP hS hl)
theorem g_if_eq (t pc' : Nat) (K : Ok p s m args c cc nL own D tys A w) {x : Int32} {off : Int} {dc : Decidable (x = 0)} {a b : Option α} (hf : @ite _ (x = 0) dc a b = some res) (hd : decode cc pc = .ok (.ifCond .eq off, 3)) (ht : (pc : Int) + off = (t : Int)) (hp : pc + 3 = pc') (ka : a = some res → G p l e R s m args below meth c kc ks Q nL D A w S t lv st) (kb : b = some res → G p l e R s m args below meth c kc ks Q nL D A w S pc' lv st) : G p l e R s m args below meth c kc ks Q nL D A w S pc lv (.int x :: st) := by
  subst hp
  exact fun H locs ls hP hS hl => lv_if_eq K.1 K.2.1 hd ht (fun h => ka (by rw [if_pos h] at hf; exact hf) H locs ls hP hS hl) (fun h => kb (by rw [if_neg h] at hf; exact hf) H locs ls hP hS hl)
theorem g_icmp_eq (t pc' : Nat) (K : Ok p s m args c cc nL own D tys A w) {x y : Int32} {off : Int} {dc : Decidable (x = y)} {a b : Option α} (hf : @ite _ (x = y) dc a b = some res) (hd : decode cc pc = .ok (.if_icmp .eq off, 3)) (ht : (pc : Int) + off = (t : Int)) (hp : pc + 3 = pc') (ka : a = some res → G p l e R s m args below meth c kc ks Q nL D A w S t lv st) (kb : b = some res → G p l e R s m args below meth c kc ks Q nL D A w S pc' lv st) : G p l e R s m args below meth c kc ks Q nL D A w S pc lv (.int y :: .int x :: st) := by
  subst hp
  exact fun H locs ls hP hS hl => lv_icmp_eq K.1 K.2.1 hd ht (fun h => ka (by rw [if_pos h] at hf; exact hf) H locs ls hP hS hl) (fun h => kb (by rw [if_neg h] at hf; exact hf) H locs ls hP hS hl)
theorem g_if_ne (t pc' : Nat) (K : Ok p s m args c cc nL own D tys A w) {x : Int32} {off : Int} {dc : Decidable (x = 0)} {a b : Option α} (hf : @ite _ (x = 0) dc a b = some res) (hd : decode cc pc = .ok (.ifCond .ne off, 3)) (ht : (pc : Int) + off = (t : Int)) (hp : pc + 3 = pc') (ka : a = some res → G p l e R s m args below meth c kc ks Q nL D A w S pc' lv st) (kb : b = some res → G p l e R s m args below meth c kc ks Q nL D A w S t lv st) : G p l e R s m args below meth c kc ks Q nL D A w S pc lv (.int x :: st) := by
  subst hp
  exact fun H locs ls hP hS hl => lv_if_ne K.1 K.2.1 hd ht (fun h => kb (by rw [if_neg h] at hf; exact hf) H locs ls hP hS hl) (fun h => ka (by rw [if_pos h] at hf; exact hf) H locs ls hP hS hl)
theorem g_icmp_ne (t pc' : Nat) (K : Ok p s m args c cc nL own D tys A w) {x y : Int32} {off : Int} {dc : Decidable (x = y)} {a b : Option α} (hf : @ite _ (x = y) dc a b = some res) (hd : decode cc pc = .ok (.if_icmp .ne off, 3)) (ht : (pc : Int) + off = (t : Int)) (hp : pc + 3 = pc') (ka : a = some res → G p l e R s m args below meth c kc ks Q nL D A w S pc' lv st) (kb : b = some res → G p l e R s m args below meth c kc ks Q nL D A w S t lv st) : G p l e R s m args below meth c kc ks Q nL D A w S pc lv (.int y :: .int x :: st) := by
  subst hp
  exact fun H locs ls hP hS hl => lv_icmp_ne K.1 K.2.1 hd ht (fun h => kb (by rw [if_neg h] at hf; exact hf) H locs ls hP hS hl) (fun h => ka (by rw [if_pos h] at hf; exact hf) H locs ls hP hS hl)
theorem g_if_lt (t pc' : Nat) (K : Ok p s m args c cc nL own D tys A w) {x : Int32} {off : Int} {dc : Decidable (x < 0)} {a b : Option α} (hf : @ite _ (x < 0) dc a b = some res) (hd : decode cc pc = .ok (.ifCond .lt off, 3)) (ht : (pc : Int) + off = (t : Int)) (hp : pc + 3 = pc') (ka : a = some res → G p l e R s m args below meth c kc ks Q nL D A w S t lv st) (kb : b = some res → G p l e R s m args below meth c kc ks Q nL D A w S pc' lv st) : G p l e R s m args below meth c kc ks Q nL D A w S pc lv (.int x :: st) := by
  subst hp
  exact fun H locs ls hP hS hl => lv_if_lt K.1 K.2.1 hd ht (fun h => ka (by rw [if_pos h] at hf; exact hf) H locs ls hP hS hl) (fun h => kb (by rw [if_neg h] at hf; exact hf) H locs ls hP hS hl)
theorem g_icmp_lt (t pc' : Nat) (K : Ok p s m args c cc nL own D tys A w) {x y : Int32} {off : Int} {dc : Decidable (x < y)} {a b : Option α} (hf : @ite _ (x < y) dc a b = some res) (hd : decode cc pc = .ok (.if_icmp .lt off, 3)) (ht : (pc : Int) + off = (t : Int)) (hp : pc + 3 = pc') (ka : a = some res → G p l e R s m args below meth c kc ks Q nL D A w S t lv st) (kb : b = some res → G p l e R s m args below meth c kc ks Q nL D A w S pc' lv st) : G p l e R s m args below meth c kc ks Q nL D A w S pc lv (.int y :: .int x :: st) := by
  subst hp
  exact fun H locs ls hP hS hl => lv_icmp_lt K.1 K.2.1 hd ht (fun h => ka (by rw [if_pos h] at hf; exact hf) H locs ls hP hS hl) (fun h => kb (by rw [if_neg h] at hf; exact hf) H locs ls hP hS hl)
theorem g_if_ge (t pc' : Nat) (K : Ok p s m args c cc nL own D tys A w) {x : Int32} {off : Int} {dc : Decidable (0 ≤ x)} {a b : Option α} (hf : @ite _ (0 ≤ x) dc a b = some res) (hd : decode cc pc = .ok (.ifCond .ge off, 3)) (ht : (pc : Int) + off = (t : Int)) (hp : pc + 3 = pc') (ka : a = some res → G p l e R s m args below meth c kc ks Q nL D A w S t lv st) (kb : b = some res → G p l e R s m args below meth c kc ks Q nL D A w S pc' lv st) : G p l e R s m args below meth c kc ks Q nL D A w S pc lv (.int x :: st) := by
  subst hp
  exact fun H locs ls hP hS hl => lv_if_ge K.1 K.2.1 hd ht (fun h => ka (by rw [if_pos h] at hf; exact hf) H locs ls hP hS hl) (fun h => kb (by rw [if_neg h] at hf; exact hf) H locs ls hP hS hl)
theorem g_icmp_ge (t pc' : Nat) (K : Ok p s m args c cc nL own D tys A w) {x y : Int32} {off : Int} {dc : Decidable (y ≤ x)} {a b : Option α} (hf : @ite _ (y ≤ x) dc a b = some res) (hd : decode cc pc = .ok (.if_icmp .ge off, 3)) (ht : (pc : Int) + off = (t : Int)) (hp : pc + 3 = pc') (ka : a = some res → G p l e R s m args below meth c kc ks Q nL D A w S t lv st) (kb : b = some res → G p l e R s m args below meth c kc ks Q nL D A w S pc' lv st) : G p l e R s m args below meth c kc ks Q nL D A w S pc lv (.int y :: .int x :: st) := by
  subst hp
  exact fun H locs ls hP hS hl => lv_icmp_ge K.1 K.2.1 hd ht (fun h => ka (by rw [if_pos h] at hf; exact hf) H locs ls hP hS hl) (fun h => kb (by rw [if_neg h] at hf; exact hf) H locs ls hP hS hl)
theorem g_if_gt (t pc' : Nat) (K : Ok p s m args c cc nL own D tys A w) {x : Int32} {off : Int} {dc : Decidable (0 < x)} {a b : Option α} (hf : @ite _ (0 < x) dc a b = some res) (hd : decode cc pc = .ok (.ifCond .gt off, 3)) (ht : (pc : Int) + off = (t : Int)) (hp : pc + 3 = pc') (ka : a = some res → G p l e R s m args below meth c kc ks Q nL D A w S t lv st) (kb : b = some res → G p l e R s m args below meth c kc ks Q nL D A w S pc' lv st) : G p l e R s m args below meth c kc ks Q nL D A w S pc lv (.int x :: st) := by
  subst hp
  exact fun H locs ls hP hS hl => lv_if_gt K.1 K.2.1 hd ht (fun h => ka (by rw [if_pos h] at hf; exact hf) H locs ls hP hS hl) (fun h => kb (by rw [if_neg h] at hf; exact hf) H locs ls hP hS hl)
theorem g_icmp_gt (t pc' : Nat) (K : Ok p s m args c cc nL own D tys A w) {x y : Int32} {off : Int} {dc : Decidable (y < x)} {a b : Option α} (hf : @ite _ (y < x) dc a b = some res) (hd : decode cc pc = .ok (.if_icmp .gt off, 3)) (ht : (pc : Int) + off = (t : Int)) (hp : pc + 3 = pc') (ka : a = some res → G p l e R s m args below meth c kc ks Q nL D A w S t lv st) (kb : b = some res → G p l e R s m args below meth c kc ks Q nL D A w S pc' lv st) : G p l e R s m args below meth c kc ks Q nL D A w S pc lv (.int y :: .int x :: st) := by
  subst hp
  exact fun H locs ls hP hS hl => lv_icmp_gt K.1 K.2.1 hd ht (fun h => ka (by rw [if_pos h] at hf; exact hf) H locs ls hP hS hl) (fun h => kb (by rw [if_neg h] at hf; exact hf) H locs ls hP hS hl)
theorem g_if_le (t pc' : Nat) (K : Ok p s m args c cc nL own D tys A w) {x : Int32} {off : Int} {dc : Decidable (x ≤ 0)} {a b : Option α} (hf : @ite _ (x ≤ 0) dc a b = some res) (hd : decode cc pc = .ok (.ifCond .le off, 3)) (ht : (pc : Int) + off = (t : Int)) (hp : pc + 3 = pc') (ka : a = some res → G p l e R s m args below meth c kc ks Q nL D A w S t lv st) (kb : b = some res → G p l e R s m args below meth c kc ks Q nL D A w S pc' lv st) : G p l e R s m args below meth c kc ks Q nL D A w S pc lv (.int x :: st) := by
  subst hp
  exact fun H locs ls hP hS hl => lv_if_le K.1 K.2.1 hd ht (fun h => ka (by rw [if_pos h] at hf; exact hf) H locs ls hP hS hl) (fun h => kb (by rw [if_neg h] at hf; exact hf) H locs ls hP hS hl)
theorem g_icmp_le (t pc' : Nat) (K : Ok p s m args c cc nL own D tys A w) {x y : Int32} {off : Int} {dc : Decidable (x ≤ y)} {a b : Option α} (hf : @ite _ (x ≤ y) dc a b = some res) (hd : decode cc pc = .ok (.if_icmp .le off, 3)) (ht : (pc : Int) + off = (t : Int)) (hp : pc + 3 = pc') (ka : a = some res → G p l e R s m args below meth c kc ks Q nL D A w S t lv st) (kb : b = some res → G p l e R s m args below meth c kc ks Q nL D A w S pc' lv st) : G p l e R s m args below meth c kc ks Q nL D A w S pc lv (.int y :: .int x :: st) := by
  subst hp
  exact fun H locs ls hP hS hl => lv_icmp_le K.1 K.2.1 hd ht (fun h => ka (by rw [if_pos h] at hf; exact hf) H locs ls hP hS hl) (fun h => kb (by rw [if_neg h] at hf; exact hf) H locs ls hP hS hl)
theorem g_loop0 {b : (St → Option α) → St → Option α} (lvf : List (Nat × Value)) {N : Nat} (hf : loop0 b N S = some res) (h : ∀ (k : St → Option α) (S : St), (∀ (S : St), k S = some res → G p l e R s m args below meth c kc ks Q nL D A w S pc lvf st) → b k S = some res → G p l e R s m args below meth c kc ks Q nL D A w S pc lvf st) : G p l e R s m args below meth c kc ks Q nL D A w S pc lvf st := by
  induction N generalizing S with
  | zero => cases hf
  | succ n ih => exact h (loop0 b n) S (fun S hk => ih hk) hf
theorem g_join0 {B : (St → Option α) → Option α} {T : St → Option α} (pm : Nat) (lvf : List (Nat × Value)) (stf : List Value) (hf : lett T B = some res) (ht : ∀ (S : St), T S = some res → G p l e R s m args below meth c kc ks Q nL D A w S pm lvf stf) (hb : ∀ k : St → Option α, (∀ (S : St), k S = some res → G p l e R s m args below meth c kc ks Q nL D A w S pm lvf stf) → B k = some res → G p l e R s m args below meth c kc ks Q nL D A w S pc lv st) : G p l e R s m args below meth c kc ks Q nL D A w S pc lv st := hb T ht hf
theorem g_loop1 {T1 : Type} {b : (St → T1 → Option α) → St → T1 → Option α} (lvf : T1 → List (Nat × Value)) {N : Nat} {x1 : T1} (hf : loop1 b N S x1 = some res) (h : ∀ (k : St → T1 → Option α) (S : St) (x1 : T1), (∀ (S : St) (x1 : T1), k S x1 = some res → G p l e R s m args below meth c kc ks Q nL D A w S pc (lvf x1) st) → b k S x1 = some res → G p l e R s m args below meth c kc ks Q nL D A w S pc (lvf x1) st) : G p l e R s m args below meth c kc ks Q nL D A w S pc (lvf x1) st := by
  induction N generalizing S x1 with
  | zero => cases hf
  | succ n ih => exact h (loop1 b n) S x1 (fun S x1 hk => ih hk) hf
theorem g_join1 {T1 : Type} {B : (St → T1 → Option α) → Option α} {T : St → T1 → Option α} (pm : Nat) (lvf : T1 → List (Nat × Value)) (stf : T1 → List Value) (hf : lett T B = some res) (ht : ∀ (S : St) (x1 : T1), T S x1 = some res → G p l e R s m args below meth c kc ks Q nL D A w S pm (lvf x1) (stf x1)) (hb : ∀ k : St → T1 → Option α, (∀ (S : St) (x1 : T1), k S x1 = some res → G p l e R s m args below meth c kc ks Q nL D A w S pm (lvf x1) (stf x1)) → B k = some res → G p l e R s m args below meth c kc ks Q nL D A w S pc lv st) : G p l e R s m args below meth c kc ks Q nL D A w S pc lv st := hb T ht hf
theorem g_loop2 {T1 T2 : Type} {b : (St → T1 → T2 → Option α) → St → T1 → T2 → Option α} (lvf : T1 → T2 → List (Nat × Value)) {N : Nat} {x1 : T1} {x2 : T2} (hf : loop2 b N S x1 x2 = some res) (h : ∀ (k : St → T1 → T2 → Option α) (S : St) (x1 : T1) (x2 : T2), (∀ (S : St) (x1 : T1) (x2 : T2), k S x1 x2 = some res → G p l e R s m args below meth c kc ks Q nL D A w S pc (lvf x1 x2) st) → b k S x1 x2 = some res → G p l e R s m args below meth c kc ks Q nL D A w S pc (lvf x1 x2) st) : G p l e R s m args below meth c kc ks Q nL D A w S pc (lvf x1 x2) st := by
  induction N generalizing S x1 x2 with
  | zero => cases hf
  | succ n ih => exact h (loop2 b n) S x1 x2 (fun S x1 x2 hk => ih hk) hf
theorem g_join2 {T1 T2 : Type} {B : (St → T1 → T2 → Option α) → Option α} {T : St → T1 → T2 → Option α} (pm : Nat) (lvf : T1 → T2 → List (Nat × Value)) (stf : T1 → T2 → List Value) (hf : lett T B = some res) (ht : ∀ (S : St) (x1 : T1) (x2 : T2), T S x1 x2 = some res → G p l e R s m args below meth c kc ks Q nL D A w S pm (lvf x1 x2) (stf x1 x2)) (hb : ∀ k : St → T1 → T2 → Option α, (∀ (S : St) (x1 : T1) (x2 : T2), k S x1 x2 = some res → G p l e R s m args below meth c kc ks Q nL D A w S pm (lvf x1 x2) (stf x1 x2)) → B k = some res → G p l e R s m args below meth c kc ks Q nL D A w S pc lv st) : G p l e R s m args below meth c kc ks Q nL D A w S pc lv st := hb T ht hf
theorem g_loop3 {T1 T2 T3 : Type} {b : (St → T1 → T2 → T3 → Option α) → St → T1 → T2 → T3 → Option α} (lvf : T1 → T2 → T3 → List (Nat × Value)) {N : Nat} {x1 : T1} {x2 : T2} {x3 : T3} (hf : loop3 b N S x1 x2 x3 = some res) (h : ∀ (k : St → T1 → T2 → T3 → Option α) (S : St) (x1 : T1) (x2 : T2) (x3 : T3), (∀ (S : St) (x1 : T1) (x2 : T2) (x3 : T3), k S x1 x2 x3 = some res → G p l e R s m args below meth c kc ks Q nL D A w S pc (lvf x1 x2 x3) st) → b k S x1 x2 x3 = some res → G p l e R s m args below meth c kc ks Q nL D A w S pc (lvf x1 x2 x3) st) : G p l e R s m args below meth c kc ks Q nL D A w S pc (lvf x1 x2 x3) st := by
  induction N generalizing S x1 x2 x3 with
  | zero => cases hf
  | succ n ih => exact h (loop3 b n) S x1 x2 x3 (fun S x1 x2 x3 hk => ih hk) hf
theorem g_join3 {T1 T2 T3 : Type} {B : (St → T1 → T2 → T3 → Option α) → Option α} {T : St → T1 → T2 → T3 → Option α} (pm : Nat) (lvf : T1 → T2 → T3 → List (Nat × Value)) (stf : T1 → T2 → T3 → List Value) (hf : lett T B = some res) (ht : ∀ (S : St) (x1 : T1) (x2 : T2) (x3 : T3), T S x1 x2 x3 = some res → G p l e R s m args below meth c kc ks Q nL D A w S pm (lvf x1 x2 x3) (stf x1 x2 x3)) (hb : ∀ k : St → T1 → T2 → T3 → Option α, (∀ (S : St) (x1 : T1) (x2 : T2) (x3 : T3), k S x1 x2 x3 = some res → G p l e R s m args below meth c kc ks Q nL D A w S pm (lvf x1 x2 x3) (stf x1 x2 x3)) → B k = some res → G p l e R s m args below meth c kc ks Q nL D A w S pc lv st) : G p l e R s m args below meth c kc ks Q nL D A w S pc lv st := hb T ht hf
theorem g_loop4 {T1 T2 T3 T4 : Type} {b : (St → T1 → T2 → T3 → T4 → Option α) → St → T1 → T2 → T3 → T4 → Option α} (lvf : T1 → T2 → T3 → T4 → List (Nat × Value)) {N : Nat} {x1 : T1} {x2 : T2} {x3 : T3} {x4 : T4} (hf : loop4 b N S x1 x2 x3 x4 = some res) (h : ∀ (k : St → T1 → T2 → T3 → T4 → Option α) (S : St) (x1 : T1) (x2 : T2) (x3 : T3) (x4 : T4), (∀ (S : St) (x1 : T1) (x2 : T2) (x3 : T3) (x4 : T4), k S x1 x2 x3 x4 = some res → G p l e R s m args below meth c kc ks Q nL D A w S pc (lvf x1 x2 x3 x4) st) → b k S x1 x2 x3 x4 = some res → G p l e R s m args below meth c kc ks Q nL D A w S pc (lvf x1 x2 x3 x4) st) : G p l e R s m args below meth c kc ks Q nL D A w S pc (lvf x1 x2 x3 x4) st := by
  induction N generalizing S x1 x2 x3 x4 with
  | zero => cases hf
  | succ n ih => exact h (loop4 b n) S x1 x2 x3 x4 (fun S x1 x2 x3 x4 hk => ih hk) hf
theorem g_join4 {T1 T2 T3 T4 : Type} {B : (St → T1 → T2 → T3 → T4 → Option α) → Option α} {T : St → T1 → T2 → T3 → T4 → Option α} (pm : Nat) (lvf : T1 → T2 → T3 → T4 → List (Nat × Value)) (stf : T1 → T2 → T3 → T4 → List Value) (hf : lett T B = some res) (ht : ∀ (S : St) (x1 : T1) (x2 : T2) (x3 : T3) (x4 : T4), T S x1 x2 x3 x4 = some res → G p l e R s m args below meth c kc ks Q nL D A w S pm (lvf x1 x2 x3 x4) (stf x1 x2 x3 x4)) (hb : ∀ k : St → T1 → T2 → T3 → T4 → Option α, (∀ (S : St) (x1 : T1) (x2 : T2) (x3 : T3) (x4 : T4), k S x1 x2 x3 x4 = some res → G p l e R s m args below meth c kc ks Q nL D A w S pm (lvf x1 x2 x3 x4) (stf x1 x2 x3 x4)) → B k = some res → G p l e R s m args below meth c kc ks Q nL D A w S pc lv st) : G p l e R s m args below meth c kc ks Q nL D A w S pc lv st := hb T ht hf
theorem g_join5 {T1 T2 T3 T4 T5 : Type} {B : (St → T1 → T2 → T3 → T4 → T5 → Option α) → Option α} {T : St → T1 → T2 → T3 → T4 → T5 → Option α} (pm : Nat) (lvf : T1 → T2 → T3 → T4 → T5 → List (Nat × Value)) (stf : T1 → T2 → T3 → T4 → T5 → List Value) (hf : lett T B = some res) (ht : ∀ (S : St) (x1 : T1) (x2 : T2) (x3 : T3) (x4 : T4) (x5 : T5), T S x1 x2 x3 x4 x5 = some res → G p l e R s m args below meth c kc ks Q nL D A w S pm (lvf x1 x2 x3 x4 x5) (stf x1 x2 x3 x4 x5)) (hb : ∀ k : St → T1 → T2 → T3 → T4 → T5 → Option α, (∀ (S : St) (x1 : T1) (x2 : T2) (x3 : T3) (x4 : T4) (x5 : T5), k S x1 x2 x3 x4 x5 = some res → G p l e R s m args below meth c kc ks Q nL D A w S pm (lvf x1 x2 x3 x4 x5) (stf x1 x2 x3 x4 x5)) → B k = some res → G p l e R s m args below meth c kc ks Q nL D A w S pc lv st) : G p l e R s m args below meth c kc ks Q nL D A w S pc lv st := hb T ht hf
theorem g_join6 {T1 T2 T3 T4 T5 T6 : Type} {B : (St → T1 → T2 → T3 → T4 → T5 → T6 → Option α) → Option α} {T : St → T1 → T2 → T3 → T4 → T5 → T6 → Option α} (pm : Nat) (lvf : T1 → T2 → T3 → T4 → T5 → T6 → List (Nat × Value)) (stf : T1 → T2 → T3 → T4 → T5 → T6 → List Value) (hf : lett T B = some res) (ht : ∀ (S : St) (x1 : T1) (x2 : T2) (x3 : T3) (x4 : T4) (x5 : T5) (x6 : T6), T S x1 x2 x3 x4 x5 x6 = some res → G p l e R s m args below meth c kc ks Q nL D A w S pm (lvf x1 x2 x3 x4 x5 x6) (stf x1 x2 x3 x4 x5 x6)) (hb : ∀ k : St → T1 → T2 → T3 → T4 → T5 → T6 → Option α, (∀ (S : St) (x1 : T1) (x2 : T2) (x3 : T3) (x4 : T4) (x5 : T5) (x6 : T6), k S x1 x2 x3 x4 x5 x6 = some res → G p l e R s m args below meth c kc ks Q nL D A w S pm (lvf x1 x2 x3 x4 x5 x6) (stf x1 x2 x3 x4 x5 x6)) → B k = some res → G p l e R s m args below meth c kc ks Q nL D A w S pc lv st) : G p l e R s m args below meth c kc ks Q nL D A w S pc lv st := hb T ht hf
end GR
