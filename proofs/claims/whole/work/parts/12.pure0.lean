-- PURE TOOLS
theorem loop0_go {α : Type} {b : (St → Option α) → St → Option α} {res : Option α} (I : Nat → St → Prop) (k : Nat) (hs : ∀ (i : Nat) (S : St), i < k → I i S → (∃ (S2 : St), I (i + 1) S2 ∧ ∀ rc, b rc S = rc S2) ∨ (∀ rc, b rc S = res)) (hx : ∀ (S : St), I k S → ∀ rc, b rc S = res) : ∀ (d i n : Nat) (S : St), i + d = k → I i S → d < n → loop0 b n S = res := by
  intro d
  induction d with
  | zero =>
    intro i n S hi hI hn
    obtain ⟨n, rfl⟩ := Nat.exists_eq_succ_of_ne_zero (Nat.ne_of_gt hn)
    have hi : i = k := by omega
    subst hi
    exact hx S hI _
  | succ d ih =>
    intro i n S hi hI hn
    obtain ⟨n, rfl⟩ := Nat.exists_eq_succ_of_ne_zero (Nat.ne_of_gt (Nat.lt_of_le_of_lt (Nat.zero_le _) hn))
    rcases hs i S (by omega) hI with ⟨S2, h1, h2⟩ | h2
    · show b (loop0 b n) S = res
      rw [h2]
      exact ih (i + 1) n S2 (by omega) h1 (by omega)
    · exact h2 _
theorem loop0_run {α : Type} {b : (St → Option α) → St → Option α} {res : Option α} (I : Nat → St → Prop) (k : Nat) {n : Nat} {S : St} (h0 : I 0 S) (hn : k < n) (hs : ∀ (i : Nat) (S : St), i < k → I i S → (∃ (S2 : St), I (i + 1) S2 ∧ ∀ rc, b rc S = rc S2) ∨ (∀ rc, b rc S = res)) (hx : ∀ (S : St), I k S → ∀ rc, b rc S = res) : loop0 b n S = res := loop0_go I k hs hx k 0 n S (Nat.zero_add k) h0 hn
theorem loop1_go {α T1 : Type} {b : (St → T1 → Option α) → St → T1 → Option α} {res : Option α} (I : Nat → St → T1 → Prop) (k : Nat) (hs : ∀ (i : Nat) (S : St) (x1 : T1), i < k → I i S x1 → (∃ (S2 : St) (y1 : T1), I (i + 1) S2 y1 ∧ ∀ rc, b rc S x1 = rc S2 y1) ∨ (∀ rc, b rc S x1 = res)) (hx : ∀ (S : St) (x1 : T1), I k S x1 → ∀ rc, b rc S x1 = res) : ∀ (d i n : Nat) (S : St) (x1 : T1), i + d = k → I i S x1 → d < n → loop1 b n S x1 = res := by
  intro d
  induction d with
  | zero =>
    intro i n S x1 hi hI hn
    obtain ⟨n, rfl⟩ := Nat.exists_eq_succ_of_ne_zero (Nat.ne_of_gt hn)
    have hi : i = k := by omega
    subst hi
    exact hx S x1 hI _
  | succ d ih =>
    intro i n S x1 hi hI hn
    obtain ⟨n, rfl⟩ := Nat.exists_eq_succ_of_ne_zero (Nat.ne_of_gt (Nat.lt_of_le_of_lt (Nat.zero_le _) hn))
    rcases hs i S x1 (by omega) hI with ⟨S2, y1, h1, h2⟩ | h2
    · show b (loop1 b n) S x1 = res
      rw [h2]
      exact ih (i + 1) n S2 y1 (by omega) h1 (by omega)
    · exact h2 _
theorem loop1_run {α T1 : Type} {b : (St → T1 → Option α) → St → T1 → Option α} {res : Option α} (I : Nat → St → T1 → Prop) (k : Nat) {n : Nat} {S : St} {x1 : T1} (h0 : I 0 S x1) (hn : k < n) (hs : ∀ (i : Nat) (S : St) (x1 : T1), i < k → I i S x1 → (∃ (S2 : St) (y1 : T1), I (i + 1) S2 y1 ∧ ∀ rc, b rc S x1 = rc S2 y1) ∨ (∀ rc, b rc S x1 = res)) (hx : ∀ (S : St) (x1 : T1), I k S x1 → ∀ rc, b rc S x1 = res) : loop1 b n S x1 = res := loop1_go I k hs hx k 0 n S x1 (Nat.zero_add k) h0 hn
theorem loop2_go {α T1 T2 : Type} {b : (St → T1 → T2 → Option α) → St → T1 → T2 → Option α} {res : Option α} (I : Nat → St → T1 → T2 → Prop) (k : Nat) (hs : ∀ (i : Nat) (S : St) (x1 : T1) (x2 : T2), i < k → I i S x1 x2 → (∃ (S2 : St) (y1 : T1) (y2 : T2), I (i + 1) S2 y1 y2 ∧ ∀ rc, b rc S x1 x2 = rc S2 y1 y2) ∨ (∀ rc, b rc S x1 x2 = res)) (hx : ∀ (S : St) (x1 : T1) (x2 : T2), I k S x1 x2 → ∀ rc, b rc S x1 x2 = res) : ∀ (d i n : Nat) (S : St) (x1 : T1) (x2 : T2), i + d = k → I i S x1 x2 → d < n → loop2 b n S x1 x2 = res := by
  intro d
  induction d with
  | zero =>
    intro i n S x1 x2 hi hI hn
    obtain ⟨n, rfl⟩ := Nat.exists_eq_succ_of_ne_zero (Nat.ne_of_gt hn)
    have hi : i = k := by omega
    subst hi
    exact hx S x1 x2 hI _
  | succ d ih =>
    intro i n S x1 x2 hi hI hn
    obtain ⟨n, rfl⟩ := Nat.exists_eq_succ_of_ne_zero (Nat.ne_of_gt (Nat.lt_of_le_of_lt (Nat.zero_le _) hn))
    rcases hs i S x1 x2 (by omega) hI with ⟨S2, y1, y2, h1, h2⟩ | h2
    · show b (loop2 b n) S x1 x2 = res
      rw [h2]
      exact ih (i + 1) n S2 y1 y2 (by omega) h1 (by omega)
    · exact h2 _
theorem loop2_run {α T1 T2 : Type} {b : (St → T1 → T2 → Option α) → St → T1 → T2 → Option α} {res : Option α} (I : Nat → St → T1 → T2 → Prop) (k : Nat) {n : Nat} {S : St} {x1 : T1} {x2 : T2} (h0 : I 0 S x1 x2) (hn : k < n) (hs : ∀ (i : Nat) (S : St) (x1 : T1) (x2 : T2), i < k → I i S x1 x2 → (∃ (S2 : St) (y1 : T1) (y2 : T2), I (i + 1) S2 y1 y2 ∧ ∀ rc, b rc S x1 x2 = rc S2 y1 y2) ∨ (∀ rc, b rc S x1 x2 = res)) (hx : ∀ (S : St) (x1 : T1) (x2 : T2), I k S x1 x2 → ∀ rc, b rc S x1 x2 = res) : loop2 b n S x1 x2 = res := loop2_go I k hs hx k 0 n S x1 x2 (Nat.zero_add k) h0 hn
theorem loop3_go {α T1 T2 T3 : Type} {b : (St → T1 → T2 → T3 → Option α) → St → T1 → T2 → T3 → Option α} {res : Option α} (I : Nat → St → T1 → T2 → T3 → Prop) (k : Nat) (hs : ∀ (i : Nat) (S : St) (x1 : T1) (x2 : T2) (x3 : T3), i < k → I i S x1 x2 x3 → (∃ (S2 : St) (y1 : T1) (y2 : T2) (y3 : T3), I (i + 1) S2 y1 y2 y3 ∧ ∀ rc, b rc S x1 x2 x3 = rc S2 y1 y2 y3) ∨ (∀ rc, b rc S x1 x2 x3 = res)) (hx : ∀ (S : St) (x1 : T1) (x2 : T2) (x3 : T3), I k S x1 x2 x3 → ∀ rc, b rc S x1 x2 x3 = res) : ∀ (d i n : Nat) (S : St) (x1 : T1) (x2 : T2) (x3 : T3), i + d = k → I i S x1 x2 x3 → d < n → loop3 b n S x1 x2 x3 = res := by
  intro d
  induction d with
  | zero =>
    intro i n S x1 x2 x3 hi hI hn
    obtain ⟨n, rfl⟩ := Nat.exists_eq_succ_of_ne_zero (Nat.ne_of_gt hn)
    have hi : i = k := by omega
    subst hi
    exact hx S x1 x2 x3 hI _
  | succ d ih =>
    intro i n S x1 x2 x3 hi hI hn
    obtain ⟨n, rfl⟩ := Nat.exists_eq_succ_of_ne_zero (Nat.ne_of_gt (Nat.lt_of_le_of_lt (Nat.zero_le _) hn))
    rcases hs i S x1 x2 x3 (by omega) hI with ⟨S2, y1, y2, y3, h1, h2⟩ | h2
    · show b (loop3 b n) S x1 x2 x3 = res
      rw [h2]
      exact ih (i + 1) n S2 y1 y2 y3 (by omega) h1 (by omega)
    · exact h2 _
theorem loop3_run {α T1 T2 T3 : Type} {b : (St → T1 → T2 → T3 → Option α) → St → T1 → T2 → T3 → Option α} {res : Option α} (I : Nat → St → T1 → T2 → T3 → Prop) (k : Nat) {n : Nat} {S : St} {x1 : T1} {x2 : T2} {x3 : T3} (h0 : I 0 S x1 x2 x3) (hn : k < n) (hs : ∀ (i : Nat) (S : St) (x1 : T1) (x2 : T2) (x3 : T3), i < k → I i S x1 x2 x3 → (∃ (S2 : St) (y1 : T1) (y2 : T2) (y3 : T3), I (i + 1) S2 y1 y2 y3 ∧ ∀ rc, b rc S x1 x2 x3 = rc S2 y1 y2 y3) ∨ (∀ rc, b rc S x1 x2 x3 = res)) (hx : ∀ (S : St) (x1 : T1) (x2 : T2) (x3 : T3), I k S x1 x2 x3 → ∀ rc, b rc S x1 x2 x3 = res) : loop3 b n S x1 x2 x3 = res := loop3_go I k hs hx k 0 n S x1 x2 x3 (Nat.zero_add k) h0 hn
theorem loop4_go {α T1 T2 T3 T4 : Type} {b : (St → T1 → T2 → T3 → T4 → Option α) → St → T1 → T2 → T3 → T4 → Option α} {res : Option α} (I : Nat → St → T1 → T2 → T3 → T4 → Prop) (k : Nat) (hs : ∀ (i : Nat) (S : St) (x1 : T1) (x2 : T2) (x3 : T3) (x4 : T4), i < k → I i S x1 x2 x3 x4 → (∃ (S2 : St) (y1 : T1) (y2 : T2) (y3 : T3) (y4 : T4), I (i + 1) S2 y1 y2 y3 y4 ∧ ∀ rc, b rc S x1 x2 x3 x4 = rc S2 y1 y2 y3 y4) ∨ (∀ rc, b rc S x1 x2 x3 x4 = res)) (hx : ∀ (S : St) (x1 : T1) (x2 : T2) (x3 : T3) (x4 : T4), I k S x1 x2 x3 x4 → ∀ rc, b rc S x1 x2 x3 x4 = res) : ∀ (d i n : Nat) (S : St) (x1 : T1) (x2 : T2) (x3 : T3) (x4 : T4), i + d = k → I i S x1 x2 x3 x4 → d < n → loop4 b n S x1 x2 x3 x4 = res := by
  intro d
  induction d with
  | zero =>
    intro i n S x1 x2 x3 x4 hi hI hn
    obtain ⟨n, rfl⟩ := Nat.exists_eq_succ_of_ne_zero (Nat.ne_of_gt hn)
    have hi : i = k := by omega
    subst hi
    exact hx S x1 x2 x3 x4 hI _
  | succ d ih =>
    intro i n S x1 x2 x3 x4 hi hI hn
    obtain ⟨n, rfl⟩ := Nat.exists_eq_succ_of_ne_zero (Nat.ne_of_gt (Nat.lt_of_le_of_lt (Nat.zero_le _) hn))
    rcases hs i S x1 x2 x3 x4 (by omega) hI with ⟨S2, y1, y2, y3, y4, h1, h2⟩ | h2
    · show b (loop4 b n) S x1 x2 x3 x4 = res
      rw [h2]
      exact ih (i + 1) n S2 y1 y2 y3 y4 (by omega) h1 (by omega)
    · exact h2 _
theorem loop4_run {α T1 T2 T3 T4 : Type} {b : (St → T1 → T2 → T3 → T4 → Option α) → St → T1 → T2 → T3 → T4 → Option α} {res : Option α} (I : Nat → St → T1 → T2 → T3 → T4 → Prop) (k : Nat) {n : Nat} {S : St} {x1 : T1} {x2 : T2} {x3 : T3} {x4 : T4} (h0 : I 0 S x1 x2 x3 x4) (hn : k < n) (hs : ∀ (i : Nat) (S : St) (x1 : T1) (x2 : T2) (x3 : T3) (x4 : T4), i < k → I i S x1 x2 x3 x4 → (∃ (S2 : St) (y1 : T1) (y2 : T2) (y3 : T3) (y4 : T4), I (i + 1) S2 y1 y2 y3 y4 ∧ ∀ rc, b rc S x1 x2 x3 x4 = rc S2 y1 y2 y3 y4) ∨ (∀ rc, b rc S x1 x2 x3 x4 = res)) (hx : ∀ (S : St) (x1 : T1) (x2 : T2) (x3 : T3) (x4 : T4), I k S x1 x2 x3 x4 → ∀ rc, b rc S x1 x2 x3 x4 = res) : loop4 b n S x1 x2 x3 x4 = res := loop4_go I k hs hx k 0 n S x1 x2 x3 x4 (Nat.zero_add k) h0 hn
theorem inB_nI {j n : Nat} (h : j < n) (hn : n < 2 ^ 31) : inB (nI j) n = true := by
  unfold inB
  rw [nI_clamp (by omega)]
  have h1 : ¬ nI j < 0 := nI_pos (by omega)
  simp [h1]
  omega
theorem rd_nI {f : Nat → Int32} {j n : Nat} (h : j < n) (hn : n < 2 ^ 31) : rd f n (nI j) = some (f j) := by
  unfold rd
  rw [if_pos (inB_nI h hn), nI_clamp (by omega)]
theorem wr_nI {S : St} {k j n : Nat} {x : Int32} (h : j < n) (hn : n < 2 ^ 31) : wr S k n (nI j) x = some (pA S k (upd (S.2 k) j x)) := by
  unfold wr
  rw [if_pos (inB_nI h hn), nI_clamp (by omega)]
theorem pA_pA (S : St) (k : Nat) (f g : Nat → Int32) : pA (pA S k f) k g = pA S k g := by
  unfold pA
  simp only [Prod.mk.injEq, true_and]
  funext j
  split <;> rfl
theorem pA_at (S : St) (k : Nat) (f : Nat → Int32) : (pA S k f).2 k = f := by simp [pA]
theorem pA_ne (S : St) {k j : Nat} (f : Nat → Int32) (h : j ≠ k) : (pA S k f).2 j = S.2 j := by simp [pA, h]
theorem pA_1 (S : St) (k : Nat) (f : Nat → Int32) : (pA S k f).1 = S.1 := rfl
theorem pF_2 (S : St) (k : Nat) (v : Int32) : (pF S k v).2 = S.2 := rfl
theorem pF_at (S : St) (k : Nat) (v : Int32) : (pF S k v).1 k = v := by simp [pF, upd]
theorem pF_ne (S : St) {k j : Nat} (v : Int32) (h : j ≠ k) : (pF S k v).1 j = S.1 j := by simp [pF, upd, h]
theorem pA_self (S : St) (k : Nat) : pA S k (S.2 k) = S := by
  unfold pA
  refine Prod.ext rfl ?_
  funext j
  show (if j = k then S.2 k else S.2 j) = S.2 j
  split
  · next h => rw [h]
  · rfl
theorem upd_lt (f : Nat → Int32) (i : Nat) (v : Int32) : upd (fun j => if j < i then v else f j) i v = fun j => if j < i + 1 then v else f j := by
  funext j
  unfold upd
  by_cases h : j = i
  · rw [if_pos h, if_pos (by omega)]
  · rw [if_neg h]
    by_cases h2 : j < i
    · show (if j < i then v else f j) = _
      rw [if_pos h2, if_pos (by omega)]
    · show (if j < i then v else f j) = _
      rw [if_neg h2, if_neg (by omega)]

theorem p_J7_fill_53178_0 {N n : Nat} {S : St} {v : Int32} (hn : n < 2 ^ 31) (hN : n < N) : f_J7_fill_53178_0 N n S v = some (pA S 0 (fun j => if j < n then v else S.2 0 j)) := by
  unfold f_J7_fill_53178_0
  refine loop1_run (I := fun i S2 x => x = nI i ∧ S2 = pA S 0 (fun j => if j < i then v else S.2 0 j)) (k := n) ?_ hN ?_ ?_
  · exact ⟨rfl, (pA_self S 0).symm.trans (congrArg (pA S 0) (by funext j; rw [if_neg (Nat.not_lt_zero j)]))⟩
  · intro i S2 x hi hI
    obtain ⟨rfl, rfl⟩ := hI
    refine Or.inl ⟨_, _, ⟨rfl, rfl⟩, fun rc => ?_⟩
    rw [if_neg (nI_ge hi hn), wr_nI hi hn]
    show rc _ _ = rc _ _
    rw [nI_1, pA_at, pA_pA, upd_lt]
  · intro S2 x hI rc
    obtain ⟨rfl, rfl⟩ := hI
    rw [if_pos (nI_le (Nat.le_refl _) hn)]
theorem p_J7_fill_53178_4 {N n : Nat} {S : St} {v : Int32} (hn : n < 2 ^ 31) (hN : n < N) : f_J7_fill_53178_4 N n S v = some (pA S 4 (fun j => if j < n then v else S.2 4 j)) := by
  unfold f_J7_fill_53178_4
  refine loop1_run (I := fun i S2 x => x = nI i ∧ S2 = pA S 4 (fun j => if j < i then v else S.2 4 j)) (k := n) ?_ hN ?_ ?_
  · exact ⟨rfl, (pA_self S 4).symm.trans (congrArg (pA S 4) (by funext j; rw [if_neg (Nat.not_lt_zero j)]))⟩
  · intro i S2 x hi hI
    obtain ⟨rfl, rfl⟩ := hI
    refine Or.inl ⟨_, _, ⟨rfl, rfl⟩, fun rc => ?_⟩
    rw [if_neg (nI_ge hi hn), wr_nI hi hn]
    show rc _ _ = rc _ _
    rw [nI_1, pA_at, pA_pA, upd_lt]
  · intro S2 x hI rc
    obtain ⟨rfl, rfl⟩ := hI
    rw [if_pos (nI_le (Nat.le_refl _) hn)]
theorem p_J7_fill_53178_27 {N n : Nat} {S : St} {v : Int32} (hn : 6 < 2 ^ 31) (hN : 6 < N) : f_J7_fill_53178_27 N n S v = some (pA S 27 (fun j => if j < 6 then v else S.2 27 j)) := by
  unfold f_J7_fill_53178_27
  refine loop1_run (I := fun i S2 x => x = nI i ∧ S2 = pA S 27 (fun j => if j < i then v else S.2 27 j)) (k := 6) ?_ hN ?_ ?_
  · exact ⟨rfl, (pA_self S 27).symm.trans (congrArg (pA S 27) (by funext j; rw [if_neg (Nat.not_lt_zero j)]))⟩
  · intro i S2 x hi hI
    obtain ⟨rfl, rfl⟩ := hI
    refine Or.inl ⟨_, _, ⟨rfl, rfl⟩, fun rc => ?_⟩
    rw [if_neg (nI_ge hi hn), wr_nI hi hn]
    show rc _ _ = rc _ _
    rw [nI_1, pA_at, pA_pA, upd_lt]
  · intro S2 x hI rc
    obtain ⟨rfl, rfl⟩ := hI
    rw [if_pos (nI_le (Nat.le_refl _) hn)]
theorem p_J7_fill_53178_28 {N n : Nat} {S : St} {v : Int32} (hn : 6 < 2 ^ 31) (hN : 6 < N) : f_J7_fill_53178_28 N n S v = some (pA S 28 (fun j => if j < 6 then v else S.2 28 j)) := by
  unfold f_J7_fill_53178_28
  refine loop1_run (I := fun i S2 x => x = nI i ∧ S2 = pA S 28 (fun j => if j < i then v else S.2 28 j)) (k := 6) ?_ hN ?_ ?_
  · exact ⟨rfl, (pA_self S 28).symm.trans (congrArg (pA S 28) (by funext j; rw [if_neg (Nat.not_lt_zero j)]))⟩
  · intro i S2 x hi hI
    obtain ⟨rfl, rfl⟩ := hI
    refine Or.inl ⟨_, _, ⟨rfl, rfl⟩, fun rc => ?_⟩
    rw [if_neg (nI_ge hi hn), wr_nI hi hn]
    show rc _ _ = rc _ _
    rw [nI_1, pA_at, pA_pA, upd_lt]
  · intro S2 x hI rc
    obtain ⟨rfl, rfl⟩ := hI
    rw [if_pos (nI_le (Nat.le_refl _) hn)]
section FC
variable {p : Program} {l : Launch} {e : Env} {R : Room} {s : State} {m : MethodId} {args : Array Value} {below : List Frame} {meth : Method} {c : Code} {kc ks : Nat} {Q : State → Prop} {nL : Nat} {D : va_G} {A : Nat → Prop} {S : St} {lv : List (Nat × Value)} {cc : ByteArray} {own : String} {pc : Nat} {ws ws' : va_W} {cI cB cZ : ClassId} {adK adV : Nat → Nat} {st : List Value}
theorem g_fillc (pc' c0 : Nat) (rest : List Value) (K : Ok p s m args c cc nL own D (tyL cI cB cZ) A (cw ws)) (hs : Fx adK adV A s) {a N idx : Nat} {f : Nat → Int32} {v : Int32} (hN : N < 2 ^ 31) (he : ws[c0]? = some (a, .inl (cI, N, .inl f))) (hw : ws.set c0 (a, .inl (cI, N, .inl (fun j => if j < N then v else f j))) = ws') (h1 : Cond.methodLink own idx yJ7_fill_53178 ∈ big) (hR : 1 ≤ R.frames ∧ 23 ≤ R.locals ∧ kc ≤ R.cells ∧ ks ≤ R.slots) (hW : (rest.map fun v => v.category).sum ≤ 8) (hd : decode cc pc = .ok (.invokestatic idx, 3)) (hp : pc + 3 = pc') (kk : va_D A ws' → G p l e R s m args below meth c kc ks Q nL D A (cw ws') S pc' lv rest) : G p l e R s m args below meth c kc ks Q nL D A (cw ws) S pc lv (.int v :: .ref a :: rest) := by
  subst hp
  subst hw
  have hM := c_J7_fill_53178_0 (l := l) (D := D) (q := fun _ => a) (n := N) (cI := cI) (cB := cB) (cZ := cZ) (adK := adK) (adV := adV) (N := N + 1) (S := ((fun _ => 0), fun _ => f)) (p_J7_fill_53178_0 (v := v) hN (Nat.lt_succ_self N))
  have hG : GoodIn big (va_wsS own idx yJ7_fill_53178 (Cond.code yJ7_fill_53178 cJ7_fill_53178 4 none :: big)) := big_sub (big_cons h1 (big_cons kt_J7_fill_53178 (big_cons ki_J7 (big_cons kC_J7_fill_53178 (fun _ h => h)))))
  have hD := K.2.2.2.2.2.2.1 S
  have hAa : A a := hD.2 c0 _ he
  intro H locs ls hP hS hl T hT X
  have hAw : ∀ q, Aw (wA (fun _ => a) N cI cB cZ) H.size q → A q := by
    intro q hq
    rcases hq with ⟨k, x, hk⟩ | hq
    · cases k with
      | zero => cases hk; exact hAa
      | succ k => simp [wA] at hk
    · exact K.2.2.2.2.2.2.2.1 q (Nat.le_trans hS.1 hq)
  have hpre : ∀ U : State, U.heap = H → s.WarmedH U.vm → va_Pc [.ref a, .int v] (PreU D (tyL cI cB cZ) (Fx adK adV) (wA (fun _ => a) N cI cB cZ) ((fun _ => 0), fun _ => f) H.size) ([.ref a, .int v] : List Value).toArray U := fun U hU hW =>
    ⟨rfl, by rw [hU], by
      rw [hU]
      intro k q hq
      cases k with
      | zero => cases hq; exact hP c0 _ he
      | succ k => simp [wA] at hq, va_K.moved hW.alike K.2.2.2.2.2.1, ⟨fun i j x y hi hj _ => by
        cases i with
        | zero =>
          cases j with
          | zero => rfl
          | succ j => simp [wA] at hj
        | succ i => simp [wA] at hi, fun _ _ _ => trivial⟩, (Fx_ok adK adV).2 A _ s U hs hW (by rw [hU]; exact hS.1) (fun q h1 h2 => by rw [hU]; exact hS.2.1 q h1 h2) hAw⟩
  obtain ⟨v', st₀, t, T', L, h0, X', hL, e1, e2, ⟨⟨hv, hp⟩, hz, hk⟩, stp⟩ := va_runS (As := [.ref a, .int v]) (rest := rest) (g := F0 m pc ls (.int v :: .ref a :: rest)) (R := R) (cells := kc) (slots := ks) (locs := locs) (H := H) (e := e) (below := below) (meth := meth) ⟨K.1, K.2.1, K.2.2.1, K.2.2.2.1, K.2.2.2.2.1⟩ (hM H.size) (va_cwS 2 K.2.2.2.2.1 hG rfl rfl rfl mw_J7_fill_53178.2 ⟨hR.1, hR.2.1⟩) ⟨c_blind (Fx_ok adK adV), hpre⟩ rfl rfl hl.1 rfl (lv_room hW) hd ⟨hR.2.2.1, hR.2.2.2⟩ T hT X
  cases hv
  rw [h0] at hz hk
  have hat := hp 0 _ rfl
  have hPn : va_P D vwCl (ws.set c0 (a, .inl (cI, N, .inl (fun j => if j < N then v else f j)))) T'.heap := by
    intro k x hx
    by_cases hkc : k = c0
    · subst hkc
      have hlt := (List.getElem?_eq_some_iff.mp he).1
      rw [List.getElem?_set_self hlt] at hx
      cases hx
      rw [e1]
      exact hat
    · rw [List.getElem?_set_ne (Ne.symm hkc)] at hx
      refine (hP k x hx).kept ?_
      rw [e1]
      refine hk x.1 (hP k x hx).lt ?_
      intro hc
      rcases hc with ⟨k2, y, hk2⟩ | hc
      · cases k2 with
        | zero => cases hk2; exact hkc (hD.1 k c0 _ _ hx he rfl)
        | succ k => simp [wA] at hk2
      · exact Nat.lt_irrefl _ (Nat.lt_of_lt_of_le (hP k x hx).lt hc)
  obtain ⟨t2, a1, b1⟩ := kk (hD.set he) T'.heap (locs ++ L) ls hPn
    ⟨Nat.le_trans hS.1 (by rw [e1]; exact hz), fun q h1 h2 => by rw [e1, hk q (Nat.lt_of_lt_of_le h1 hS.1) (fun z => h2 (hAw q z))]; exact hS.2.1 q h1 h2, fun q hq => by
      rcases List.mem_append.mp hq with h | h
      · exact hS.2.2 q h
      · exact hAw _ (hL q h)⟩ hl T' rfl X'
  exact ⟨t2, stp t2 a1, b1⟩
theorem g_newan (ws2 : Nat → va_W) (pc' N kc' ks' t0 : Nat) {tys : TY} (K : Ok p s m args c cc nL own D tys A (cw ws)) {atype : ArrayType} {ty : FieldType} {cA : ClassId} {n : Int32} (ht : tys[t0]? = some (cA, ty)) (hty : newarray.typeOf atype = ty) (hra : ∀ c, va_RA s c ty → s.vm.findClass ("[" ++ ty.toString) = some c) (hdv : defaultValue ty = .int 0) (ha : Cond.arrayClass ty ∈ big) (hn : ¬ n < 0) (hN : n.toNatClampNeg = N) (hbytes : N * componentBytes ty ≤ 536870912) (hc : kc + 1 ≤ kc' ∧ ks + N ≤ ks' ∧ kc' ≤ R.cells ∧ ks' ≤ R.slots) (hd : decode cc pc = .ok (.newarray atype, 2)) (hp : pc + 2 = pc') (hw : ∀ a : Nat, ws ++ [(a, .inl (cA, N, .inl (fun _ => 0)))] = ws2 a) (kk : ∀ a : Nat, va_D A (ws2 a) → G p l e R s m args below meth c kc' ks' Q nL D A (cw (ws2 a)) S pc' lv (.ref a :: st)) : G p l e R s m args below meth c kc ks Q nL D A (cw ws) S pc lv (.int n :: st) :=
  g_newa pc' N kc' ks' t0 K ht hty hra hdv ha hn hN hbytes hc hd hp (fun a hD => by rw [hw a] at hD ⊢; exact kk a hD)
end FC
