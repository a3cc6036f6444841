-- RIVER: the least waits, as numbers
def BIG : Nat := 100000000
def rsG (V : RvT) (G : Nat → Nat → Nat) (p e : Nat) : Nat := if p = V.1.1 then 0 else if e ≤ 299 then G p e else BIG
def opG (V : RvT) (G : Nat → Nat → Nat) (j t : Nat) : Nat := if j < cn V t then (if rsG V G (cn V t) (eo V j t) < BIG then Ww V j t + rsG V G (cn V t) (eo V j t) else BIG) else BIG
def mnr (g : Nat → Nat) : Nat → Nat
  | 0 => BIG
  | k + 1 => if mnr g k < g (299 - k) then mnr g k else g (299 - k)
def chN (g : Nat → Nat) : Nat → Nat
  | 0 => 0
  | k + 1 => if mnr g k < g (299 - k) then chN g k else 299 - k
def TB (V : RvT) : Nat → Nat → Nat → Nat
  | 0 => fun _ _ => BIG
  | d + 1 => fun j e => if j + (d + 1) = V.1.1 then mnr (opG V (TB V d) j) (300 - e) else TB V d j e
theorem TB_st {V : RvT} {d : Nat} : ∀ d2, d ≤ d2 → ∀ j e, V.1.1 ≤ j + d → TB V d2 j e = TB V d j e := by
  intro d2
  induction d2 with
  | zero => intro h j e _; rw [show d = 0 by omega]
  | succ d2 ih =>
    intro h j e hj
    by_cases c : d = d2 + 1
    · rw [c]
    · show (if j + (d2 + 1) = V.1.1 then mnr (opG V (TB V d2) j) (300 - e) else TB V d2 j e) = _
      rw [if_neg (by omega)]
      exact ih (by omega) j e hj
theorem mnr_cg {g g2 : Nat → Nat} (h : ∀ t, t ≤ 299 → g t = g2 t) : ∀ k, mnr g k = mnr g2 k := by
  intro k
  induction k with
  | zero => rfl
  | succ k ih =>
    simp only [mnr]
    rw [ih, h (299 - k) (by omega)]
theorem chN_cg {g g2 : Nat → Nat} (h : ∀ t, t ≤ 299 → g t = g2 t) : ∀ k, chN g k = chN g2 k := by
  intro k
  induction k with
  | zero => rfl
  | succ k ih =>
    simp only [chN]
    rw [ih, h (299 - k) (by omega), mnr_cg h k]
theorem opG_cg {V : RvT} {G G2 : Nat → Nat → Nat} {j : Nat} (h : ∀ p e, j < p → G p e = G2 p e) (t : Nat) : opG V G j t = opG V G2 j t := by
  unfold opG
  by_cases c : j < cn V t
  · rw [if_pos c, if_pos c]
    have e : rsG V G (cn V t) (eo V j t) = rsG V G2 (cn V t) (eo V j t) := by
      unfold rsG
      rw [h _ _ c]
    rw [e]
  · rw [if_neg c, if_neg c]
theorem TB_row {V : RvT} {j d : Nat} (hj : j + (d + 1) = V.1.1) (e : Nat) : TB V V.1.1 j e = mnr (opG V (TB V V.1.1) j) (300 - e) := by
  rw [TB_st (d := d + 1) V.1.1 (by omega) j e (by omega)]
  show (if j + (d + 1) = V.1.1 then mnr (opG V (TB V d) j) (300 - e) else TB V d j e) = _
  rw [if_pos hj]
  exact mnr_cg (fun t _ => opG_cg (fun p e hp => (TB_st (d := d) V.1.1 (by omega) p e (by omega)).symm) t) _
def okv (d x : Nat) : Prop := x = BIG ∨ x ≤ d * 70000
theorem mnr_ok {g : Nat → Nat} {d : Nat} (h : ∀ t, t ≤ 299 → okv d (g t)) : ∀ k, okv d (mnr g k) := by
  intro k
  induction k with
  | zero => exact Or.inl rfl
  | succ k ih =>
    simp only [mnr]
    split
    · exact ih
    · exact h _ (by omega)
theorem okv_le {d x : Nat} (h : okv d x) (hd : d ≤ 10) : x ≤ BIG := by
  rcases h with z | z
  · omega
  · have : d * 70000 ≤ 10 * 70000 := Nat.mul_le_mul_right _ hd
    unfold BIG
    omega
theorem opG_ok {V : RvT} (hv : Vok V) {G : Nat → Nat → Nat} {d j t : Nat} (ht : t ≤ 299) (hG : ∀ p e, okv d (G p e)) : okv (d + 1) (opG V G j t) := by
  unfold opG
  by_cases c : j < cn V t
  · rw [if_pos c]
    by_cases c2 : rsG V G (cn V t) (eo V j t) < BIG
    · rw [if_pos c2]
      refine Or.inr ?_
      have hw := Ww_le hv (j := j) ht
      have hr : rsG V G (cn V t) (eo V j t) ≤ d * 70000 := by
        unfold rsG at c2 ⊢
        by_cases a : cn V t = V.1.1
        · rw [if_pos a]; exact Nat.zero_le _
        · rw [if_neg a] at c2 ⊢
          by_cases b : eo V j t ≤ 299
          · rw [if_pos b] at c2 ⊢
            rcases hG (cn V t) (eo V j t) with z | z
            · omega
            · exact z
          · rw [if_neg b] at c2
            omega
      rw [Nat.succ_mul]
      omega
    · rw [if_neg c2]; exact Or.inl rfl
  · rw [if_neg c]; exact Or.inl rfl
theorem okv_mono {d d2 x : Nat} (h : okv d x) (hd : d ≤ d2) : okv d2 x := by
  rcases h with z | z
  · exact Or.inl z
  · exact Or.inr (Nat.le_trans z (Nat.mul_le_mul_right _ hd))
theorem TB_ok {V : RvT} (hv : Vok V) : ∀ d j e, okv d (TB V d j e) := by
  intro d
  induction d with
  | zero => intro j e; exact Or.inl rfl
  | succ d ih =>
    intro j e
    show okv (d + 1) (if j + (d + 1) = V.1.1 then mnr (opG V (TB V d) j) (300 - e) else TB V d j e)
    split
    · exact mnr_ok (fun t ht => opG_ok hv ht ih) _
    · exact okv_mono (ih j e) (by omega)
theorem TB_300 {V : RvT} : ∀ d j, TB V d j 300 = BIG := by
  intro d
  induction d with
  | zero => intro j; rfl
  | succ d ih =>
    intro j
    show (if j + (d + 1) = V.1.1 then mnr (opG V (TB V d) j) (300 - 300) else TB V d j 300) = BIG
    split
    · rfl
    · exact ih j
theorem chN_spec (g : Nat → Nat) : ∀ k, k ≤ 300 → mnr g k < BIG → 300 - k ≤ chN g k ∧ chN g k ≤ 299 ∧ g (chN g k) = mnr g k ∧ ∀ t, 300 - k ≤ t → t < chN g k → g t ≠ mnr g k := by
  intro k
  induction k with
  | zero => intro _ h; exact absurd h (by simp only [mnr]; omega)
  | succ k ih =>
    intro hk h
    simp only [mnr] at h ⊢
    simp only [chN]
    by_cases c : mnr g k < g (299 - k)
    · rw [if_pos c] at h ⊢
      rw [if_pos c]
      obtain ⟨i1, i2, i3, i4⟩ := ih (by omega) h
      refine ⟨by omega, i2, i3, fun t h1 h2 => ?_⟩
      by_cases e : t = 299 - k
      · rw [e]; omega
      · exact i4 t (by omega) h2
    · rw [if_neg c] at h ⊢
      rw [if_neg c]
      exact ⟨by omega, by omega, rfl, fun t h1 h2 => by omega⟩
/-- the way of the least waits -/
def tt (V : RvT) (G : Nat → Nat → Nat) (q : Nat × Nat) : Nat := chN (opG V G q.1) (300 - q.2)
def pth (V : RvT) (G : Nat → Nat → Nat) : Nat → Nat × Nat
  | 0 => (0, 0)
  | i + 1 => (cn V (tt V G (pth V G i)), eo V (pth V G i).1 (tt V G (pth V G i)))
def gd (V : RvT) (q : Nat × Nat) : Prop := q.1 ≤ V.1.1 ∧ rsG V (TB V V.1.1) q.1 q.2 < BIG
theorem gd_in {V : RvT} {q : Nat × Nat} (h : gd V q) (hq : q.1 < V.1.1) : q.2 ≤ 299 ∧ rsG V (TB V V.1.1) q.1 q.2 = mnr (opG V (TB V V.1.1) q.1) (300 - q.2) ∧ mnr (opG V (TB V V.1.1) q.1) (300 - q.2) < BIG := by
  obtain ⟨h1, h2⟩ := h
  unfold rsG at h2 ⊢
  rw [if_neg (by omega)] at h2 ⊢
  by_cases c : q.2 ≤ 299
  · rw [if_pos c] at h2 ⊢
    rw [TB_row (d := V.1.1 - 1 - q.1) (by omega)] at h2 ⊢
    exact ⟨c, rfl, h2⟩
  · rw [if_neg c] at h2
    omega
theorem gd_st {V : RvT} {q : Nat × Nat} (h : gd V q) (hq : q.1 < V.1.1) : q.2 ≤ tt V (TB V V.1.1) q ∧ tt V (TB V V.1.1) q ≤ 299 ∧ q.1 < cn V (tt V (TB V V.1.1) q) ∧ opG V (TB V V.1.1) q.1 (tt V (TB V V.1.1) q) = rsG V (TB V V.1.1) q.1 q.2 ∧ (∀ t, q.2 ≤ t → t < tt V (TB V V.1.1) q → opG V (TB V V.1.1) q.1 t ≠ rsG V (TB V V.1.1) q.1 q.2) ∧ gd V (cn V (tt V (TB V V.1.1) q), eo V q.1 (tt V (TB V V.1.1) q)) := by
  obtain ⟨a1, a2, a3⟩ := gd_in h hq
  obtain ⟨c1, c2, c3, c4⟩ := chN_spec (opG V (TB V V.1.1) q.1) (300 - q.2) (by omega) a3
  have e : chN (opG V (TB V V.1.1) q.1) (300 - q.2) = tt V (TB V V.1.1) q := rfl
  rw [e] at c1 c2 c3 c4
  rw [a2]
  have lt : opG V (TB V V.1.1) q.1 (tt V (TB V V.1.1) q) < BIG := by rw [c3]; exact a3
  have hj : q.1 < cn V (tt V (TB V V.1.1) q) := by
    apply Classical.byContradiction
    intro z
    unfold opG at lt
    rw [if_neg z] at lt
    omega
  refine ⟨by omega, c2, hj, c3, fun t h1 h2 => c4 t (by omega) h2, cn_le V _, ?_⟩
  apply Classical.byContradiction
  intro z
  unfold opG at lt
  rw [if_pos hj, if_neg z] at lt
  omega
theorem pth_gd {V : RvT} (h0 : gd V (0, 0)) : ∀ i, (∀ u, u < i → (pth V (TB V V.1.1) u).1 < V.1.1) → gd V (pth V (TB V V.1.1) i) ∧ i ≤ (pth V (TB V V.1.1) i).1 := by
  intro i
  induction i with
  | zero => intro _; exact ⟨h0, Nat.le_refl _⟩
  | succ i ih =>
    intro h
    obtain ⟨i1, i2⟩ := ih (fun u hu => h u (by omega))
    have s := gd_st i1 (h i (by omega))
    refine ⟨s.2.2.2.2.2, ?_⟩
    show i + 1 ≤ cn V (tt V (TB V V.1.1) (pth V (TB V V.1.1) i))
    have := s.2.2.1
    omega
def cl (x : Nat) : Int32 := if x < BIG then nI x else 1000000000
def ch (g : Nat → Nat) (k : Nat) : Int32 := if mnr g k < BIG then nI (chN g k) else -1
theorem cl_lt {x : Nat} (h : x ≤ BIG) : cl x < 1000000000 ↔ x < BIG := by
  unfold cl
  by_cases c : x < BIG
  · rw [if_pos c]
    exact ⟨fun _ => c, fun _ => nI_lt (b := 1000000000) (by unfold BIG at c; omega) (by decide)⟩
  · rw [if_neg c]
    exact ⟨fun z => absurd z (by decide), fun z => absurd z c⟩
theorem cl_le {x : Nat} (h : x ≤ BIG) : (1000000000 : Int32) ≤ cl x ↔ ¬ x < BIG := by
  rw [← cl_lt h, i_nlt]
theorem m1_eq (x : Int32) : x + (-1) = x - 1 := by
  rw [Int32.sub_eq_add_neg]
