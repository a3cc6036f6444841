-- RIVER: loops told by what they come to; counts, sums, the sorted row
theorem loop0_q {α : Type} {b : (St → Option α) → St → Option α} {Q : Option α → Prop} (I : Nat → St → Prop) (k : Nat) (hs : ∀ (i : Nat) (S : St), i < k → I i S → ∀ rc, (∃ (S2 : St), I (i + 1) S2 ∧ b rc S = rc S2) ∨ Q (b rc S)) (hx : ∀ (S : St), I k S → ∀ rc, Q (b rc S)) : ∀ (j i n : Nat) (S : St), i + j = k → I i S → j < n → Q (loop0 b n S) := by
  intro j
  induction j with
  | zero =>
    intro i n S hi hI hn
    obtain ⟨n, rfl⟩ : ∃ m, n = m + 1 := ⟨n - 1, by omega⟩
    obtain rfl : i = k := by omega
    exact hx S hI _
  | succ j ih =>
    intro i n S hi hI hn
    obtain ⟨n, rfl⟩ : ∃ m, n = m + 1 := ⟨n - 1, by omega⟩
    rcases hs i S (by omega) hI (loop0 b n) with ⟨S2, h2, he⟩ | hq
    · show Q (b (loop0 b n) S)
      rw [he]
      exact ih (i + 1) n S2 (by omega) h2 (by omega)
    · exact hq
theorem loop1_q {α T1 : Type} {b : (St → T1 → Option α) → St → T1 → Option α} {Q : Option α → Prop} (I : Nat → St → T1 → Prop) (k : Nat) (hs : ∀ (i : Nat) (S : St) (x1 : T1), i < k → I i S x1 → ∀ rc, (∃ (S2 : St) (y1 : T1), I (i + 1) S2 y1 ∧ b rc S x1 = rc S2 y1) ∨ Q (b rc S x1)) (hx : ∀ (S : St) (x1 : T1), I k S x1 → ∀ rc, Q (b rc S x1)) : ∀ (j i n : Nat) (S : St) (x1 : T1), i + j = k → I i S x1 → j < n → Q (loop1 b n S x1) := by
  intro j
  induction j with
  | zero =>
    intro i n S x1 hi hI hn
    obtain ⟨n, rfl⟩ : ∃ m, n = m + 1 := ⟨n - 1, by omega⟩
    obtain rfl : i = k := by omega
    exact hx S x1 hI _
  | succ j ih =>
    intro i n S x1 hi hI hn
    obtain ⟨n, rfl⟩ : ∃ m, n = m + 1 := ⟨n - 1, by omega⟩
    rcases hs i S x1 (by omega) hI (loop1 b n) with ⟨S2, y1, h2, he⟩ | hq
    · show Q (b (loop1 b n) S x1)
      rw [he]
      exact ih (i + 1) n S2 y1 (by omega) h2 (by omega)
    · exact hq
theorem loop2_q {α T1 T2 : Type} {b : (St → T1 → T2 → Option α) → St → T1 → T2 → Option α} {Q : Option α → Prop} (I : Nat → St → T1 → T2 → Prop) (k : Nat) (hs : ∀ (i : Nat) (S : St) (x1 : T1) (x2 : T2), i < k → I i S x1 x2 → ∀ rc, (∃ (S2 : St) (y1 : T1) (y2 : T2), I (i + 1) S2 y1 y2 ∧ b rc S x1 x2 = rc S2 y1 y2) ∨ Q (b rc S x1 x2)) (hx : ∀ (S : St) (x1 : T1) (x2 : T2), I k S x1 x2 → ∀ rc, Q (b rc S x1 x2)) : ∀ (j i n : Nat) (S : St) (x1 : T1) (x2 : T2), i + j = k → I i S x1 x2 → j < n → Q (loop2 b n S x1 x2) := by
  intro j
  induction j with
  | zero =>
    intro i n S x1 x2 hi hI hn
    obtain ⟨n, rfl⟩ : ∃ m, n = m + 1 := ⟨n - 1, by omega⟩
    obtain rfl : i = k := by omega
    exact hx S x1 x2 hI _
  | succ j ih =>
    intro i n S x1 x2 hi hI hn
    obtain ⟨n, rfl⟩ : ∃ m, n = m + 1 := ⟨n - 1, by omega⟩
    rcases hs i S x1 x2 (by omega) hI (loop2 b n) with ⟨S2, y1, y2, h2, he⟩ | hq
    · show Q (b (loop2 b n) S x1 x2)
      rw [he]
      exact ih (i + 1) n S2 y1 y2 (by omega) h2 (by omega)
    · exact hq
theorem loop3_q {α T1 T2 T3 : Type} {b : (St → T1 → T2 → T3 → Option α) → St → T1 → T2 → T3 → Option α} {Q : Option α → Prop} (I : Nat → St → T1 → T2 → T3 → Prop) (k : Nat) (hs : ∀ (i : Nat) (S : St) (x1 : T1) (x2 : T2) (x3 : T3), i < k → I i S x1 x2 x3 → ∀ rc, (∃ (S2 : St) (y1 : T1) (y2 : T2) (y3 : T3), I (i + 1) S2 y1 y2 y3 ∧ b rc S x1 x2 x3 = rc S2 y1 y2 y3) ∨ Q (b rc S x1 x2 x3)) (hx : ∀ (S : St) (x1 : T1) (x2 : T2) (x3 : T3), I k S x1 x2 x3 → ∀ rc, Q (b rc S x1 x2 x3)) : ∀ (j i n : Nat) (S : St) (x1 : T1) (x2 : T2) (x3 : T3), i + j = k → I i S x1 x2 x3 → j < n → Q (loop3 b n S x1 x2 x3) := by
  intro j
  induction j with
  | zero =>
    intro i n S x1 x2 x3 hi hI hn
    obtain ⟨n, rfl⟩ : ∃ m, n = m + 1 := ⟨n - 1, by omega⟩
    obtain rfl : i = k := by omega
    exact hx S x1 x2 x3 hI _
  | succ j ih =>
    intro i n S x1 x2 x3 hi hI hn
    obtain ⟨n, rfl⟩ : ∃ m, n = m + 1 := ⟨n - 1, by omega⟩
    rcases hs i S x1 x2 x3 (by omega) hI (loop3 b n) with ⟨S2, y1, y2, y3, h2, he⟩ | hq
    · show Q (b (loop3 b n) S x1 x2 x3)
      rw [he]
      exact ih (i + 1) n S2 y1 y2 y3 (by omega) h2 (by omega)
    · exact hq
theorem loop4_q {α T1 T2 T3 T4 : Type} {b : (St → T1 → T2 → T3 → T4 → Option α) → St → T1 → T2 → T3 → T4 → Option α} {Q : Option α → Prop} (I : Nat → St → T1 → T2 → T3 → T4 → Prop) (k : Nat) (hs : ∀ (i : Nat) (S : St) (x1 : T1) (x2 : T2) (x3 : T3) (x4 : T4), i < k → I i S x1 x2 x3 x4 → ∀ rc, (∃ (S2 : St) (y1 : T1) (y2 : T2) (y3 : T3) (y4 : T4), I (i + 1) S2 y1 y2 y3 y4 ∧ b rc S x1 x2 x3 x4 = rc S2 y1 y2 y3 y4) ∨ Q (b rc S x1 x2 x3 x4)) (hx : ∀ (S : St) (x1 : T1) (x2 : T2) (x3 : T3) (x4 : T4), I k S x1 x2 x3 x4 → ∀ rc, Q (b rc S x1 x2 x3 x4)) : ∀ (j i n : Nat) (S : St) (x1 : T1) (x2 : T2) (x3 : T3) (x4 : T4), i + j = k → I i S x1 x2 x3 x4 → j < n → Q (loop4 b n S x1 x2 x3 x4) := by
  intro j
  induction j with
  | zero =>
    intro i n S x1 x2 x3 x4 hi hI hn
    obtain ⟨n, rfl⟩ : ∃ m, n = m + 1 := ⟨n - 1, by omega⟩
    obtain rfl : i = k := by omega
    exact hx S x1 x2 x3 x4 hI _
  | succ j ih =>
    intro i n S x1 x2 x3 x4 hi hI hn
    obtain ⟨n, rfl⟩ : ∃ m, n = m + 1 := ⟨n - 1, by omega⟩
    rcases hs i S x1 x2 x3 x4 (by omega) hI (loop4 b n) with ⟨S2, y1, y2, y3, y4, h2, he⟩ | hq
    · show Q (b (loop4 b n) S x1 x2 x3 x4)
      rw [he]
      exact ih (i + 1) n S2 y1 y2 y3 y4 (by omega) h2 (by omega)
    · exact hq
def ctn (p : Nat → Bool) : Nat → Nat
  | 0 => 0
  | k + 1 => ctn p k + (if p k then 1 else 0)
def smn (f : Nat → Nat) : Nat → Nat
  | 0 => 0
  | k + 1 => smn f k + f k
theorem ctn_le (p : Nat → Bool) (k : Nat) : ctn p k ≤ k := by
  induction k with
  | zero => exact Nat.le_refl _
  | succ k ih =>
    simp only [ctn]
    split <;> omega
theorem ctn_cg {p q : Nat → Bool} {k : Nat} (h : ∀ i, i < k → p i = q i) : ctn p k = ctn q k := by
  induction k with
  | zero => rfl
  | succ k ih =>
    simp only [ctn]
    rw [ih (fun i hi => h i (by omega)), h k (by omega)]
theorem smn_cg {p q : Nat → Nat} {k : Nat} (h : ∀ i, i < k → p i = q i) : smn p k = smn q k := by
  induction k with
  | zero => rfl
  | succ k ih =>
    simp only [smn]
    rw [ih (fun i hi => h i (by omega)), h k (by omega)]
theorem smn_le {f : Nat → Nat} {k B : Nat} (h : ∀ i, i < k → f i ≤ B) : smn f k ≤ k * B := by
  induction k with
  | zero => exact Nat.zero_le _
  | succ k ih =>
    simp only [smn]
    have h1 := ih (fun i hi => h i (by omega))
    have h2 := h k (by omega)
    rw [Nat.succ_mul]
    omega
def plc (s : Nat → Nat) (v : Nat) : Nat → Nat
  | 0 => 0
  | k + 1 => if s k ≤ v then k + 1 else plc s v k
def ins (s : Nat → Nat) (k v j : Nat) : Nat := if j < plc s v k then s j else if j = plc s v k then v else s (j - 1)
theorem plc_spec (s : Nat → Nat) (v : Nat) : ∀ k, plc s v k ≤ k ∧ (∀ i, plc s v k ≤ i → i < k → v < s i) ∧ (0 < plc s v k → s (plc s v k - 1) ≤ v) := by
  intro k
  induction k with
  | zero => exact ⟨Nat.le_refl _, fun i _ h => absurd h (by omega), fun h => absurd h (by simp only [plc]; omega)⟩
  | succ k ih =>
    simp only [plc]
    by_cases h : s k ≤ v
    · rw [if_pos h]
      exact ⟨Nat.le_refl _, fun i h1 h2 => absurd h1 (by omega), fun _ => h⟩
    · rw [if_neg h]
      refine ⟨by omega, fun i h1 h2 => ?_, ih.2.2⟩
      by_cases e : i = k
      · rw [e]; omega
      · exact ih.2.1 i h1 (by omega)
def srd (s : Nat → Nat) (k : Nat) : Prop := ∀ i j, i ≤ j → j < k → s i ≤ s j
theorem ins_srd {s : Nat → Nat} {k v : Nat} (h : srd s k) : srd (ins s k v) (k + 1) := by
  obtain ⟨p1, p2, p3⟩ := plc_spec s v k
  intro i j hij hj
  unfold ins
  generalize plc s v k = p at *
  by_cases a : i < p
  · rw [if_pos a]
    by_cases b : j < p
    · rw [if_pos b]; exact h i j hij (by omega)
    · rw [if_neg b]
      by_cases c : j = p
      · rw [if_pos c]
        exact Nat.le_trans (h i (p - 1) (by omega) (by omega)) (p3 (by omega))
      · rw [if_neg c]; exact h i (j - 1) (by omega) (by omega)
  · rw [if_neg a, if_neg (show ¬ j < p by omega)]
    by_cases c : i = p
    · rw [if_pos c]
      by_cases d : j = p
      · rw [if_pos d]; exact Nat.le_refl _
      · rw [if_neg d]
        have := p2 (j - 1) (by omega) (by omega)
        omega
    · rw [if_neg c, if_neg (show ¬ j = p by omega)]
      exact h (i - 1) (j - 1) (by omega) (by omega)
theorem ins_le {s : Nat → Nat} {k v B : Nat} (h : ∀ i, i < k → s i ≤ B) (hv : v ≤ B) : ∀ i, i < k + 1 → ins s k v i ≤ B := by
  obtain ⟨p1, p2, p3⟩ := plc_spec s v k
  intro i hi
  unfold ins
  split
  · exact h i (by omega)
  · split
    · exact hv
    · exact h _ (by omega)
theorem ctn_ins (P : Nat → Bool) (s : Nat → Nat) (v : Nat) : ∀ k, ctn (fun i => P (ins s k v i)) (k + 1) = ctn (fun i => P (s i)) k + (if P v then 1 else 0) := by
  intro k
  induction k with
  | zero => rfl
  | succ k ih =>
    by_cases h : s k ≤ v
    · have e : plc s v (k + 1) = k + 1 := by
        simp only [plc]
        rw [if_pos h]
      have e2 : ctn (fun i => P (ins s (k + 1) v i)) (k + 1) = ctn (fun i => P (s i)) (k + 1) := ctn_cg (fun i hi => by
        unfold ins
        rw [e, if_pos hi])
      show ctn (fun i => P (ins s (k + 1) v i)) (k + 1) + (if P (ins s (k + 1) v (k + 1)) then 1 else 0) = _
      rw [e2]
      have e3 : ins s (k + 1) v (k + 1) = v := by
        unfold ins
        rw [e, if_neg (by omega), if_pos rfl]
      rw [e3]
    · have e : plc s v (k + 1) = plc s v k := by
        simp only [plc]
        rw [if_neg h]
      have e2 : ctn (fun i => P (ins s (k + 1) v i)) (k + 1) = ctn (fun i => P (ins s k v i)) (k + 1) := ctn_cg (fun i hi => by
        unfold ins
        rw [e])
      show ctn (fun i => P (ins s (k + 1) v i)) (k + 1) + (if P (ins s (k + 1) v (k + 1)) then 1 else 0) = ctn (fun i => P (s i)) k + (if P (s k) then 1 else 0) + (if P v then 1 else 0)
      have p1 := (plc_spec s v k).1
      have e3 : ins s (k + 1) v (k + 1) = s k := by
        unfold ins
        rw [e, if_neg (by omega), if_neg (by omega)]
        rfl
      rw [e2, ih, e3]
      omega
theorem ctn_srd {s : Nat → Nat} {t : Nat} : ∀ k, srd s k → ∀ j, j < k → (s j ≤ t ↔ j < ctn (fun i => Nat.ble (s i) t) k) := by
  intro k
  induction k with
  | zero => intro _ j hj; omega
  | succ k ih =>
    intro hs j hj
    have hs2 : srd s k := fun i j h1 h2 => hs i j h1 (by omega)
    simp only [ctn]
    by_cases h : s k ≤ t
    · have all : ∀ m, m ≤ k → ctn (fun i => Nat.ble (s i) t) m = m := by
        intro m
        induction m with
        | zero => intro _; rfl
        | succ m ihm =>
          intro hm
          simp only [ctn]
          rw [ihm (by omega), if_pos (Nat.ble_eq.mpr (Nat.le_trans (hs m k (by omega) (by omega)) h))]
      rw [all k (Nat.le_refl _), if_pos (Nat.ble_eq.mpr h)]
      exact ⟨fun _ => hj, fun _ => Nat.le_trans (hs j k (by omega) (by omega)) h⟩
    · rw [if_neg (fun z => h (Nat.ble_eq.mp z)), Nat.add_zero]
      by_cases e : j = k
      · subst e
        have := ctn_le (fun i => Nat.ble (s i) t) j
        exact ⟨fun z => absurd z h, fun z => by omega⟩
      · exact ih hs2 j (by omega)
def srt (a : Nat → Nat) : Nat → Nat → Nat
  | 0 => a
  | k + 1 => ins (srt a k) k (a k)
theorem srt_srd (a : Nat → Nat) : ∀ k, srd (srt a k) k := by
  intro k
  induction k with
  | zero => intro i j _ h; omega
  | succ k ih => exact ins_srd ih
theorem srt_le {a : Nat → Nat} {B : Nat} : ∀ k, (∀ i, i < k → a i ≤ B) → ∀ i, i < k → srt a k i ≤ B := by
  intro k
  induction k with
  | zero => intro _ i h; omega
  | succ k ih => intro h i hi; exact ins_le (ih (fun i hi => h i (by omega))) (h k (by omega)) i hi
theorem srt_cg {a a2 : Nat → Nat} : ∀ k, (∀ i, i < k → a i = a2 i) → ∀ j, j < k → srt a k j = srt a2 k j := by
  intro k
  induction k with
  | zero => intro _ j h; omega
  | succ k ih =>
    intro h
    have ih := ih (fun i hi => h i (by omega))
    have hk := h k (by omega)
    have ep : ∀ m, m ≤ k → plc (srt a k) (a k) m = plc (srt a2 k) (a2 k) m := by
      intro m
      induction m with
      | zero => intro _; rfl
      | succ m ihm =>
        intro hm
        simp only [plc]
        rw [ih m (by omega), ihm (by omega), hk]
    intro j hj
    show ins (srt a k) k (a k) j = ins (srt a2 k) k (a2 k) j
    have p1 := (plc_spec (srt a k) (a k) k).1
    unfold ins
    rw [← ep k (Nat.le_refl _), ← hk]
    by_cases c1 : j < plc (srt a k) (a k) k
    · rw [if_pos c1, if_pos c1]; exact ih j (by omega)
    · rw [if_neg c1, if_neg c1]
      by_cases c2 : j = plc (srt a k) (a k) k
      · rw [if_pos c2, if_pos c2]
      · rw [if_neg c2, if_neg c2]; exact ih (j - 1) (by omega)
-- the river's numbers: ships, crossers, times
abbrev RvT : Type := (Nat × (Nat → Nat)) × (Nat × (Nat → Nat)) × Nat × Nat × Nat × Nat
def cn (V : RvT) (t : Nat) : Nat := ctn (fun i => Nat.ble (V.1.2 i) t) V.1.1
def eo (V : RvT) (j t : Nat) : Nat := t + V.2.2.1 + V.2.2.2.1 * (cn V t - j) + V.2.2.2.2.1
def crw (V : RvT) (t en : Nat) : Nat := smn (fun i => if t ≤ V.2.1.2 i ∧ V.2.1.2 i < en then en - V.2.1.2 i else 0) V.2.1.1
def shd (V : RvT) (j t : Nat) : Nat → Nat := smn (fun x => t + V.2.2.1 + (x + 1) * V.2.2.2.1 - V.1.2 (j + x))
def Ww (V : RvT) (j t : Nat) : Nat := V.2.2.2.2.2 * shd V j t (cn V t - j) + crw V t (eo V j t)
/-- the numbers are such as may be told -/
def Vok (V : RvT) : Prop := V.1.1 ≤ 10 ∧ srd V.1.2 V.1.1 ∧ (∀ i, i < V.1.1 → V.1.2 i ≤ 239) ∧ V.2.1.1 ≤ 30 ∧ (∀ i, i < V.2.1.1 → V.2.1.2 i ≤ 239) ∧ (1 ≤ V.2.2.1 ∧ V.2.2.1 ≤ 20) ∧ (1 ≤ V.2.2.2.1 ∧ V.2.2.2.1 ≤ 20) ∧ (1 ≤ V.2.2.2.2.1 ∧ V.2.2.2.2.1 ≤ 20) ∧ 1 ≤ V.2.2.2.2.2 ∧ V.2.2.2.2.2 ≤ 9
theorem cn_le (V : RvT) (t : Nat) : cn V t ≤ V.1.1 := ctn_le _ _
theorem cn_iff {V : RvT} (h : Vok V) {j t : Nat} (hj : j < V.1.1) : V.1.2 j ≤ t ↔ j < cn V t := ctn_srd _ h.2.1 j hj
theorem eo_le {V : RvT} (h : Vok V) {j t : Nat} (ht : t ≤ 299) : t ≤ eo V j t ∧ eo V j t ≤ 539 := by
  unfold eo
  have h1 := cn_le V t
  have h2 : V.2.2.2.1 * (cn V t - j) ≤ 20 * 10 := Nat.mul_le_mul h.2.2.2.2.2.2.1.2 (by have := h.1; omega)
  have h3 := h.2.2.2.2.2.1
  have h4 := h.2.2.2.2.2.2.2.1
  omega
theorem Ww_le {V : RvT} (h : Vok V) {j t : Nat} (ht : t ≤ 299) : Ww V j t ≤ 70000 := by
  have h0 := cn_le V t
  have hc := h.1
  have e1 : shd V j t (cn V t - j) ≤ 10 * 519 := by
    refine Nat.le_trans (smn_le (B := 519) ?_) (Nat.mul_le_mul_right _ (by omega))
    intro x hx
    have h2 : (x + 1) * V.2.2.2.1 ≤ 10 * 20 := Nat.mul_le_mul (by omega) h.2.2.2.2.2.2.1.2
    have h3 := h.2.2.2.2.2.1
    show t + V.2.2.1 + (x + 1) * V.2.2.2.1 - V.1.2 (j + x) ≤ 519
    omega
  have e2 : crw V t (eo V j t) ≤ 30 * 539 := by
    refine Nat.le_trans (smn_le (B := 539) ?_) (Nat.mul_le_mul_right _ h.2.2.2.1)
    intro x hx
    have := (eo_le h (j := j) ht).2
    show (if t ≤ V.2.1.2 x ∧ V.2.1.2 x < eo V j t then eo V j t - V.2.1.2 x else 0) ≤ 539
    split <;> omega
  have e3 : V.2.2.2.2.2 * shd V j t (cn V t - j) ≤ 9 * (10 * 519) := Nat.mul_le_mul h.2.2.2.2.2.2.2.2.2 e1
  unfold Ww
  omega
