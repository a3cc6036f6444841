-- PURE: words on numbers, ranges, answers
def b01 (P : Prop) [Decidable P] : Int32 := if P then 1 else 0
theorem b01_t {P : Prop} [Decidable P] (h : P) : b01 P = 1 := if_pos h
theorem b01_f {P : Prop} [Decidable P] (h : ¬ P) : b01 P = 0 := if_neg h
theorem zr_0 (S : St) : zr 0 S = some (0, S) := rfl
theorem zr_1 (S : St) : zr 1 S = some (1, S) := rfl
theorem zr_b (P : Prop) [Decidable P] (S : St) : zr (b01 P) S = some (b01 P, S) := by
  unfold b01
  split <;> rfl
theorem bd2_s {α : Type} (r : Int32) (S : St) (K : Int32 → St → Option α) : bd2 (some (r, S)) K = K r S := rfl
theorem bs_s {α β : Type} (a : β) (K : β → Option α) : (some a).bind K = K a := rfl
theorem lett_s {α β : Type} (a : α) (f : α → β) : lett a f = f a := rfl
theorem one_ne : ¬ (1 : Int32) = 0 := by decide
theorem i_lt (a b : Int32) : a < b ↔ a.toInt < b.toInt := Int32.lt_iff_toInt_lt
theorem i_le (a b : Int32) : a ≤ b ↔ a.toInt ≤ b.toInt := Int32.le_iff_toInt_le
theorem i_eq {a b : Int32} (h : a.toInt = b.toInt) : a = b := Int32.toInt_inj.mp h
theorem w_le (a b : Int32) : a.toInt64 ≤ b.toInt64 ↔ a ≤ b := by
  rw [Int64.le_iff_toInt_le, Int32.toInt_toInt64, Int32.toInt_toInt64, i_le]
theorem w_lt (a b : Int32) : a.toInt64 < b.toInt64 ↔ a < b := by
  rw [Int64.lt_iff_toInt_lt, Int32.toInt_toInt64, Int32.toInt_toInt64, i_lt]
theorem lgc_lt (x y : Int64) : lg_cmp x y < 0 ↔ x < y := by
  unfold lg_cmp
  by_cases h : x > y
  · rw [if_pos h]
    constructor
    · intro h2; exact absurd h2 (by decide)
    · intro h2
      rw [Int64.lt_iff_toInt_lt] at h2
      have h3 : y < x := h
      rw [Int64.lt_iff_toInt_lt] at h3
      omega
  · rw [if_neg h]
    by_cases h2 : x = y
    · rw [if_pos h2]
      constructor
      · intro h3; exact absurd h3 (by decide)
      · intro h3; subst h2; rw [Int64.lt_iff_toInt_lt] at h3; omega
    · rw [if_neg h2]
      constructor
      · intro _
        rw [Int64.lt_iff_toInt_lt]
        have h3 : ¬ y < x := h
        rw [Int64.lt_iff_toInt_lt] at h3
        have h4 : x.toInt ≠ y.toInt := fun e => h2 (Int64.toInt_inj.mp e)
        omega
      · intro _; decide
theorem lgc_gt (x y : Int64) : 0 < lg_cmp x y ↔ y < x := by
  unfold lg_cmp
  by_cases h : x > y
  · rw [if_pos h]
    exact ⟨fun _ => h, fun _ => by decide⟩
  · rw [if_neg h]
    by_cases h2 : x = y
    · rw [if_pos h2]
      exact ⟨fun h3 => absurd h3 (by decide), fun h3 => absurd h3 h⟩
    · rw [if_neg h2]
      exact ⟨fun h3 => absurd h3 (by decide), fun h3 => absurd h3 h⟩
theorem i_nlt {a b : Int32} : ¬ a < b ↔ b ≤ a := by
  rw [i_lt, i_le]; omega
theorem i_nle {a b : Int32} : ¬ a ≤ b ↔ b < a := by
  rw [i_lt, i_le]; omega
/-- within, of the class -/
theorem p_within (N n : Nat) (S : St) (v lo hi : Int32) : f_X6_within N n S v lo hi = some (b01 (lo ≤ v ∧ v ≤ hi), S) := by
  unfold f_X6_within
  by_cases h : v < lo
  · rw [if_pos h, b01_f (fun h2 => absurd h (i_nlt.mpr h2.1))]; rfl
  · rw [if_neg h]
    by_cases h2 : hi < v
    · rw [if_pos h2, b01_f (fun h3 => absurd h2 (i_nlt.mpr h3.2))]; rfl
    · rw [if_neg h2, b01_t ⟨i_nlt.mp h, i_nlt.mp h2⟩]; rfl
/-- in, of the reference -/
theorem p_in (N n : Nat) (S : St) {v lo hi : Int32} {lo' hi' : Int64} (hl : lo' = lo.toInt64) (hh : hi' = hi.toInt64) : f_X7_in N n S v.toInt64 lo' hi' = some (b01 (lo ≤ v ∧ v ≤ hi), S) := by
  subst hl
  subst hh
  unfold f_X7_in
  by_cases h : v < lo
  · rw [if_pos ((lgc_lt _ _).mpr ((w_lt _ _).mpr h)), b01_f (fun h2 => absurd h (i_nlt.mpr h2.1))]; rfl
  · rw [if_neg (fun h3 => h ((w_lt _ _).mp ((lgc_lt _ _).mp h3)))]
    by_cases h2 : hi < v
    · rw [if_pos ((lgc_gt _ _).mpr ((w_lt _ _).mpr h2)), b01_f (fun h3 => absurd h2 (i_nlt.mpr h3.2))]; rfl
    · rw [if_neg (fun h3 => h2 ((w_lt _ _).mp ((lgc_gt _ _).mp h3))), b01_t ⟨i_nlt.mp h, i_nlt.mp h2⟩]; rfl
theorem nI_int {j : Nat} (h : j < 2 ^ 31) : (nI j).toInt = (j : Int) := nI_toInt h
theorem rng {v : Int32} {a m : Nat} (h0 : nI a ≤ v) (h1 : v ≤ nI m) (hm : m < 2 ^ 31) (ha : a < 2 ^ 31) : ∃ j, a ≤ j ∧ j ≤ m ∧ v = nI j := by
  rw [i_le, nI_int ha] at h0
  rw [i_le, nI_int hm] at h1
  have h2 : ¬ v < 0 := by
    rw [i_lt]
    have e0 : (0 : Int32).toInt = 0 := rfl
    omega
  obtain ⟨j, hj, rfl⟩ := nI_of h2
  rw [nI_int hj] at h0 h1
  exact ⟨j, by omega, by omega, rfl⟩
theorem in_rng {a m j : Nat} (h0 : a ≤ j) (h1 : j ≤ m) (hm : m < 2 ^ 31) : nI a ≤ nI j ∧ nI j ≤ nI m := ⟨nI_le h0 (by omega), nI_le h1 hm⟩
theorem nI_m1 {n : Nat} (h : 1 ≤ n) : nI n - 1 = nI (n - 1) := by
  obtain ⟨k, rfl⟩ := Nat.exists_eq_succ_of_ne_zero (Nat.ne_of_gt h)
  exact nI_pred k
theorem nI_le_iff {a b : Nat} (ha : a < 2 ^ 31) (hb : b < 2 ^ 31) : nI a ≤ nI b ↔ a ≤ b := nI_leI ha hb
theorem nI_lt_iff {a b : Nat} (ha : a < 2 ^ 31) (hb : b < 2 ^ 31) : nI a < nI b ↔ a < b := nI_ltI ha hb
theorem nI_eq_iff {a b : Nat} (ha : a < 2 ^ 31) (hb : b < 2 ^ 31) : nI a = nI b ↔ a = b := nI_eq ha hb
theorem sub_int {a b : Nat} (ha : a < 2 ^ 30) (hb : b < 2 ^ 30) : (nI a - nI b).toInt = (a : Int) - b := pk_sub_toInt ha hb
theorem sub_le_iff {a b c : Nat} (ha : a < 2 ^ 30) (hb : b < 2 ^ 30) (hc : c < 2 ^ 30) : nI a - nI b < nI c ↔ a < b + c := by
  rw [i_lt, sub_int ha hb, nI_int (by omega)]; omega
theorem pF_pF (S : St) (k : Nat) (v u : Int32) : pF (pF S k v) k u = pF S k u := by
  unfold pF
  refine Prod.ext ?_ rfl
  funext j
  simp only [upd]
  split <;> rfl
theorem pF_comm (S : St) {i j : Nat} (v u : Int32) (h : i ≠ j) : pF (pF S i v) j u = pF (pF S j u) i v := by
  unfold pF
  refine Prod.ext ?_ rfl
  funext k
  simp only [upd]
  by_cases h1 : k = j
  · by_cases h2 : k = i
    · exact absurd (h2.symm.trans h1) h
    · rw [if_pos h1, if_neg h2, if_pos h1]
  · rw [if_neg h1]
    by_cases h2 : k = i
    · rw [if_pos h2, if_pos h2]
    · rw [if_neg h2, if_neg h2, if_neg h1]
theorem pA_comm (S : St) {i j : Nat} (f g : Nat → Int32) (h : i ≠ j) : pA (pA S i f) j g = pA (pA S j g) i f := by
  unfold pA
  refine Prod.ext rfl ?_
  funext k
  show (if k = j then g else if k = i then f else S.2 k) = if k = i then f else if k = j then g else S.2 k
  by_cases h1 : k = j
  · by_cases h2 : k = i
    · exact absurd (h2.symm.trans h1) h
    · rw [if_pos h1, if_neg h2, if_pos h1]
  · rw [if_neg h1]
    by_cases h2 : k = i
    · rw [if_pos h2, if_pos h2]
    · rw [if_neg h2, if_neg h2, if_neg h1]
theorem pA_pF (S : St) (i j : Nat) (v : Int32) (g : Nat → Int32) : pA (pF S i v) j g = pF (pA S j g) i v := rfl
theorem pF_self (S : St) (k : Nat) : pF S k (S.1 k) = S := by
  unfold pF
  refine Prod.ext ?_ rfl
  funext j
  show (if j = k then S.1 k else S.1 j) = S.1 j
  split
  · next h => rw [h]
  · rfl
theorem upd_at (f : Nat → Int32) (k : Nat) (v : Int32) : upd f k v k = v := by simp [upd]
theorem upd_ne (f : Nat → Int32) {k j : Nat} (v : Int32) (h : j ≠ k) : upd f k v j = f j := by simp [upd, h]
