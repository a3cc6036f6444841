-- TOKENS: what both read next
def isL (c : Nat) : Bool := (Nat.ble 97 c && Nat.ble c 122) || (Nat.ble 65 c && Nat.ble c 90)
def isD (c : Nat) : Bool := Nat.ble 48 c && Nat.ble c 57
theorem byC : ∀ c, c < 256 → (b01 ((97 : Int32) ≤ nI c ∧ nI c ≤ 122) = (if Nat.ble 97 c && Nat.ble c 122 then 1 else 0)) ∧ (b01 ((65 : Int32) ≤ nI c ∧ nI c ≤ 90) = (if Nat.ble 65 c && Nat.ble c 90 then 1 else 0)) ∧ (b01 ((48 : Int32) ≤ nI c ∧ nI c ≤ 57) = (if isD c then 1 else 0)) ∧ (nI c = 32 ↔ c = 32) ∧ (nI c = 59 ↔ c = 59) := by decide +kernel
theorem byM : ∀ c, c < 256 → (b01 ((97 : Int32) ≤ sb_b c ∧ sb_b c ≤ 122) = (if Nat.ble 97 c && Nat.ble c 122 then 1 else 0)) ∧ (b01 ((65 : Int32) ≤ sb_b c ∧ sb_b c ≤ 90) = (if Nat.ble 65 c && Nat.ble c 90 then 1 else 0)) ∧ (b01 ((48 : Int32) ≤ sb_b c ∧ sb_b c ≤ 57) = (if isD c then 1 else 0)) ∧ (sb_b c = 32 ↔ c = 32) ∧ (sb_b c = 59 ↔ c = 59) ∧ (isD c = true → sb_b c = nI c ∧ 48 ≤ c ∧ c ≤ 57) ∧ (isL c = true → sb_b c = nI c ∧ 65 ≤ c ∧ c ≤ 122) := by decide +kernel
def bz (b : Bool) : Int32 := if b then 1 else 0
theorem p_isDigit (N n : Nat) (S : St) {c : Nat} (h : c < 256) : f_X5_isDigit N n S (nI c) = some (bz (isD c), S) := by
  unfold f_X5_isDigit
  rw [p_within, bd2_s, zr_b, (byC c h).2.2.1]
  rfl
theorem p_isLetter (N n : Nat) (S : St) {c : Nat} (h : c < 256) : f_X5_isLetter N n S (nI c) = some (bz (isL c), S) := by
  unfold f_X5_isLetter
  rw [p_within, bd2_s, p_within, bd2_s, (byC c h).1, (byC c h).2.1]
  unfold isL
  cases (Nat.ble 97 c && Nat.ble c 122)
  · cases (Nat.ble 65 c && Nat.ble c 90) <;> rfl
  · rfl
theorem p_inD (N n : Nat) (S : St) {c : Nat} (h : c < 256) : f_X7_in N n S (Int32.toInt64 (sb_b c)) 48 57 = some (bz (isD c), S) := by
  rw [p_in N n S (lo' := 48) (hi' := 57) (lo := 48) (hi := 57) rfl rfl, (byM c h).2.2.1]
  rfl
theorem p_isLetterM (N n : Nat) (S : St) {c : Nat} (h : c < 256) : f_X7_isLetter N n S (sb_b c) = some (bz (isL c), S) := by
  unfold f_X7_isLetter
  rw [p_in N n S (lo' := 97) (hi' := 122) (lo := 97) (hi := 122) rfl rfl, bd2_s, p_in N n S (lo' := 65) (hi' := 90) (lo := 65) (hi := 90) rfl rfl, bd2_s, (byM c h).1, (byM c h).2.1]
  unfold isL
  cases (Nat.ble 97 c && Nat.ble c 122)
  · cases (Nat.ble 65 c && Nat.ble c 90) <;> rfl
  · rfl
/-- the tape, told of one side -/
def TpC (ln : Nat) (cs : Nat → Nat) (S : St) : Prop := ln ≤ 200 ∧ S.1 2401 = nI ln ∧ ∀ j, j < ln → cs j < 256 ∧ S.2 25 j = sb_b (cs j)
def TpM (ln : Nat) (cs : Nat → Nat) (T : St) : Prop := ln ≤ 200 ∧ ∀ j, j < ln → cs j < 256 ∧ T.2 11 j = sb_b (cs j)
theorem p_byteAt {N n ln p : Nat} {cs : Nat → Nat} {S : St} (h : TpC ln cs S) (hp : p < ln) : f_X3_byteAt N n S (nI p) = some (nI (cs p), S) := by
  obtain ⟨h1, h2, h3⟩ := h
  unfold f_X3_byteAt
  rw [h2, nI_m1 (by omega), p_within, bd2_s, b01_t (show (0 : Int32) ≤ nI p ∧ nI p ≤ nI (ln - 1) from in_rng (a := 0) (by omega) (by omega) (by omega)), if_neg one_ne, rd_nI (by omega) (by decide), bs_s, (h3 p hp).2, (sb_facts (cs p) (h3 p hp).1).1]
theorem p_byteEnd {N n ln : Nat} {cs : Nat → Nat} {S : St} (h : TpC ln cs S) : f_X3_byteAt N n S (nI ln) = some (-1, S) := by
  obtain ⟨h1, h2, h3⟩ := h
  unfold f_X3_byteAt
  rw [h2, p_within, bd2_s, b01_f, if_pos rfl]
  rintro ⟨-, h4⟩
  rw [i_le, show nI ln - 1 = nI ln - nI 1 from rfl, sub_int (by omega) (by decide), nI_int (by omega)] at h4
  omega
/-- how far a row of likes goes -/
def run (P : Nat → Bool) : Nat → Nat → Nat
  | 0, p => p
  | m + 1, p => if P p then run P m (p + 1) else p
theorem run_spec (P : Nat → Bool) : ∀ m p, p ≤ run P m p ∧ run P m p ≤ p + m ∧ (∀ j, p ≤ j → j < run P m p → P j = true) ∧ (run P m p < p + m → P (run P m p) = false) := by
  intro m
  induction m with
  | zero => intro p; exact ⟨Nat.le_refl _, Nat.le_refl _, fun j h1 h2 => absurd h2 (by simp only [run]; omega), fun h => absurd h (by simp only [run]; omega)⟩
  | succ m ih =>
    intro p
    simp only [run]
    by_cases h : P p = true
    · rw [if_pos h]
      obtain ⟨a, b, c, d⟩ := ih (p + 1)
      refine ⟨by omega, by omega, fun j h1 h2 => ?_, fun h2 => d (by omega)⟩
      by_cases e : j = p
      · rw [e]; exact h
      · exact c j (by omega) h2
    · rw [if_neg h]
      exact ⟨Nat.le_refl _, by omega, fun j h1 h2 => absurd h2 (by omega), fun _ => by simpa using h⟩
def runE (cs : Nat → Nat) (ln : Nat) (F : Nat → Bool) (p : Nat) : Nat := run (fun j => F (cs j)) (ln - p) p
theorem runE_spec (cs : Nat → Nat) {ln : Nat} (F : Nat → Bool) {p : Nat} (hp : p ≤ ln) : p ≤ runE cs ln F p ∧ runE cs ln F p ≤ ln ∧ (∀ j, p ≤ j → j < runE cs ln F p → F (cs j) = true) ∧ (runE cs ln F p < ln → F (cs (runE cs ln F p)) = false) := by
  obtain ⟨a, b, c, d⟩ := run_spec (fun j => F (cs j)) (ln - p) p
  unfold runE
  exact ⟨a, by omega, c, fun h => d (by omega)⟩
theorem runE_pos {cs : Nat → Nat} {ln : Nat} {F : Nat → Bool} {p : Nat} (hp : p < ln) (h : F (cs p) = true) : p < runE cs ln F p := by
  unfold runE
  obtain ⟨m, hm⟩ : ∃ m, ln - p = m + 1 := ⟨ln - p - 1, by omega⟩
  rw [hm]
  simp only [run]
  rw [if_pos h]
  have := (run_spec (fun j => F (cs j)) m (p + 1)).1
  omega
def isS (c : Nat) : Bool := Nat.beq c 32
/-- the number a row of digits tells, as the reference holds it -/
def dgv (cs : Nat → Nat) (p : Nat) : Nat → Nat
  | 0 => 0
  | j + 1 => if dgv cs p j ≤ 99999 then 10 * dgv cs p j + cs (p + j) - 48 else dgv cs p j
theorem dgv_le {cs : Nat → Nat} {p e : Nat} (h : ∀ j, p ≤ j → j < e → 48 ≤ cs j ∧ cs j ≤ 57) : ∀ j, p + j ≤ e → dgv cs p j ≤ 1000000 := by
  intro j
  induction j with
  | zero => intro _; exact Nat.zero_le _
  | succ j ih =>
    intro hj
    have := ih (by omega)
    have h2 := h (p + j) (by omega) (by omega)
    simp only [dgv]
    split <;> omega
def wdv (cs : Nat → Nat) (p : Nat) : Nat → Nat
  | 0 => 0
  | j + 1 => if 8 ≤ j then wdv cs p j else 64 * wdv cs p j + cs (p + j) - 64
theorem wdv_le {cs : Nat → Nat} {p e : Nat} (h : ∀ j, p ≤ j → j < e → 65 ≤ cs j ∧ cs j ≤ 122) : ∀ j, p + j ≤ e → wdv cs p j < 64 ^ (if j ≤ 8 then j else 8) := by
  intro j
  induction j with
  | zero => intro _; exact Nat.one_pos
  | succ j ih =>
    intro hj
    have := ih (by omega)
    have h2 := h (p + j) (by omega) (by omega)
    simp only [wdv]
    by_cases h8 : 8 ≤ j
    · rw [if_pos h8, if_neg (by omega)]
      by_cases h9 : j = 8
      · subst h9; simpa using this
      · rw [if_neg (by omega)] at this; exact this
    · rw [if_neg h8, if_pos (by omega), Nat.pow_succ]
      rw [if_pos (by omega)] at this
      omega
def wTl (j : Nat) : Nat := if j = 0 then 116 else if j = 1 then 111 else 108
def wAg (j : Nat) : Nat := if j = 0 then 97 else if j = 1 then 103 else if j = 2 then 97 else if j = 3 then 105 else 110
def isT (cs : Nat → Nat) (p e : Nat) : Bool := @decide (e = p + 4 ∧ ∀ j, j < 4 → cs (p + j) = wTl j) (@instDecidableAnd _ _ _ (Nat.decidableBallLT 4 (fun j _ => cs (p + j) = wTl j)))
def isA (cs : Nat → Nat) (p e : Nat) : Bool := @decide (e = p + 5 ∧ ∀ j, j < 5 → cs (p + j) = wAg j) (@instDecidableAnd _ _ _ (Nat.decidableBallLT 5 (fun j _ => cs (p + j) = wAg j)))
/-- the next token from p: kind (0 end, 1 toll, 2 again, 3 number, 4 semicolon, 5 unfit), start, end, value -/
def tkS (cs : Nat → Nat) (ln p : Nat) : Nat := runE cs ln isS p
def tkQ (cs : Nat → Nat) (ln p : Nat) : Nat :=
  if tkS cs ln p < ln then
    if isD (cs (tkS cs ln p)) then runE cs ln isD (tkS cs ln p)
    else if isL (cs (tkS cs ln p)) then runE cs ln isL (tkS cs ln p)
    else tkS cs ln p + 1
  else ln
def tkK (cs : Nat → Nat) (ln p : Nat) : Nat :=
  if tkS cs ln p < ln then
    if isD (cs (tkS cs ln p)) then 3
    else if isL (cs (tkS cs ln p)) then (if isT cs (tkS cs ln p) (tkQ cs ln p) then 1 else if isA cs (tkS cs ln p) (tkQ cs ln p) then 2 else 5)
    else if cs (tkS cs ln p) = 59 then 4 else 5
  else 0
def tkV (cs : Nat → Nat) (ln p : Nat) : Nat := dgv cs (tkS cs ln p) (tkQ cs ln p - tkS cs ln p)
theorem tk_spec (cs : Nat → Nat) {ln p : Nat} (hp : p ≤ ln) : p ≤ tkS cs ln p ∧ tkS cs ln p ≤ ln ∧ tkQ cs ln p ≤ ln ∧ tkS cs ln p ≤ tkQ cs ln p ∧ (tkK cs ln p ≠ 0 → tkS cs ln p < tkQ cs ln p) := by
  obtain ⟨a, b, -, -⟩ := runE_spec cs isS hp
  refine ⟨a, b, ?_⟩
  unfold tkK tkQ
  by_cases h : tkS cs ln p < ln
  · rw [if_pos h]
    by_cases h2 : isD (cs (tkS cs ln p)) = true
    · rw [if_pos h2]
      have := runE_spec cs isD b
      have h3 := runE_pos (F := isD) h h2
      exact ⟨this.2.1, this.1, fun _ => h3⟩
    · rw [if_neg h2]
      by_cases h3 : isL (cs (tkS cs ln p)) = true
      · rw [if_pos h3]
        have := runE_spec cs isL b
        have h4 := runE_pos (F := isL) h h3
        exact ⟨this.2.1, this.1, fun _ => h4⟩
      · rw [if_neg h3]
        exact ⟨by omega, by omega, fun _ => by omega⟩
  · rw [if_neg h, if_neg h]
    exact ⟨Nat.le_refl _, b, fun h2 => absurd rfl h2⟩
