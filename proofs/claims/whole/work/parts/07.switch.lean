theorem g_ite {α : Type} {P G : Prop} {dc : Decidable P} {a b : Option α} {res : α} (hf : @ite _ P dc a b = some res) (ka : P → a = some res → G) (kb : ¬ P → b = some res → G) : G := by
  by_cases h : P
  · rw [if_pos h] at hf; exact ka h hf
  · rw [if_neg h] at hf; exact kb h hf
theorem sw_ne {x v : Int32} {k : Int} (h : ¬ x = v) (hv : v.toInt = k) : x.toInt ≠ k := fun e => h (Int32.toInt_inj.mp (by rw [e, hv]))
theorem sw_out2 {x : Int32} (h0 : ¬ x = 0) (h1 : ¬ x = 1) (h2 : ¬ x = 2) : x.toInt < 0 ∨ 2 < x.toInt := by
  have a0 := sw_ne (k := 0) h0 rfl
  have a1 := sw_ne (k := 1) h1 rfl
  have a2 := sw_ne (k := 2) h2 rfl
  omega
theorem sw_out6 {x : Int32} (h0 : ¬ x = 0) (h1 : ¬ x = 1) (h2 : ¬ x = 2) (h3 : ¬ x = 3) (h4 : ¬ x = 4) (h5 : ¬ x = 5) (h6 : ¬ x = 6) : x.toInt < 0 ∨ 6 < x.toInt := by
  have a0 := sw_ne (k := 0) h0 rfl
  have a1 := sw_ne (k := 1) h1 rfl
  have a2 := sw_ne (k := 2) h2 rfl
  have a3 := sw_ne (k := 3) h3 rfl
  have a4 := sw_ne (k := 4) h4 rfl
  have a5 := sw_ne (k := 5) h5 rfl
  have a6 := sw_ne (k := 6) h6 rfl
  omega
