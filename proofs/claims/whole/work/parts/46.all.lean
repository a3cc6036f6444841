-- EVERY CALL, AND THE START
theorem sp_all {N : Nat} (hN : 4000 < N) : SpAll N RA := by
  refine ⟨?_, ?_, ?_, ?_, ?_, ?_, ?_, ?_, ?_, ?_, ?_, ?_, ?_, ?_, ?_, ?_, ?_, ?_, ?_, ?_, ?_, ?_, ?_, ?_⟩
  · intro n S T a1 a2 a3 h
    obtain ⟨r, S2, T2, e1, e2, hx, k1, k2⟩ := d_hull (N := N) a1 a2 a3 h.1 h.2.1
    exact ⟨r, S2, T2, e1, e2, RA_D h hx k1 k2⟩
  · intro n S T a1 a2 h
    obtain ⟨r, S2, T2, e1, e2, hx, k1, k2⟩ := d_pull (N := N) a1 a2 h.2.1
    exact ⟨r, S2, T2, e1, e2, RA_D h hx k1 k2⟩
  · intro n S T a1 h
    obtain ⟨r, e1, e2⟩ := d_drags (N := N) a1 (by omega) h.1 h.2.1
    exact ⟨r, S, T, e1, e2, h⟩
  · intro n S T a1 a2 h
    obtain ⟨r, S2, T2, e1, e2, hx, k1, k2⟩ := d_cart (N := N) a1 a2 h.2.1
    exact ⟨r, S2, T2, e1, e2, RA_D h hx k1 k2⟩
  · intro n S T h
    obtain ⟨r, S2, T2, e1, e2, hx, k1, k2⟩ := d_clear (N := N) h.2.1
    exact ⟨r, S2, T2, e1, e2, RA_D h hx k1 k2⟩
  · intro n S T a1 a2 h
    obtain ⟨r, S2, T2, e1, e2, hx, k1, k2⟩ := d_pressed (N := N) a1 a2 (by omega) h.1 h.2.1
    exact ⟨r, S2, T2, e1, e2, RA_D h hx k1 k2⟩
  · intro n S T a1 h
    obtain ⟨r, S2, T2, e1, e2, hx, k1, k2⟩ := d_worst (N := N) a1 (by omega) h.1 h.2.1
    exact ⟨r, S2, T2, e1, e2, RA_D h hx k1 k2⟩
  · intro n S T h
    obtain ⟨r, S2, T2, e1, e2, hx, k1, k2⟩ := d_gap (N := N) (by omega) h.1 h.2.1
    exact ⟨r, S2, T2, e1, e2, RA_D h hx k1 k2⟩
  · intro n S T a1 h
    obtain ⟨r, S2, T2, e1, e2, hx, k1, k2⟩ := d_ship (N := N) (n := n) a1 (by omega) h.2.2.1
    exact ⟨r, S2, T2, e1, e2, RA_V h hx k1 k2⟩
  · intro n S T a1 h
    obtain ⟨r, S2, T2, e1, e2, hx, k1, k2⟩ := d_crosser (N := N) (n := n) a1 (by omega) h.2.2.1
    exact ⟨r, S2, T2, e1, e2, RA_V h hx k1 k2⟩
  · intro n S T a1 a2 a3 a4 h
    obtain ⟨r, S2, T2, e1, e2, hx, k1, k2⟩ := d_times (N := N) (n := n) a1 a2 a3 a4 h.2.2.1
    exact ⟨r, S2, T2, e1, e2, RA_V h hx k1 k2⟩
  · intro n S T h
    obtain ⟨r, S2, T2, e1, e2, hx, k1, k2⟩ := d_waits (N := N) (n := n) (by omega) h.2.2.1
    exact ⟨r, S2, T2, e1, e2, RA_V h hx k1 k2⟩
  · intro n S T a1 a2 h
    obtain ⟨r, S2, T2, e1, e2, hx, k1, k2⟩ := d_opening (N := N) (n := n) a1 a2 (by omega) h.2.2.1
    exact ⟨r, S2, T2, e1, e2, RA_V h hx k1 k2⟩
  · intro n S T h
    obtain ⟨r, S2, T2, e1, e2, hx, k1, k2⟩ := d_atOnce (N := N) (n := n) (by omega) h.2.2.1
    exact ⟨r, S2, T2, e1, e2, RA_V h hx k1 k2⟩
  · intro n S T a1 a2 a3 h
    obtain ⟨r, S2, T2, e1, e2, hx, k1, k2⟩ := d_level (N := N) (n := n) a1 a2 a3 h.2.2.2.1
    exact ⟨r, S2, T2, e1, e2, RA_S h hx k1 k2⟩
  · intro n S T a1 a2 h
    obtain ⟨r, S2, T2, e1, e2, hx, k1, k2⟩ := d_flood (N := N) (n := n) a1 a2 h.2.2.2.1
    exact ⟨r, S2, T2, e1, e2, RA_S h hx k1 k2⟩
  · intro n S T h
    obtain ⟨r, S2, T2, e1, e2, hx, k1, k2⟩ := d_out (N := N) (n := n) (by omega) h.2.2.2.1
    exact ⟨r, S2, T2, e1, e2, RA_S h hx k1 k2⟩
  · intro n S T a1 a2 h
    obtain ⟨r, S2, T2, e1, e2, hx, k1, k2⟩ := d_outOn (N := N) (n := n) a1 a2 (by omega) h.2.2.2.1
    exact ⟨r, S2, T2, e1, e2, RA_S h hx k1 k2⟩
  · intro n S T a1 a2 a3 a4 a5 h
    obtain ⟨r, S2, T2, e1, e2, hx, k1, k2⟩ := d_feed (N := N) (n := n) a1 a2 a3 a4 a5 (by omega) h.2.2.2.2.1
    exact ⟨r, S2, T2, e1, e2, RA_P h hx k1 k2⟩
  · intro n S T a1 h
    obtain ⟨r, S2, T2, e1, e2, hx, k1, k2⟩ := d_end (N := N) (n := n) a1 h.2.2.2.2.1
    exact ⟨r, S2, T2, e1, e2, RA_P h hx k1 k2⟩
  · intro n S T h
    obtain ⟨r, S2, T2, e1, e2, hx, hy, k1, k2⟩ := d_tolls (N := N) (n := n) (by omega) h.2.2.2.2.1 h.2.2.2.2.2
    exact ⟨r, S2, T2, e1, e2, RA_T h hx hy k1 k2⟩
  · intro n S T a1 h
    obtain ⟨r, e1, e2⟩ := d_fault (N := N) (n := n) a1 h.2.2.2.2.2
    exact ⟨r, S, T, e1, e2, h⟩
  · intro n S T a1 a2 a3 h
    obtain ⟨r, S2, T2, e1, e2, hx, k1, k2⟩ := d_pass (N := N) (n := n) a1 a2 a3 h.2.2.2.2.2
    exact ⟨r, S2, T2, e1, e2, RA_G h hx k1 k2⟩
  · intro n S T a1 h
    obtain ⟨r, e1, e2⟩ := d_about (N := N) a1 h.2.1 h.2.2.1 h.2.2.2.2.1 h.2.2.2.2.2
    exact ⟨r, S, T, e1, e2, h⟩
theorem flA_in {N j : Nat} (v : Int32) (h : j < N) : flA N v j = v := if_pos h
theorem RA_0 (n : Nat) (h1 : 1 ≤ n) (h2 : n ≤ 12) : RA n (SC0 n) (SM0 n) := by
  refine ⟨⟨h1, h2⟩, ?_, ?_, ?_, ?_, ?_⟩
  · refine ⟨fun _ => 100, fun _ => 1, fun _ => 1, 0, ⟨by omega, rfl, rfl, rfl, rfl⟩, fun j hj => ⟨(by decide : 1 ≤ 100), (by decide : 100 ≤ 1000), ?_, ?_⟩, fun j hj => ?_, fun j hj => rfl, fun j hj => absurd hj (by omega), fun j hj => absurd hj (by omega), fun j _ hj => absurd hj (by omega)⟩
    · exact flA_in 100 hj
    · exact flA_in (N := 12) 100 (by omega)
    · exact (flA_in 100 hj).trans (flA_in (N := 12) 100 (show j < 12 by omega)).symm
  · refine ⟨((0, fun _ => 0), (0, fun _ => 0), 3, 2, 3, 2), fun _ => 0, ⟨by decide, fun i j _ hj => absurd hj (Nat.not_lt_zero j), fun i hi => absurd hi (Nat.not_lt_zero i), by decide, fun i hi => absurd hi (Nat.not_lt_zero i), by decide, by decide, by decide, by decide, by decide⟩, ⟨rfl, fun j hj => absurd hj (Nat.not_lt_zero j), fun j hj => ?_, fun t _ => rfl, rfl, fun t _ => rfl, fun t _ => rfl, rfl, rfl, rfl, rfl⟩, ⟨rfl, rfl, fun j hj => absurd hj (Nat.not_lt_zero j), rfl, rfl, rfl, rfl⟩, fun j hj => absurd hj (Nat.not_lt_zero j), Or.inl rfl⟩
    have hj : j ≤ 0 := hj
    rw [show j = 0 by omega]
    rfl
  · refine ⟨bdF ((SC0 n).2 21) ((SC0 n).1 2003), 3, ⟨by decide, by decide, rfl, rfl, rfl⟩, fun d hd => ⟨⟨fun _ => flA_in (N := 60) (-1) hd, fun _ => flA_in (N := 60) (-1) hd⟩, fun z => absurd (flA_in (N := 60) (-1) hd) z⟩, fun d _ => rfl, fun j _ _ => rfl, Or.inl rfl⟩
  · exact ⟨0, fun _ => 0, by decide, rfl, rfl, fun j hj => absurd hj (Nat.not_lt_zero j)⟩
  · refine ⟨⟨rfl, rfl⟩, ⟨rfl, rfl, rfl, by show (0 : Int32) ≤ 0; decide⟩, fun k hk => ?_, fun k hk => ?_, fun k hk => ⟨rfl, Or.inl (flA_in (N := 120) (-1) hk)⟩⟩
    · rcases (show k = 0 ∨ k = 1 ∨ k = 2 ∨ k = 3 ∨ k = 4 ∨ k = 5 by omega) with rfl | rfl | rfl | rfl | rfl | rfl <;> rfl
    · rcases (show k = 0 ∨ k = 1 ∨ k = 2 ∨ k = 3 ∨ k = 4 ∨ k = 5 by omega) with rfl | rfl | rfl | rfl | rfl | rfl <;> rfl
