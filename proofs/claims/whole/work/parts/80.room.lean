/-! ===== the room ===== -/
theorem psl_hp {s : ST} : psl (hpS s) ≤ psl s.2.2.2.2 + 134000 := by
  unfold psl hpS hp
  simp only [List.map_cons, List.sum_cons, psz, List.length_cons, List.length_nil]
  omega
theorem J_room {t : Nat} {s : ST} (ht : t ≤ 512) (h : J t s) : (hpS s).length ≤ 600000 ∧ psl (hpS s) ≤ 7302250 := by
  obtain ⟨hnow, hhou, hrow, hord, hmen, htap, hthi, hjud, hask, hrea, hsca, hvie, hrul, hrnd, hroo⟩ := h
  have h1 := hroo.1
  have h2 := hroo.2
  have h3 := psl_hp (s := s)
  rw [hp_len]
  exact ⟨by omega, by omega⟩
