/-! ===== the invariant holds at first; the room ===== -/
theorem J_0 : J 0 s00 := by
  have zR : nR s00 = 0 := rfl
  have zH : nH s00 = 0 := rfl
  have zM : nM s00 = 0 := rfl
  have zA : nA s00 = 0 := rfl
  have zG : nG s00 = 0 := rfl
  refine ⟨⟨rfl, by decide, by decide⟩, ⟨rfl, by decide, by decide, fun k hk => absurd hk (by rw [zH]; omega)⟩, ⟨rfl, by decide, by decide, fun i hi => absurd hi (by rw [zR]; omega)⟩, ?_, ⟨rfl, by decide, by decide, fun k hk => absurd hk (by rw [zM]; omega), fun j k _ hk => absurd hk (by rw [zM]; omega)⟩, ⟨rfl, by decide, by decide, fun k _ => by show (0 : Int32) = 0 &&& 255; decide⟩, fun k _ => ⟨rfl, by show 0 ≤ (0 : Int32).toInt; decide, by show (0 : Int32).toInt ≤ 1073741823; decide⟩, fun i _ => ⟨rfl, Or.inl rfl⟩, ⟨rfl, by decide, by decide, fun k hk => absurd hk (by rw [zA]; omega)⟩, ⟨rfl, by decide, by decide, fun k hk => absurd hk (by rw [zG]; omega)⟩, ⟨rfl, rfl⟩, ⟨fun i _ _ => rfl, fun k _ => rfl, fun k _ => rfl⟩, ⟨rfl, rfl, by decide, Or.inl ⟨rfl, rfl⟩, rfl, rfl, by decide, Or.inl ⟨rfl, rfl⟩⟩, ⟨fun a _ => ⟨by show 0 ≤ (0 : Int32).toInt; decide, by show (0 : Int32).toInt ≤ 64; decide⟩, fun i _ => Or.inl rfl⟩, ⟨Nat.le_refl _, Nat.le_refl _⟩⟩
  intro k hk
  exact absurd hk (by show ¬ k < 0; omega)
theorem hp_len {s : ST} : (hpS s).length = s.2.2.2.2.length + 118 := rfl
