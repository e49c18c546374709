/-! ===== the class's path is filled: the least room ===== -/
theorem pth_0 {pa : Nat → Nat} {f : Nat} : pth pa f 0 = [] := by
  cases f with
  | zero => rfl
  | succ f => exact if_pos rfl
theorem xr_I {e : Nat} (h : e < 624) : nI e ^^^ 1 = nI (xr e) := xr_i ⟨e, h⟩
theorem w50v {s : ST} {n E e : Nat} {S G : Nat → Nat} {W : Nat → Int} {K : Int32 → ST → Prop} (hA : HA s n E S G W) (hn : n ≤ 163) (hE : E ≤ 624) (he : e < E) (hx : xr e < E ∧ G (xr e) = S e ∧ S e < n) : w_50 (nI e) s K = K (s.2.1 44 (S e)) s := by
  unfold w_50
  rw [xr_I (by omega), nI_clamp (show xr e < 2 ^ 31 by omega), (hA.2.2.1 (xr e) hx.1).1, hx.2.1, nI_clamp (show S e < 2 ^ 31 by omega)]
  have p1 : pin (nI (xr e)) 624 = true := pin_nI (by omega) (by omega)
  have p2 : pin (nI (S e)) 163 = true := pin_nI (by omega) (by omega)
  rw [p1, p2]
  exact propext ⟨fun h => h.2.2, fun h => ⟨rfl, rfl, h⟩⟩
theorem l_49a {s : ST} {n E L : Nat} {S G : Nat → Nat} {W : Nat → Int} {q ed pa : Nat → Nat} {X : Int32 → ST → Prop} {K : Int32 → ST → Prop} (hA : HA s n E S G W) (hn : n ≤ 163) (hE : E ≤ 624) (b : BI s n E S G W q ed pa L) (hx : ∀ e, e < E → xr e < E ∧ G (xr e) = S e ∧ S e < n) : ∀ (N f i k : Nat) (a : Int32), i ≤ f → i < L → i < N → k + i ≤ 162 → 0 < a.toInt → (∀ a1 : Int32, 0 < a1.toInt → a1.toInt ≤ a.toInt → (∀ j, j ∈ pth pa f i → a1.toInt ≤ W (ed j)) → X a1 s) → w_49_L9 N a (s.2.1 44 (q i)) (nI k) s X K := by
  intro N
  induction N with
  | zero => intro f i k a _ _ z; omega
  | succ N ih =>
    intro f i k a hf hi hN hk ha hX
    have e3 : s.1 3711 = nI E := hA.2.1
    have e3s : (s.1 3711 - 1).toInt = (E : Int) - 1 := by rw [e3]; exact nI_s1t (by omega)
    rw [w_49_L9, show (163 : Int32) = nI 163 from rfl, nI_leI (by omega) (by omega)]
    unfold w_51
    simp only [e_181, t_181, l_0, e3s]
    refine br_f (by omega) ?_
    by_cases c : i = 0
    · rw [c, b.2.1, b.2.2.2.2.1]
      refine br_t (fun z => absurd z.1 (by decide)) (hX a ha (by omega) (fun j hj => ?_))
      rw [c, pth_0] at hj
      exact absurd hj List.not_mem_nil
    · obtain ⟨b1, b2, b3, b4, b5, b6⟩ := b.2.2.2.2.2.2 i (by omega) hi
      obtain ⟨f, rfl⟩ : ∃ g, f = g + 1 := ⟨f - 1, by omega⟩
      rw [b3, nI_toInt (show ed i < 2 ^ 31 by omega), w50v hA hn hE b1 (hx _ b1), nI_clamp (show ed i < 2 ^ 31 by omega), b5, nI_1]
      refine br_f (fun z => z ⟨by omega, by omega⟩) ⟨pin_nI (by omega) (by omega), ?_⟩
      have g2 := (hA.2.2.1 (ed i) b1).2.1
      refine ih f (pa i) (k + 1) _ (by omega) (by omega) (by omega) (by omega) ?_ ?_
      · split
        · rw [g2]; exact b6
        · exact ha
      · intro a1 h1 h2 h3
        have h4 : a1.toInt ≤ W (ed i) ∧ a1.toInt ≤ a.toInt := by
          by_cases z : s.2.1 43 (ed i) < a
          · rw [if_pos z, g2] at h2; rw [i_lt, g2] at z; omega
          · rw [if_neg z] at h2; rw [i_lt, g2] at z; omega
        refine hX a1 h1 h4.2 (fun j hj => ?_)
        have ep : pth pa (f + 1) i = i :: pth pa f (pa i) := if_neg c
        rw [ep, List.mem_cons] at hj
        rcases hj with rfl | hj
        · exact h4.1
        · exact h3 j hj
