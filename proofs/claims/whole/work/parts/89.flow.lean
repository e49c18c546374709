/-! ===== the class's path is filled: what a fill changes ===== -/
def xr (e : Nat) : Nat := if e % 2 = 0 then e + 1 else e - 1
theorem xr_e {e : Nat} (h : e % 2 = 0) : xr e = e + 1 := if_pos h
theorem xr_o {e : Nat} (h : ¬ e % 2 = 0) : xr e = e - 1 := if_neg h
theorem xr_ne {e : Nat} : ¬ xr e = e := by
  by_cases h : e % 2 = 0
  · rw [xr_e h]; omega
  · rw [xr_o h]; omega
theorem xr_lt {e m : Nat} (h : e < 2 * m) : xr e < 2 * m := by
  by_cases c : e % 2 = 0
  · rw [xr_e c]; omega
  · rw [xr_o c]; omega
theorem sE_xr {F T : Nat → Nat} {e : Nat} : sE F T (xr e) = sE T F e := by
  unfold sE
  by_cases c : e % 2 = 0
  · rw [xr_e c, if_neg (show ¬ (e + 1) % 2 = 0 by omega), if_pos c, show (e + 1) / 2 = e / 2 by omega]
  · rw [xr_o c, if_pos (show (e - 1) % 2 = 0 by omega), if_neg c, show (e - 1) / 2 = e / 2 by omega]
/-- the flow behind a fill of the half edge e by d -/
def pfl (p : Nat → Int) (e : Nat) (d : Int) : Nat → Int := uf p (e / 2) (if e % 2 = 0 then p (e / 2) + d else p (e / 2) - d)
theorem pot_up {m k : Nat} {F T : Nat → Nat} {p t : Nat → Int} {x : Int} (hk : k < m) : pot m F T (uf p k x) t = pot m F T p t + (x - p k) * (t (T k) - t (F k)) := by
  unfold pot
  rw [zs_one (g := fun j => p j * (t (T j) - t (F j))) m hk (fun j _ hj => by show uf p k x j * _ = _; rw [uf_n hj])]
  show _ - p k * (t (T k) - t (F k)) + uf p k x k * (t (T k) - t (F k)) = _
  rw [uf_s, Int.sub_mul]
  omega
theorem pot_pfl {m e : Nat} {F T : Nat → Nat} {p t : Nat → Int} {d : Int} (he : e < 2 * m) : pot m F T (pfl p e d) t = pot m F T p t + d * (t (sE T F e) - t (sE F T e)) := by
  unfold pfl sE
  rw [pot_up (by omega)]
  by_cases c : e % 2 = 0
  · rw [if_pos c, if_pos c, if_pos c, show p (e / 2) + d - p (e / 2) = d by omega]
  · rw [if_neg c, if_neg c, if_neg c, show p (e / 2) - d - p (e / 2) = -d by omega, Int.neg_mul, ← Int.mul_neg, Int.neg_sub]
theorem wE_pfl {C p : Nat → Int} {e j : Nat} {d : Int} : wE C (pfl p e d) j = uf (uf (wE C p) e (wE C p e - d)) (xr e) (uf (wE C p) e (wE C p e - d) (xr e) + d) j := by
  rw [uf_n (f := wE C p) xr_ne]
  by_cases c : e % 2 = 0
  · rw [xr_e c]
    by_cases a : j = e + 1
    · rw [a, uf_s]
      unfold wE pfl
      rw [if_neg (show ¬ (e + 1) % 2 = 0 by omega), if_neg (show ¬ (e + 1) % 2 = 0 by omega), show (e + 1) / 2 = e / 2 by omega, uf_s, if_pos c]
    · rw [uf_n a]
      by_cases b : j = e
      · rw [b, uf_s]
        unfold wE pfl
        rw [if_pos c, if_pos c, uf_s, if_pos c]
        omega
      · rw [uf_n b]
        unfold wE pfl
        rw [uf_n (by omega)]
  · rw [xr_o c]
    by_cases a : j = e - 1
    · rw [a, uf_s]
      unfold wE pfl
      rw [if_pos (show (e - 1) % 2 = 0 by omega), if_pos (show (e - 1) % 2 = 0 by omega), show (e - 1) / 2 = e / 2 by omega, uf_s, if_neg c]
      omega
    · rw [uf_n a]
      by_cases b : j = e
      · rw [b, uf_s]
        unfold wE pfl
        rw [if_neg c, if_neg c, uf_s, if_neg c]
      · rw [uf_n b]
        unfold wE pfl
        rw [uf_n (by omega)]
theorem xr_i : ∀ e : Fin 624, nI e.val ^^^ 1 = nI (xr e.val) := by decide +kernel
/-- the places of a path, from i back to 0 -/
def pth (pa : Nat → Nat) : Nat → Nat → List Nat
  | 0, _ => []
  | f + 1, i => if i = 0 then [] else i :: pth pa f (pa i)
