theorem pk_us {f : Nat → Int32} {k : Nat} {x : Int32} : upd f k x k = x := if_pos rfl
theorem pk_un {f : Nat → Int32} {k j : Nat} {x : Int32} (h : j ≠ k) : upd f k x j = f j := if_neg h
theorem pk_mul (a b : Nat) : nI a * nI b = nI (a * b) := (Int32.ofNat_mul a b).symm
/-- every cell is a number 0 .. m -/
def ip_B (m : Nat) (f : Nat → Int32) : Prop := ∀ j, ∃ n : Nat, n ≤ m ∧ f j = nI n
theorem ip_Bz (m : Nat) : ip_B m (fun _ => 0) := fun _ => ⟨0, Nat.zero_le _, nI_0.symm⟩
theorem ip_Bu {m : Nat} {f : Nat → Int32} (h : ip_B m f) (k : Nat) {x : Int32} (hx : ∃ n : Nat, n ≤ m ∧ x = nI n) : ip_B m (upd f k x) := by
  intro j
  by_cases e : j = k
  · subst e; rw [pk_us]; exact hx
  · rw [pk_un e]; exact h j
theorem ip_B0 {m : Nat} : ∃ n : Nat, n ≤ m ∧ (0 : Int32) = nI n := ⟨0, Nat.zero_le _, nI_0.symm⟩
/-- both sides hold the same numbers and the same cells -/
def i_Rel (_ : Nat) (u : SX) (v : SY) : Prop := ∃ (c e : Nat) (cl rk ru g : Nat → Int32), c ≤ 8 ∧ e ≤ 1500 ∧ ip_B 150 cl ∧ ip_B 3 rk ∧ ip_B 3 ru ∧ ip_B 150 g ∧ u = (nI c, nI e, cl, rk, ru, g) ∧ v = (nI c, nI e, cl, rk, ru, g)
theorem i_up {k : Nat} {u : SX} {v : SY} (h : i_Rel k u v) : i_Rel (k + 3) u v := h
theorem ip_R {k c e : Nat} {cl rk ru g : Nat → Int32} (hc : c ≤ 8) (he : e ≤ 1500) (h1 : ip_B 150 cl) (h2 : ip_B 3 rk) (h3 : ip_B 3 ru) (h4 : ip_B 150 g) : i_Rel k (nI c, nI e, cl, rk, ru, g) (nI c, nI e, cl, rk, ru, g) := ⟨c, e, cl, rk, ru, g, hc, he, h1, h2, h3, h4, rfl, rfl⟩
theorem ip_u0 (k : Nat) : upd (fun _ => 0) k 0 = fun _ => 0 := by
  funext j
  by_cases e : j = k
  · subst e; exact pk_us
  · exact pk_un e
theorem i_vc0 : wpX_init (fun u => wpY_init (fun v => i_Rel 0 u v)) := by
  refine ⟨5, ?_⟩
  refine br_f (by decide) ⟨vp_in_iff.mpr (by decide), nm_r (ip_u0 _) (nm_r (e' := 1) (by decide) ?_)⟩
  refine br_f (by decide) ⟨vp_in_iff.mpr (by decide), nm_r (ip_u0 _) (nm_r (e' := 2) (by decide) ?_)⟩
  refine br_f (by decide) ⟨vp_in_iff.mpr (by decide), nm_r (ip_u0 _) (nm_r (e' := 3) (by decide) ?_)⟩
  refine br_f (by decide) ⟨vp_in_iff.mpr (by decide), nm_r (ip_u0 _) (nm_r (e' := 4) (by decide) ?_)⟩
  refine br_t (by decide) ?_
  exact ip_R (k := 0) (c := 0) (e := 0) (by omega) (by omega) (ip_Bz _) (ip_Bz _) (ip_Bz _) (ip_Bz _)
theorem ip_m1 {t : Nat} (h : t < 2 ^ 31) : ¬ nI t = -1 := by
  intro e
  have := nI_pos' h
  rw [e] at this
  exact absurd this (by decide)
theorem ip_10 : ¬ (1 : Int32) = 0 := by decide
theorem ip_n0 : ¬ (0 : Int32) ≤ -1 := by decide
theorem ip_if (P : Prop) : ∃ b : Int32, ∀ post : Int32 → Prop, post b → (P → post 0) ∧ (¬ P → post 1) := by
  by_cases h : P
  · exact ⟨0, fun post hp => br_t h hp⟩
  · exact ⟨1, fun post hp => br_f h hp⟩
theorem ip_half {x y : Int32} (hx : ∃ n : Nat, n ≤ 150 ∧ x = nI n) (hy : ∃ n : Nat, n ≤ 150 ∧ y = nI n) (h : ¬ x ≤ 2 * y) : ¬ x ≤ y := by
  obtain ⟨a, ha, rfl⟩ := hx
  obtain ⟨b, hb, rfl⟩ := hy
  have e : (2 : Int32) * nI b = nI (2 * b) := pk_mul 2 b
  rw [e, nI_leI (by omega) (by omega)] at h
  rw [nI_leI (by omega) (by omega)]
  omega
theorem ip_ne {i c : Nat} (hc : c ≤ 8) (h : i < c) : ¬ nI c ≤ nI i := nI_ge h (by omega)
theorem ip_n8 {i c : Nat} (hc : c ≤ 8) (h : i < c) : ¬ (8 : Int32) ≤ nI i := nI_ge (b := 8) (by omega) (by omega)
theorem ip_v8 {i c : Nat} (hc : c ≤ 8) (h : i < c) : vp_in (nI i) 8 := vp_in_nI (by omega) (by omega)
