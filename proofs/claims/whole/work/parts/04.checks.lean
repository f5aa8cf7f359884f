theorem pk_sub {a b : Nat} (h : b ≤ a) : nI a - nI b = nI (a - b) := by
  obtain ⟨c, rfl⟩ : ∃ c, a = c + b := ⟨a - b, by omega⟩
  rw [← nI_add, Int32.add_sub_cancel, Nat.add_sub_cancel]
theorem ip_est {e : Nat} (he : e ≤ 1500) {v : Int32} (h1 : ¬ v < -nI e) (h2 : v ≤ 1500 - nI e) : ∃ n : Nat, n ≤ 1500 ∧ nI e + v = nI n := by
  have a1 : (-nI e).toInt = -(e : Int) := by
    rw [Int32.toInt_neg, nI_toInt (by omega)]
    exact Int.bmod_eq_of_le (by omega) (by omega)
  have a2 : (1500 : Int32) - nI e = nI (1500 - e) := pk_sub (a := 1500) he
  rw [Int32.lt_iff_toInt_lt, a1] at h1
  rw [a2, Int32.le_iff_toInt_le, nI_toInt (by omega)] at h2
  refine ⟨((e : Int) + v.toInt).toNat, by omega, ?_⟩
  apply Int32.toInt_inj.mp
  rw [Int32.toInt_add, nI_toInt (by omega), nI_toInt (by omega), Int.bmod_eq_of_le (by omega) (by omega)]
  omega
/-- a number is below 0, above m, or one of 0 .. m -/
theorem ip_rng (v : Int32) (m : Nat) (hm : m < 2 ^ 30) : v < 0 ∨ (¬ v < 0 ∧ ¬ v ≤ nI m ∧ nI m < v ∧ nI (m + 1) ≤ v) ∨ ∃ n : Nat, n ≤ m ∧ v = nI n ∧ ¬ nI n < 0 ∧ nI n ≤ nI m ∧ ¬ nI m < nI n ∧ ¬ nI (m + 1) ≤ nI n := by
  by_cases h0 : v < 0
  · exact Or.inl h0
  · obtain ⟨j, hj, rfl⟩ := nI_of h0
    by_cases h : j ≤ m
    · exact Or.inr (Or.inr ⟨j, h, rfl, h0, nI_le h (by omega), nI_nlt h (by omega), nI_ge (by omega) (by omega)⟩)
    · exact Or.inr (Or.inl ⟨h0, nI_ge (by omega) hj, nI_lt (by omega) hj, nI_le (by omega) hj⟩)
section
variable {c : Nat} {E : Int32} {cl rk ru g : Nat → Int32}
theorem ip_cred (hc : c ≤ 8) (v : Int32) : ((∀ post : Int32 → Prop, post 0 → wpX_isCreditor post (nI c, E, cl, rk, ru, g) v) ∧ (∀ post : Int32 → Prop, post 1 → wpY_bad post (nI c, E, cl, rk, ru, g) v)) ∨ (∃ j : Nat, j < c ∧ v = nI j ∧ (∀ post : Int32 → Prop, post 1 → wpX_isCreditor post (nI c, E, cl, rk, ru, g) v) ∧ (∀ post : Int32 → Prop, post 0 → wpY_bad post (nI c, E, cl, rk, ru, g) v)) := by
  by_cases h0 : v < 0
  · exact Or.inl ⟨fun _ hp => br_t h0 hp, fun _ hp => br_t h0 hp⟩
  · obtain ⟨j, hj, rfl⟩ := nI_of h0
    by_cases h : j < c
    · exact Or.inr ⟨j, h, rfl, fun _ hp => br_f h0 (br_f (ip_ne hc h) hp), fun _ hp => br_f h0 (br_f (ip_ne hc h) (br_t (nI_lt (b := 8) (by omega) (by omega)) hp))⟩
    · have l : nI c ≤ nI j := nI_le (by omega) hj
      exact Or.inl ⟨fun _ hp => br_f h0 (br_t l hp), fun _ hp => br_f h0 (br_t l hp)⟩
theorem ip_cm (v : Int32) : ((∀ post : Int32 → Prop, post 0 → wpX_isClaim post v) ∧ (∀ post : Int32 → Prop, post 1 → wpY_badClaim post (nI c, E, cl, rk, ru, g) v)) ∨ (∃ n : Nat, n ≤ 150 ∧ v = nI n ∧ (∀ post : Int32 → Prop, post 1 → wpX_isClaim post v) ∧ (∀ post : Int32 → Prop, post 0 → wpY_badClaim post (nI c, E, cl, rk, ru, g) v)) := by
  rcases ip_rng v 150 (by omega) with h | ⟨h0, h1, h2, h3⟩ | ⟨n, hn, rfl, h0, h1, h2, h3⟩
  · exact Or.inl ⟨fun _ hp => br_t h hp, fun _ hp => br_t h hp⟩
  · exact Or.inl ⟨fun _ hp => br_f h0 (br_t h2 hp), fun _ hp => br_f h0 (br_f h1 hp)⟩
  · exact Or.inr ⟨n, hn, rfl, fun _ hp => br_f h0 (br_f h2 hp), fun _ hp => br_f h0 (br_t h1 hp)⟩
theorem ip_rk (v : Int32) : ((∀ post : Int32 → Prop, post 0 → wpX_isRank post v) ∧ (∀ post : Int32 → Prop, post 1 → wpY_badRank post (nI c, E, cl, rk, ru, g) v)) ∨ (∃ n : Nat, n ≤ 3 ∧ v = nI n ∧ (∀ post : Int32 → Prop, post 1 → wpX_isRank post v) ∧ (∀ post : Int32 → Prop, post 0 → wpY_badRank post (nI c, E, cl, rk, ru, g) v)) := by
  rcases ip_rng v 3 (by omega) with h | ⟨h0, h1, h2, h3⟩ | ⟨n, hn, rfl, h0, h1, h2, h3⟩
  · exact Or.inl ⟨fun _ hp => br_t h hp, fun _ hp => br_t h hp⟩
  · exact Or.inl ⟨fun _ hp => br_f h0 (br_t h3 hp), fun _ hp => br_f h0 (br_f h1 hp)⟩
  · exact Or.inr ⟨n, hn, rfl, fun _ hp => br_f h0 (br_f h3 hp), fun _ hp => br_f h0 (br_t h1 hp)⟩
theorem ip_rl (v : Int32) : ((∀ post : Int32 → Prop, post 0 → wpX_isRule post v) ∧ (∀ A B : Prop, B → (v < 0 → B) ∧ (¬ v < 0 → (v ≤ 3 → A) ∧ (¬ v ≤ 3 → B)))) ∨ (∃ n : Nat, n ≤ 3 ∧ v = nI n ∧ (∀ post : Int32 → Prop, post 1 → wpX_isRule post v) ∧ (∀ A B : Prop, A → (v < 0 → B) ∧ (¬ v < 0 → (v ≤ 3 → A) ∧ (¬ v ≤ 3 → B)))) := by
  rcases ip_rng v 3 (by omega) with h | ⟨h0, h1, h2, h3⟩ | ⟨n, hn, rfl, h0, h1, h2, h3⟩
  · exact Or.inl ⟨fun _ hp => br_t h hp, fun _ _ hp => br_t h hp⟩
  · exact Or.inl ⟨fun _ hp => br_f h0 (br_t h2 hp), fun _ _ hp => br_f h0 (br_f h1 hp)⟩
  · exact Or.inr ⟨n, hn, rfl, fun _ hp => br_f h0 (br_f h2 hp), fun _ _ hp => br_f h0 (br_t h1 hp)⟩
theorem ip_rem (hc : c ≤ 8) : ∀ (d i : Nat) (cl rk : Nat → Int32), i + 1 + d = c → ip_B 150 cl → ip_B 3 rk → ∃ cl' rk' : Nat → Int32, ip_B 150 cl' ∧ ip_B 3 rk' ∧ (∀ post : Int32 → SX → Prop, post (nI (c - 1)) (nI (c - 1), E, cl', rk', ru, g) → wX_remove_14 post (nI c) E (d + 1) (nI (i + 1)) cl rk ru g) ∧ (∀ post : Int32 → SY → Prop, post (nI (c - 1)) (nI (c - 1), E, cl', rk', ru, g) → wY_remove_12 post (nI c) E (d + 1) (nI i) cl rk ru g) := by
  have hz : ∀ i : Nat, i + 1 ≤ c → nI c - 1 = nI (c - 1) := fun i hi => pk_sub (a := c) (b := 1) (by omega)
  intro d
  induction d with
  | zero =>
    intro i cl rk hi h1 h2
    have h : nI c ≤ nI (i + 1) := nI_le (by omega) (by omega)
    have h' : nI c - 1 ≤ nI i := by rw [hz i (by omega)]; exact nI_le (by omega) (by omega)
    exact ⟨cl, rk, h1, h2, fun post hp => br_t h (nm_r (hz i (by omega)) hp), fun post hp => br_t h' (nm_r (hz i (by omega)) hp)⟩
  | succ d ih =>
    intro i cl rk hi h1 h2
    have h : ¬ nI c ≤ nI (i + 1) := nI_ge (by omega) (by omega)
    have h' : ¬ nI c - 1 ≤ nI i := by rw [hz i (by omega)]; exact nI_ge (by omega) (by omega)
    have h7 : ¬ (7 : Int32) ≤ nI i := nI_ge (b := 7) (by omega) (by omega)
    have v0 : vp_in (nI i) 8 := vp_in_nI (by omega) (by omega)
    have v1 : vp_in (nI (i + 1)) 8 := vp_in_nI (by omega) (by omega)
    have vm : vp_in (nI (i + 1) - 1) 8 := by rw [nI_pred]; exact v0
    have vs : vp_in (nI i + 1) 8 := by rw [nI_1]; exact v1
    have eX : ∀ f : Nat → Int32, upd f (nI (i + 1) - 1).toNatClampNeg (f (nI (i + 1)).toNatClampNeg) = upd f i (f (i + 1)) := by
      intro f
      rw [nI_pred, nI_clamp (by omega), nI_clamp (by omega)]
    have eY : ∀ f : Nat → Int32, upd f (nI i).toNatClampNeg (f (nI i + 1).toNatClampNeg) = upd f i (f (i + 1)) := by
      intro f
      rw [nI_1, nI_clamp (by omega), nI_clamp (by omega)]
    obtain ⟨cl', rk', b1, b2, hX, hY⟩ := ih (i + 1) (upd cl i (cl (i + 1))) (upd rk i (rk (i + 1))) (by omega) (ip_Bu h1 i (h1 _)) (ip_Bu h2 i (h2 _))
    exact ⟨cl', rk', b1, b2, fun post hp => br_f h ⟨v1, vm, nm_r (eX cl) ⟨v1, vm, nm_r (eX rk) (nm_r (nI_1 (i + 1)) (hX post hp))⟩⟩, fun post hp => br_f h' (br_f h7 ⟨vs, v0, nm_r (eY cl) ⟨vs, v0, nm_r (eY rk) (nm_r (nI_1 i) (hY post hp))⟩⟩)⟩
theorem ip_claims {x1 : Int32} (hc : c ≤ 8) : ∀ (d i : Nat) (x : Int32), i + d = c → ∃ r : Int32, (∀ post : Int32 → Prop, post r → wX_claims_13 post x1 (nI c) E cl rk ru g (d + 1) x (nI i)) ∧ (∀ post : Int32 → Prop, post r → wY_claims_14 post x1 (nI c) E cl rk ru g (d + 1) x (nI i)) := by
  intro d
  induction d with
  | zero =>
    intro i x hi
    have h : nI c ≤ nI i := nI_le (by omega) (by omega)
    exact ⟨x, fun _ hp => br_t h hp, fun _ hp => br_t h hp⟩
  | succ d ih =>
    intro i x hi
    have hic : i < c := by omega
    have h := ip_ne hc hic
    have vi := ip_v8 hc hic
    by_cases hr : rk (nI i).toNatClampNeg = x1
    · obtain ⟨r, hX, hY⟩ := ih (i + 1) (x + cl (nI i).toNatClampNeg) (by omega)
      exact ⟨r, fun post hp => br_f h ⟨vi, br_t hr ⟨vi, nm_e (nm_r (nI_1 i) (hX post hp))⟩⟩, fun post hp => br_f h ⟨vi, br_t hr ⟨vi, nm_e (nm_r (nI_1 i) (hY post hp))⟩⟩⟩
    · obtain ⟨r, hX, hY⟩ := ih (i + 1) x (by omega)
      exact ⟨r, fun post hp => br_f h ⟨vi, br_f hr (nm_r (nI_1 i) (hX post hp))⟩, fun post hp => br_f h ⟨vi, br_f hr (nm_r (nI_1 i) (hY post hp))⟩⟩
theorem ip_paid {x1 : Int32} (hc : c ≤ 8) : ∀ (d i : Nat) (x : Int32), i + d = c → ∃ r : Int32, (∀ post : Int32 → SX → Prop, post r (nI c, E, cl, rk, ru, g) → wX_paid_21 post x1 (nI c) E cl rk ru g (d + 1) x (nI i)) ∧ (∀ post : Int32 → SY → Prop, post r (nI c, E, cl, rk, ru, g) → wY_paid_25 post x1 (nI c) E cl rk ru g (d + 1) x (nI i)) := by
  intro d
  induction d with
  | zero =>
    intro i x hi
    have h : nI c ≤ nI i := nI_le (by omega) (by omega)
    exact ⟨x, fun _ hp => br_t h hp, fun _ hp => br_t h hp⟩
  | succ d ih =>
    intro i x hi
    have hic : i < c := by omega
    have h := ip_ne hc hic
    have vi := ip_v8 hc hic
    by_cases hr : rk (nI i).toNatClampNeg = x1
    · obtain ⟨r, hX, hY⟩ := ih (i + 1) (x + g (nI i).toNatClampNeg) (by omega)
      exact ⟨r, fun post hp => br_f h ⟨vi, br_t hr ⟨vi, nm_e (nm_r (nI_1 i) (hX post hp))⟩⟩, fun post hp => br_f h ⟨vi, br_t hr ⟨vi, nm_e (nm_r (nI_1 i) (hY post hp))⟩⟩⟩
    · obtain ⟨r, hX, hY⟩ := ih (i + 1) x (by omega)
      exact ⟨r, fun post hp => br_f h ⟨vi, br_f hr (nm_r (nI_1 i) (hX post hp))⟩, fun post hp => br_f h ⟨vi, br_f hr (nm_r (nI_1 i) (hY post hp))⟩⟩
theorem ip_left (hc : c ≤ 8) : ∀ (d i : Nat) (x y : Int32), i + d = c → y + ip_S g c = x + ip_S g i → ∀ post : Int32 → SX → Prop, post y (nI c, E, cl, rk, ru, g) → wX_left_15 post (nI c) E cl rk ru g (d + 1) x (nI i) := by
  intro d
  induction d with
  | zero =>
    intro i x y hi hy post hp
    have h : nI c ≤ nI i := nI_le (by omega) (by omega)
    have e : i = c := by omega
    subst e
    have hxy : y = x := by grind
    subst hxy
    exact br_t h hp
  | succ d ih =>
    intro i x y hi hy post hp
    have hic : i < c := by omega
    have ci : (nI i).toNatClampNeg = i := nI_clamp (by omega)
    refine br_f (ip_ne hc hic) ⟨ip_v8 hc hic, nm_r (e' := x - g i) (by rw [ci]) (nm_r (nI_1 i) (ih (i + 1) (x - g i) y (by omega) ?_ post hp))⟩
    have e : ip_S g (i + 1) = ip_S g i + g i := rfl
    rw [hy, e]
    grind
theorem ip_unpaid (hc : c ≤ 8) : ∀ (d i : Nat) (x : Int32), i + d = c → ∃ r : Int32, (∀ post : Int32 → SX → Prop, post r (nI c, E, cl, rk, ru, g) → wX_unpaid_12 post (nI c) E cl rk ru g (d + 1) x (nI i)) ∧ (∀ post : Int32 → SY → Prop, post r (nI c, E, cl, rk, ru, g) → wY_unpaid_15 post (nI c) E cl rk ru g (d + 1) x (nI i)) := by
  intro d
  induction d with
  | zero =>
    intro i x hi
    have h : nI c ≤ nI i := nI_le (by omega) (by omega)
    exact ⟨x, fun _ hp => br_t h hp, fun _ hp => br_t h hp⟩
  | succ d ih =>
    intro i x hi
    have hic : i < c := by omega
    have h := ip_ne hc hic
    have vi := ip_v8 hc hic
    by_cases hq : cl (nI i).toNatClampNeg ≤ g (nI i).toNatClampNeg
    · obtain ⟨r, hX, hY⟩ := ih (i + 1) x (by omega)
      exact ⟨r, fun post hp => br_f h ⟨vi, vi, br_t hq (br_t rfl (nm_r (nI_1 i) (hX post hp)))⟩, fun post hp => br_f h ⟨vi, vi, br_t hq (nm_r (nI_1 i) (hY post hp))⟩⟩
    · obtain ⟨r, hX, hY⟩ := ih (i + 1) (x + 1) (by omega)
      exact ⟨r, fun post hp => br_f h ⟨vi, vi, br_f hq (br_f ip_10 (nm_e (nm_r (nI_1 i) (hX post hp))))⟩, fun post hp => br_f h ⟨vi, vi, br_f hq (nm_e (nm_r (nI_1 i) (hY post hp)))⟩⟩
theorem ip_worst (hc : c ≤ 8) : ∀ (d i : Nat) (x : Int32), i + d = c → ∃ r : Int32, (∀ post : Int32 → SX → Prop, post r (nI c, E, cl, rk, ru, g) → wX_worst_12 post (nI c) E cl rk ru g (d + 1) x (nI i)) ∧ (∀ post : Int32 → SY → Prop, post r (nI c, E, cl, rk, ru, g) → wY_worst_15 post (nI c) E cl rk ru g (d + 1) x (nI i)) := by
  intro d
  induction d with
  | zero =>
    intro i x hi
    have h : nI c ≤ nI i := nI_le (by omega) (by omega)
    exact ⟨x, fun _ hp => br_t h hp, fun _ hp => br_t h hp⟩
  | succ d ih =>
    intro i x hi
    have hic : i < c := by omega
    have h := ip_ne hc hic
    have vi := ip_v8 hc hic
    by_cases hq : cl (nI i).toNatClampNeg - g (nI i).toNatClampNeg ≤ x
    · obtain ⟨r, hX, hY⟩ := ih (i + 1) x (by omega)
      exact ⟨r, fun post hp => br_f h ⟨vi, vi, nm_e (br_t hq (nm_r (nI_1 i) (hX post hp)))⟩, fun post hp => br_f h ⟨vi, vi, br_t hq (nm_r (nI_1 i) (hY post hp))⟩⟩
    · obtain ⟨r, hX, hY⟩ := ih (i + 1) (cl (nI i).toNatClampNeg - g (nI i).toNatClampNeg) (by omega)
      exact ⟨r, fun post hp => br_f h ⟨vi, vi, nm_e (br_f hq (nm_r (nI_1 i) (hX post hp)))⟩, fun post hp => br_f h ⟨vi, vi, br_f hq ⟨vi, vi, nm_e (nm_r (nI_1 i) (hY post hp))⟩⟩⟩
end
