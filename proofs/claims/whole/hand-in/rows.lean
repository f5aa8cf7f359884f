section
theorem pk_us {f : Nat → Int32} {k : Nat} {x : Int32} : upd f k x k = x := if_pos rfl
theorem pk_un {f : Nat → Int32} {k j : Nat} {x : Int32} (h : j ≠ k) : upd f k x j = f j := if_neg h
theorem pk_mul (a b : Nat) : nI a * nI b = nI (a * b) := (Int32.ofNat_mul a b).symm
/-- every cell is a number 0 .. m -/
def ip_B (m : Nat) (f : Nat → Int32) : Prop := ∀ j, ∃ n : Nat, n ≤ m ∧ f j = nI n
theorem ip_Bz (m : Nat) : ip_B m (fun _ => 0) := fun _ => ⟨0, Nat.zero_le _, nI_0.symm⟩
theorem ip_Bu {m : Nat} {f : Nat → Int32} (h : ip_B m f) (k : Nat) {x : Int32} (hx : ∃ n : Nat, n ≤ m ∧ x = nI n) : ip_B m (upd f k x) := by
  intro j
  by_cases e : j = k
  · subst e; rw [pk_us]; exact hx
  · rw [pk_un e]; exact h j
theorem ip_B0 {m : Nat} : ∃ n : Nat, n ≤ m ∧ (0 : Int32) = nI n := ⟨0, Nat.zero_le _, nI_0.symm⟩
/-- both sides hold the same numbers and the same cells -/
def i_Rel (_ : Nat) (u : SX) (v : SY) : Prop := ∃ (c e : Nat) (cl rk ru g : Nat → Int32), c ≤ 8 ∧ e ≤ 1500 ∧ ip_B 150 cl ∧ ip_B 3 rk ∧ ip_B 3 ru ∧ ip_B 150 g ∧ u = (nI c, nI e, cl, rk, ru, g) ∧ v = (nI c, nI e, cl, rk, ru, g)
theorem i_up {k : Nat} {u : SX} {v : SY} (h : i_Rel k u v) : i_Rel (k + 3) u v := h
theorem ip_R {k c e : Nat} {cl rk ru g : Nat → Int32} (hc : c ≤ 8) (he : e ≤ 1500) (h1 : ip_B 150 cl) (h2 : ip_B 3 rk) (h3 : ip_B 3 ru) (h4 : ip_B 150 g) : i_Rel k (nI c, nI e, cl, rk, ru, g) (nI c, nI e, cl, rk, ru, g) := ⟨c, e, cl, rk, ru, g, hc, he, h1, h2, h3, h4, rfl, rfl⟩
theorem ip_u0 (k : Nat) : upd (fun _ => 0) k 0 = fun _ => 0 := by
  funext j
  by_cases e : j = k
  · subst e; exact pk_us
  · exact pk_un e
theorem i_vc0 : wpX_init (fun u => wpY_init (fun v => i_Rel 0 u v)) := by
  refine ⟨5, ?_⟩
  refine br_f (by decide) ⟨vp_in_iff.mpr (by decide), nm_r (ip_u0 _) (nm_r (e' := 1) (by decide) ?_)⟩
  refine br_f (by decide) ⟨vp_in_iff.mpr (by decide), nm_r (ip_u0 _) (nm_r (e' := 2) (by decide) ?_)⟩
  refine br_f (by decide) ⟨vp_in_iff.mpr (by decide), nm_r (ip_u0 _) (nm_r (e' := 3) (by decide) ?_)⟩
  refine br_f (by decide) ⟨vp_in_iff.mpr (by decide), nm_r (ip_u0 _) (nm_r (e' := 4) (by decide) ?_)⟩
  refine br_t (by decide) ?_
  exact ip_R (k := 0) (c := 0) (e := 0) (by omega) (by omega) (ip_Bz _) (ip_Bz _) (ip_Bz _) (ip_Bz _)
theorem ip_m1 {t : Nat} (h : t < 2 ^ 31) : ¬ nI t = -1 := by
  intro e
  have := nI_pos' h
  rw [e] at this
  exact absurd this (by decide)
theorem ip_10 : ¬ (1 : Int32) = 0 := by decide
theorem ip_n0 : ¬ (0 : Int32) ≤ -1 := by decide
theorem ip_if (P : Prop) : ∃ b : Int32, ∀ post : Int32 → Prop, post b → (P → post 0) ∧ (¬ P → post 1) := by
  by_cases h : P
  · exact ⟨0, fun post hp => br_t h hp⟩
  · exact ⟨1, fun post hp => br_f h hp⟩
theorem ip_half {x y : Int32} (hx : ∃ n : Nat, n ≤ 150 ∧ x = nI n) (hy : ∃ n : Nat, n ≤ 150 ∧ y = nI n) (h : ¬ x ≤ 2 * y) : ¬ x ≤ y := by
  obtain ⟨a, ha, rfl⟩ := hx
  obtain ⟨b, hb, rfl⟩ := hy
  have e : (2 : Int32) * nI b = nI (2 * b) := pk_mul 2 b
  rw [e, nI_leI (by omega) (by omega)] at h
  rw [nI_leI (by omega) (by omega)]
  omega
theorem ip_ne {i c : Nat} (hc : c ≤ 8) (h : i < c) : ¬ nI c ≤ nI i := nI_ge h (by omega)
theorem ip_n8 {i c : Nat} (hc : c ≤ 8) (h : i < c) : ¬ (8 : Int32) ≤ nI i := nI_ge (b := 8) (by omega) (by omega)
theorem ip_v8 {i c : Nat} (hc : c ≤ 8) (h : i < c) : vp_in (nI i) 8 := vp_in_nI (by omega) (by omega)
end
section
def ip_good (c : Nat) (cl g : Nat → Int32) (r : Int32) : Prop := r = -1 ∨ ∃ t : Nat, t < c ∧ r = nI t ∧ ¬ cl t ≤ g t
def ip_ord (x2 x4 x7 : Int32) : Prop := (x2 = 0 ∧ (x4 = 0 ∨ ¬ x7 = 0)) ∨ (x2 = 1 ∧ ¬ x4 = 0 ∧ x7 = 0 ∧ ¬ x4 = 2) ∨ (x2 = 2 ∧ ¬ x4 = 0 ∧ x7 = 0 ∧ x4 = 2)
section
variable {c : Nat} {E : Int32} {cl rk ruX ruY g : Nat → Int32}
theorem ip_ahead {x2 x4 x7 : Int32} (ho : ip_ord x2 x4 x7) {i t : Nat} (hi : i < 8) (ht : t < 8) : ∃ b : Int32, (∀ post : Int32 → Prop, post b → wpX_isAhead post (nI c, E, cl, rk, ruX, g) (nI i) (nI t) x2) ∧ (∀ post : Int32 → Prop, post b → wpY_before post (nI c, E, cl, rk, ruY, g) (nI i) (nI t) x4 x7) := by
  have vi : vp_in (nI i) 8 := vp_in_nI hi (by omega)
  have vt : vp_in (nI t) 8 := vp_in_nI ht (by omega)
  rcases ho with ⟨rfl, h⟩ | ⟨rfl, h0, h7, h2⟩ | ⟨rfl, h0, h7, h2⟩
  · obtain ⟨b, hb⟩ := ip_if (g (nI t).toNatClampNeg ≤ g (nI i).toNatClampNeg)
    refine ⟨b, fun post hp => br_t rfl ⟨vi, vt, hb post hp⟩, fun post hp => ?_⟩
    have k : wY_before_9 post (nI i) (nI t) (nI c) E cl rk ruY g := ⟨vi, vt, hb post hp⟩
    by_cases h4 : x4 = 0
    · exact br_t h4 k
    · exact br_f h4 (br_f (h.resolve_left h4) k)
  · obtain ⟨b, hb⟩ := ip_if (cl (nI i).toNatClampNeg - g (nI i).toNatClampNeg ≤ cl (nI t).toNatClampNeg - g (nI t).toNatClampNeg)
    exact ⟨b, fun post hp => br_f ip_10 (br_t rfl ⟨vi, vi, vt, vt, hb post hp⟩), fun post hp => br_f h0 (br_t h7 (br_f h2 ⟨vi, vi, vt, vt, hb post hp⟩))⟩
  · obtain ⟨b, hb⟩ := ip_if (cl (nI i).toNatClampNeg * (g (nI t).toNatClampNeg + 1) ≤ cl (nI t).toNatClampNeg * (g (nI i).toNatClampNeg + 1))
    exact ⟨b, fun post hp => br_f (by decide) (br_f (by decide) ⟨vi, vt, vt, vi, hb post hp⟩), fun post hp => br_f h0 (br_t h7 (br_t h2 ⟨vi, vt, vt, vi, hb post hp⟩))⟩
theorem ip_yes {x1 x2 x3 x4 x7 best : Int32} (ho : ip_ord x2 x4 x7) {i : Nat} (hc : c ≤ 8) (hi : i < c) (hr : rk (nI i).toNatClampNeg = x1) (hb : ip_good c cl g best) (hg : ¬ cl (nI i).toNatClampNeg ≤ g (nI i).toNatClampNeg) : ∃ b : Int32, ip_good c cl g b ∧ (∀ (post : Int32 → Prop) (J : Int32 → Int32 → Prop), J b (nI (i + 1)) → wX_takerInRank_75 post J x1 x2 x3 best (nI i) 1 (nI c) E cl rk ruX g) ∧ (∀ (post : Int32 → Prop) (J : Int32 → Int32 → Prop), J b (nI (i + 1)) → wY_chosen_201 post J x1 x4 x7 best (nI i) 1 (nI c) E cl rk ruY g) := by
  have vi : vp_in (nI i) 8 := ip_v8 hc hi
  have gi : ip_good c cl g (nI i) := by
    rw [nI_clamp (by omega)] at hg
    exact Or.inr ⟨i, hi, rfl, hg⟩
  rcases hb with rfl | ⟨t, ht, rfl, gt⟩
  · exact ⟨nI i, gi, fun post J hJ => ⟨vi, br_t hr (br_f ip_10 (br_t rfl (nm_r (nI_1 i) hJ)))⟩, fun post J hJ => br_f ip_10 (br_f ip_n0 (nm_r (nI_1 i) hJ))⟩
  · have t1 : ¬ nI t = -1 := ip_m1 (by omega)
    have t0 : 0 ≤ nI t := nI_pos' (by omega)
    obtain ⟨b, hX, hY⟩ := ip_ahead (c := c) (E := E) (cl := cl) (rk := rk) (ruX := ruX) (ruY := ruY) (g := g) ho (i := i) (t := t) (by omega) (by omega)
    by_cases hb0 : b = 0
    · exact ⟨nI t, Or.inr ⟨t, ht, rfl, gt⟩, fun post J hJ => ⟨vi, br_t hr (br_f ip_10 (br_f t1 (hX _ (br_t hb0 (nm_r (nI_1 i) hJ)))))⟩, fun post J hJ => br_f ip_10 (br_t t0 (br_f ip_10 (hY _ (br_t hb0 (nm_r (nI_1 i) hJ)))))⟩
    · exact ⟨nI i, gi, fun post J hJ => ⟨vi, br_t hr (br_f ip_10 (br_f t1 (hX _ (br_f hb0 (nm_r (nI_1 i) hJ)))))⟩, fun post J hJ => br_f ip_10 (br_t t0 (br_f ip_10 (hY _ (br_f hb0 (nm_r (nI_1 i) hJ)))))⟩
theorem ip_noX {x1 x2 x3 best : Int32} {i : Nat} (hc : c ≤ 8) (hi : i < c) (post : Int32 → Prop) (J : Int32 → Int32 → Prop) (hJ : J best (nI (i + 1))) : wX_takerInRank_75 post J x1 x2 x3 best (nI i) 0 (nI c) E cl rk ruX g :=
  ⟨ip_v8 hc hi, br_c (fun _ => br_t rfl (nm_r (nI_1 i) hJ)) (fun _ => nm_r (nI_1 i) hJ)⟩
theorem ip_nrX {x1 x2 x3 best z0 : Int32} {i : Nat} (hc : c ≤ 8) (hi : i < c) (hr : ¬ rk (nI i).toNatClampNeg = x1) (post : Int32 → Prop) (J : Int32 → Int32 → Prop) (hJ : J best (nI (i + 1))) : wX_takerInRank_75 post J x1 x2 x3 best (nI i) z0 (nI c) E cl rk ruX g :=
  ⟨ip_v8 hc hi, br_f hr (nm_r (nI_1 i) hJ)⟩
theorem ip_no1 {x1 x4 x7 best : Int32} {i : Nat} (post : Int32 → Prop) (J : Int32 → Int32 → Prop) (hJ : J best (nI (i + 1))) : wY_chosen_201 post J x1 x4 x7 best (nI i) 0 (nI c) E cl rk ruY g :=
  br_t rfl (br_t rfl (nm_r (nI_1 i) hJ))
theorem ip_noY {x1 x4 x7 best : Int32} {i : Nat} (hc : c ≤ 8) (hi : i < c) (post : Int32 → Prop) (J : Int32 → Int32 → Prop) (hJ : J best (nI (i + 1))) : wY_chosen_171 post J x1 x4 x7 best (nI i) (nI c) E cl rk ruY g :=
  br_c (fun _ => ip_no1 post J hJ) (fun _ => ⟨ip_v8 hc hi, ip_v8 hc hi, br_c (fun _ => ip_no1 post J hJ) (fun _ => ip_no1 post J hJ)⟩)
theorem ip_take {x1 x2 x3 x4 : Int32} (ho : ip_ord x2 x4 x3) (hc : c ≤ 8) (hcl : ip_B 150 cl) (hg : ip_B 150 g) : ∀ (d i : Nat) (best : Int32), i + d = c → ip_good c cl g best → ∃ r : Int32, ip_good c cl g r ∧ (∀ post : Int32 → Prop, post r → wX_takerInRank_47 post x1 x2 x3 (nI c) E cl rk ruX g (d + 1) best (nI i)) ∧ (∀ post : Int32 → Prop, post r → wY_chosen_123 post x1 x4 x3 (nI c) E cl rk ruY g (d + 1) best (nI i)) := by
  intro d
  induction d with
  | zero =>
    intro i best hi hb
    have h : nI c ≤ nI i := nI_le (by omega) (by omega)
    exact ⟨best, hb, fun _ hp => br_t h hp, fun _ hp => br_t h hp⟩
  | succ d ih =>
    intro i best hi hb
    have hic : i < c := by omega
    have h := ip_ne hc hic
    have h8 := ip_n8 hc hic
    have vi := ip_v8 hc hic
    by_cases hr : rk (nI i).toNatClampNeg = x1
    · by_cases h3 : x3 = 0
      · by_cases hq : cl (nI i).toNatClampNeg ≤ g (nI i).toNatClampNeg
        · obtain ⟨r, gr, hX, hY⟩ := ih (i + 1) best (by omega) hb
          exact ⟨r, gr, fun post hp => br_f h (br_t h3 ⟨vi, vi, br_t hq (ip_noX hc hic _ _ (hX post hp))⟩), fun post hp => br_f h (br_f h8 ⟨vi, br_t hr ⟨vi, vi, br_t hq (ip_noY hc hic _ _ (hY post hp))⟩⟩)⟩
        · obtain ⟨b, gb, bX, bY⟩ := ip_yes (E := E) (ruX := ruX) (ruY := ruY) (x3 := x3) ho hc hic hr hb hq
          obtain ⟨r, gr, hX, hY⟩ := ih (i + 1) b (by omega) gb
          exact ⟨r, gr, fun post hp => br_f h (br_t h3 ⟨vi, vi, br_f hq (bX _ _ (hX post hp))⟩), fun post hp => br_f h (br_f h8 ⟨vi, br_t hr ⟨vi, vi, br_f hq (br_t h3 (bY _ _ (hY post hp)))⟩⟩)⟩
      · by_cases hq : cl (nI i).toNatClampNeg ≤ 2 * g (nI i).toNatClampNeg
        · obtain ⟨r, gr, hX, hY⟩ := ih (i + 1) best (by omega) hb
          exact ⟨r, gr, fun post hp => br_f h (br_f h3 ⟨vi, vi, br_t hq (ip_noX hc hic _ _ (hX post hp))⟩), fun post hp => br_f h (br_f h8 ⟨vi, br_t hr ⟨vi, vi, br_c (fun _ => ip_noY hc hic _ _ (hY post hp)) (fun _ => br_f h3 ⟨vi, vi, br_f (Int32.not_lt.mpr hq) (ip_no1 _ _ (hY post hp))⟩)⟩⟩)⟩
        · have hq' := ip_half (hcl _) (hg _) hq
          obtain ⟨b, gb, bX, bY⟩ := ip_yes (E := E) (ruX := ruX) (ruY := ruY) (x3 := x3) ho hc hic hr hb hq'
          obtain ⟨r, gr, hX, hY⟩ := ih (i + 1) b (by omega) gb
          exact ⟨r, gr, fun post hp => br_f h (br_f h3 ⟨vi, vi, br_f hq (bX _ _ (hX post hp))⟩), fun post hp => br_f h (br_f h8 ⟨vi, br_t hr ⟨vi, vi, br_f hq' (br_f h3 ⟨vi, vi, br_t (Int32.not_le.mp hq) (bY _ _ (hY post hp))⟩)⟩⟩)⟩
    · obtain ⟨r, gr, hX, hY⟩ := ih (i + 1) best (by omega) hb
      exact ⟨r, gr, fun post hp => br_f h (br_c (fun _ => ⟨vi, vi, br_c (fun _ => ip_nrX hc hic hr _ _ (hX post hp)) (fun _ => ip_nrX hc hic hr _ _ (hX post hp))⟩) (fun _ => ⟨vi, vi, br_c (fun _ => ip_nrX hc hic hr _ _ (hX post hp)) (fun _ => ip_nrX hc hic hr _ _ (hX post hp))⟩)), fun post hp => br_f h (br_f h8 ⟨vi, br_f hr (ip_noY hc hic _ _ (hY post hp))⟩)⟩
theorem ip_sums {x1 w : Int32} (hc : c ≤ 8) : ∀ (d i : Nat) (a p : Int32), i + d = c → ∃ a' p' : Int32, (∀ post : Int32 → Prop, ((a' ≤ 2 * p' → post 0) ∧ (¬ a' ≤ 2 * p' → post 1)) → wX_isInFirstHalf_7 post x1 (nI c) E cl rk ruX g (d + 1) a p (nI i)) ∧ (∀ post : Int32 → Prop, wY_chosen_95 post x1 w a' p' (nI c) E cl rk ruY g → wY_chosen_38 post x1 w (nI c) E cl rk ruY g (d + 1) a p (nI i)) := by
  intro d
  induction d with
  | zero =>
    intro i a p hi
    have h : nI c ≤ nI i := nI_le (by omega) (by omega)
    exact ⟨a, p, fun _ hp => br_t h hp, fun _ hp => br_t h hp⟩
  | succ d ih =>
    intro i a p hi
    have hic : i < c := by omega
    have h := ip_ne hc hic
    have h8 := ip_n8 hc hic
    have vi := ip_v8 hc hic
    by_cases hr : rk (nI i).toNatClampNeg = x1
    · obtain ⟨a', p', hX, hY⟩ := ih (i + 1) (a + cl (nI i).toNatClampNeg) (p + g (nI i).toNatClampNeg) (by omega)
      exact ⟨a', p', fun post hp => br_f h ⟨vi, br_t hr ⟨vi, nm_e ⟨vi, nm_e (nm_r (nI_1 i) (hX post hp))⟩⟩⟩, fun post hp => br_f h (br_f h8 ⟨vi, br_t hr ⟨vi, nm_e ⟨vi, nm_e (nm_r (nI_1 i) (hY post hp))⟩⟩⟩)⟩
    · obtain ⟨a', p', hX, hY⟩ := ih (i + 1) a p (by omega)
      exact ⟨a', p', fun post hp => br_f h ⟨vi, br_f hr (nm_r (nI_1 i) (hX post hp))⟩, fun post hp => br_f h (br_f h8 ⟨vi, br_f hr (nm_r (nI_1 i) (hY post hp))⟩)⟩
theorem ip_w {w : Int32} (hw : ∃ n : Nat, n ≤ 3 ∧ w = nI n) (h3 : ¬ w = 3) : ip_ord w w 0 := by
  obtain ⟨n, hn, rfl⟩ := hw
  match n, hn, h3 with
  | 0, _, _ => exact Or.inl ⟨rfl, Or.inl rfl⟩
  | 1, _, _ => exact Or.inr (Or.inl ⟨rfl, by decide, rfl, by decide⟩)
  | 2, _, _ => exact Or.inr (Or.inr ⟨rfl, by decide, rfl, rfl⟩)
  | 3, _, h3 => exact absurd rfl h3
theorem ip_inRank (hc : c ≤ 8) (hcl : ip_B 150 cl) (hg : ip_B 150 g) (hru : ip_B 3 ruX) {q : Nat} (hq : q ≤ 3) : ∃ r : Int32, ip_good c cl g r ∧ (∀ post : Int32 → Prop, post r → wpX_takerInRank post (nI c, E, cl, rk, ruX, g) (nI q)) ∧ (∀ post : Int32 → Prop, post r → wY_chosen_38 post (nI q) (ruX (nI q).toNatClampNeg) (nI c) E cl rk ruY g (c + 1) 0 0 0) := by
  have vq : vp_in (nI q) 4 := vp_in_nI (by omega) (by omega)
  obtain ⟨a, p, sX, sY⟩ := ip_sums (E := E) (cl := cl) (rk := rk) (ruX := ruX) (ruY := ruY) (g := g) (x1 := nI q) (w := ruX (nI q).toNatClampNeg) hc c 0 0 0 (by omega)
  by_cases hw : ruX (nI q).toNatClampNeg = 3
  · by_cases hh : a ≤ 2 * p
    · obtain ⟨r, gr, tX, tY⟩ := ip_take (E := E) (rk := rk) (ruX := ruX) (ruY := ruY) (x1 := nI q) (x2 := 1) (x3 := 0) (x4 := ruX (nI q).toNatClampNeg) (Or.inr (Or.inl ⟨rfl, by rw [hw]; decide, rfl, by rw [hw]; decide⟩)) hc hcl hg c 0 (-1) (by omega) (Or.inl rfl)
      exact ⟨r, gr, fun post hp => ⟨vq, nm_e (br_t hw ⟨c + 1, sX _ (br_t hh (br_t rfl (br_t hw (br_t rfl ⟨c + 1, tX _ hp⟩))))⟩)⟩, fun post hp => sY _ (br_t hw (br_t hh ⟨c + 1, tY _ hp⟩))⟩
    · obtain ⟨r, gr, tX, tY⟩ := ip_take (E := E) (rk := rk) (ruX := ruX) (ruY := ruY) (x1 := nI q) (x2 := 0) (x3 := 1) (x4 := ruX (nI q).toNatClampNeg) (Or.inl ⟨rfl, Or.inr ip_10⟩) hc hcl hg c 0 (-1) (by omega) (Or.inl rfl)
      exact ⟨r, gr, fun post hp => ⟨vq, nm_e (br_t hw ⟨c + 1, sX _ (br_f hh (br_f ip_10 (br_t hw (br_f ip_10 ⟨c + 1, tX _ hp⟩))))⟩)⟩, fun post hp => sY _ (br_t hw (br_f hh ⟨c + 1, tY _ hp⟩))⟩
  · obtain ⟨r, gr, tX, tY⟩ := ip_take (E := E) (rk := rk) (ruX := ruX) (ruY := ruY) (x1 := nI q) (ip_w (hru _) hw) hc hcl hg c 0 (-1) (by omega) (Or.inl rfl)
    exact ⟨r, gr, fun post hp => ⟨vq, nm_e (br_f hw (br_f hw ⟨c + 1, tX _ hp⟩))⟩, fun post hp => sY _ (br_f hw ⟨c + 1, tY _ hp⟩)⟩
theorem ip_open (hc : c ≤ 8) (hrk : ip_B 3 rk) : ∀ (d i : Nat) (x : Int32), i + d = c → (x = 4 ∨ ∃ q : Nat, q ≤ 3 ∧ x = nI q) → ∃ r : Int32, (r = 4 ∨ ∃ q : Nat, q ≤ 3 ∧ r = nI q) ∧ (∀ post : Int32 → Prop, ((r = 4 → post (-1)) ∧ (¬ r = 4 → wpX_takerInRank (fun r_3 => post r_3) (nI c, E, cl, rk, ruX, g) r)) → wX_nextTaker_4 post (nI c) E cl rk ruX g (d + 1) x (nI i)) ∧ (∀ post : Int32 → Prop, post r → wY_openRank_4 post (nI c) E cl rk ruY g (d + 1) x (nI i)) := by
  intro d
  induction d with
  | zero =>
    intro i x hi hx
    have h : nI c ≤ nI i := nI_le (by omega) (by omega)
    exact ⟨x, hx, fun _ hp => br_t h hp, fun _ hp => br_t h hp⟩
  | succ d ih =>
    intro i x hi hx
    have hic : i < c := by omega
    have h := ip_ne hc hic
    have h8 := ip_n8 hc hic
    have vi := ip_v8 hc hic
    by_cases hq : cl (nI i).toNatClampNeg ≤ g (nI i).toNatClampNeg
    · obtain ⟨r, gr, hX, hY⟩ := ih (i + 1) x (by omega) hx
      exact ⟨r, gr, fun post hp => br_f h ⟨vi, vi, br_t hq (br_t rfl (nm_r (nI_1 i) (hX post hp)))⟩, fun post hp => br_f h (br_f h8 ⟨vi, vi, br_t hq (nm_r (nI_1 i) (hY post hp))⟩)⟩
    · by_cases hr : x ≤ rk (nI i).toNatClampNeg
      · obtain ⟨r, gr, hX, hY⟩ := ih (i + 1) x (by omega) hx
        exact ⟨r, gr, fun post hp => br_f h ⟨vi, vi, br_f hq (br_f ip_10 ⟨vi, br_t hr (nm_r (nI_1 i) (hX post hp))⟩)⟩, fun post hp => br_f h (br_f h8 ⟨vi, vi, br_f hq ⟨vi, br_t hr (nm_r (nI_1 i) (hY post hp))⟩⟩)⟩
      · obtain ⟨r, gr, hX, hY⟩ := ih (i + 1) (rk (nI i).toNatClampNeg) (by omega) (Or.inr (hrk _))
        exact ⟨r, gr, fun post hp => br_f h ⟨vi, vi, br_f hq (br_f ip_10 ⟨vi, br_f hr ⟨vi, nm_e (nm_r (nI_1 i) (hX post hp))⟩⟩)⟩, fun post hp => br_f h (br_f h8 ⟨vi, vi, br_f hq ⟨vi, br_f hr ⟨vi, nm_e (nm_r (nI_1 i) (hY post hp))⟩⟩⟩)⟩
theorem ip_chosen (hc : c ≤ 8) (hcl : ip_B 150 cl) (hrk : ip_B 3 rk) (hg : ip_B 150 g) (hru : ip_B 3 ruX) {sp o : Int32} (hs : ∀ q : Nat, q ≤ 3 → (nI q = sp → o = ruX (nI q).toNatClampNeg) ∧ (¬ nI q = sp → ruY (nI q).toNatClampNeg = ruX (nI q).toNatClampNeg)) : ∃ r : Int32, ip_good c cl g r ∧ (∀ post : Int32 → Prop, post r → wpX_nextTaker post (nI c, E, cl, rk, ruX, g)) ∧ (∀ post : Int32 → Prop, post r → wpY_chosen post (nI c, E, cl, rk, ruY, g) sp o) := by
  obtain ⟨q0, hq0, oX, oY⟩ := ip_open (E := E) (cl := cl) (ruX := ruX) (ruY := ruY) (g := g) hc hrk c 0 4 (by omega) (Or.inl rfl)
  rcases hq0 with rfl | ⟨q, hq, rfl⟩
  · exact ⟨-1, Or.inl rfl, fun post hp => ⟨c + 1, oX _ (br_t rfl hp)⟩, fun post hp => ⟨c + 1, oY _ (br_f (by decide) hp)⟩⟩
  · have n4 : ¬ nI q = 4 := by
      intro e
      have e' : nI q = nI 4 := e
      rw [nI_eq (by omega) (by omega)] at e'
      omega
    have l3 : nI q ≤ 3 := nI_le (b := 3) hq (by omega)
    have vq : vp_in (nI q) 4 := vp_in_nI (by omega) (by omega)
    obtain ⟨r, gr, rX, rY⟩ := ip_inRank (E := E) (rk := rk) (ruY := ruY) hc hcl hg hru hq
    refine ⟨r, gr, fun post hp => ⟨c + 1, oX _ (br_f n4 (rX _ hp))⟩, fun post hp => ⟨c + 1, oY _ (br_t l3 (br_c (fun e => ⟨c + 1, ?_⟩) (fun e => ⟨vq, nm_r ((hs q hq).2 e) ⟨c + 1, rY _ hp⟩⟩)))⟩⟩
    rw [(hs q hq).1 e]
    exact rY _ hp
end
end
section
/-- what the first n creditors hold together -/
def ip_S (g : Nat → Int32) : Nat → Int32
  | 0 => 0
  | n + 1 => ip_S g n + g n
theorem ip_Sn {g : Nat → Int32} {t : Nat} {x : Int32} : ∀ n : Nat, n ≤ t → ip_S (upd g t x) n = ip_S g n := by
  intro n
  induction n with
  | zero => intro _; rfl
  | succ n ih =>
    intro h
    show ip_S (upd g t x) n + upd g t x n = ip_S g n + g n
    rw [ih (by omega), pk_un (by omega)]
theorem ip_Su {g : Nat → Int32} {t : Nat} : ∀ n : Nat, t < n → ip_S (upd g t (g t + 1)) n = ip_S g n + 1 := by
  intro n
  induction n with
  | zero => intro h; omega
  | succ n ih =>
    intro h
    show ip_S (upd g t (g t + 1)) n + upd g t (g t + 1) n = ip_S g n + g n + 1
    by_cases e : t = n
    · subst e
      rw [ip_Sn _ (Nat.le_refl _), pk_us, Int32.add_assoc]
    · rw [ih (by omega), pk_un (by omega), Int32.add_assoc, Int32.add_assoc, Int32.add_comm 1]
theorem ip_Sz {g : Nat → Int32} : ∀ n : Nat, (∀ j, j < n → g j = 0) → ip_S g n = 0 := by
  intro n
  induction n with
  | zero => intro _; rfl
  | succ n ih =>
    intro h
    show ip_S g n + g n = 0
    rw [ih (fun j hj => h j (by omega)), h n (by omega)]
    rfl
theorem ip_inc {x y : Int32} (hx : ∃ n : Nat, n ≤ 150 ∧ x = nI n) (hy : ∃ n : Nat, n ≤ 150 ∧ y = nI n) (h : ¬ x ≤ y) : ∃ n : Nat, n ≤ 150 ∧ y + 1 = nI n := by
  obtain ⟨a, ha, rfl⟩ := hx
  obtain ⟨b, hb, rfl⟩ := hy
  rw [nI_leI (by omega) (by omega)] at h
  exact ⟨b + 1, by omega, nI_1 b⟩
section
variable {c : Nat} {E : Int32} {cl rk ruX ruY g : Nat → Int32}
/-- one unit, on both sides: to nobody, or to t -/
theorem ip_unit (hc : c ≤ 8) (hcl : ip_B 150 cl) (hrk : ip_B 3 rk) (hg : ip_B 150 g) (hru : ip_B 3 ruX) {sp o : Int32} (hs : ∀ q : Nat, q ≤ 3 → (nI q = sp → o = ruX (nI q).toNatClampNeg) ∧ (¬ nI q = sp → ruY (nI q).toNatClampNeg = ruX (nI q).toNatClampNeg)) : ((∀ post : Int32 → SX → Prop, post 0 (nI c, E, cl, rk, ruX, g) → wpX_giveUnit post (nI c, E, cl, rk, ruX, g)) ∧ (∀ post : Int32 → Prop, post (-1) → wpY_chosen post (nI c, E, cl, rk, ruY, g) sp o)) ∨ (∃ t : Nat, t < c ∧ ip_B 150 (upd g t (g t + 1)) ∧ (∀ post : Int32 → SX → Prop, post 1 (nI c, E, cl, rk, ruX, upd g t (g t + 1)) → wpX_giveUnit post (nI c, E, cl, rk, ruX, g)) ∧ (∀ post : Int32 → Prop, post (nI t) → wpY_chosen post (nI c, E, cl, rk, ruY, g) sp o)) := by
  obtain ⟨r, gr, hX, hY⟩ := ip_chosen (E := E) (ruY := ruY) hc hcl hrk hg hru hs
  rcases gr with rfl | ⟨t, ht, rfl, hl⟩
  · exact Or.inl ⟨fun post hp => hX _ (br_t rfl hp), hY⟩
  · refine Or.inr ⟨t, ht, ip_Bu hg t (ip_inc (hcl t) (hg t) hl), fun post hp => hX _ (br_f (ip_m1 (by omega)) ⟨ip_v8 hc ht, ip_v8 hc ht, nm_r ?_ hp⟩), hY⟩
    rw [nI_clamp (by omega)]
/-- the rest of the units, to nobody -/
theorem ip_over {e : Nat} (he : e ≤ 1500) {sp o : Int32} (hY : ∀ post : Int32 → Prop, post (-1) → wpY_chosen post (nI c, E, cl, rk, ruY, g) sp o) : ∀ (d i : Nat) (w : Int32), i + d = e → ∀ post : Int32 → SY → Prop, post (w + nI d) (nI c, E, cl, rk, ruY, g) → wY_hand_30 post (nI e) sp o (nI c) E (d + 1) w (nI i) cl rk ruY g := by
  intro d
  induction d with
  | zero =>
    intro i w hi post hp
    rw [nI_0, Int32.add_zero] at hp
    exact br_t (nI_le (by omega) (by omega)) hp
  | succ d ih =>
    intro i w hi post hp
    refine br_f (nI_ge (by omega) (by omega)) (hY _ (br_f ip_n0 (nm_e (nm_r (nI_1 i) (ih (i + 1) (w + 1) (by omega) post ?_)))))
    rw [← nI_1] at hp
    rw [Int32.add_assoc, Int32.add_comm 1]
    exact hp
theorem ip_run {e : Nat} (he : e ≤ 1500) (hc : c ≤ 8) (hcl : ip_B 150 cl) (hrk : ip_B 3 rk) (hru : ip_B 3 ruX) {sp o : Int32} (hs : ∀ q : Nat, q ≤ 3 → (nI q = sp → o = ruX (nI q).toNatClampNeg) ∧ (¬ nI q = sp → ruY (nI q).toNatClampNeg = ruX (nI q).toNatClampNeg)) : ∀ (d i : Nat) (w : Int32) (g : Nat → Int32), i + d = e → ip_B 150 g → ∃ (w' : Int32) (g' : Nat → Int32), ip_B 150 g' ∧ w' + ip_S g' c = w + ip_S g c + nI d ∧ (∀ post : SX → Prop, post (nI c, E, cl, rk, ruX, g') → wX_shareOut_6 post (nI e) (d + 1) (nI i) (nI c) E cl rk ruX g) ∧ (∀ post : Int32 → SY → Prop, post w' (nI c, E, cl, rk, ruY, g') → wY_hand_30 post (nI e) sp o (nI c) E (d + 1) w (nI i) cl rk ruY g) := by
  intro d
  induction d with
  | zero =>
    intro i w g hi hg
    have h : nI e ≤ nI i := nI_le (by omega) (by omega)
    exact ⟨w, g, hg, by rw [nI_0, Int32.add_zero], fun _ hp => br_t h hp, fun _ hp => br_t h hp⟩
  | succ d ih =>
    intro i w g hi hg
    have h : ¬ nI e ≤ nI i := nI_ge (by omega) (by omega)
    rcases ip_unit (E := E) (ruY := ruY) hc hcl hrk hg hru hs with ⟨hX, hY⟩ | ⟨t, ht, hg1, hX, hY⟩
    · refine ⟨w + nI (d + 1), g, hg, ?_, fun post hp => br_f h (hX _ (br_t rfl hp)), fun post hp => ip_over he hY (d + 1) i w hi post hp⟩
      rw [Int32.add_assoc, Int32.add_comm (nI (d + 1)), Int32.add_assoc]
    · obtain ⟨w', g', hg', hw', rX, rY⟩ := ih (i + 1) w _ (by omega) hg1
      refine ⟨w', g', hg', ?_, fun post hp => br_f h (hX _ (br_f ip_10 (nm_r (nI_1 i) (rX post hp)))), fun post hp => br_f h (hY _ (br_t (nI_pos' (by omega)) ⟨ip_v8 hc ht, ip_v8 hc ht, nm_r ?_ (nm_r (nI_1 i) (rY post hp))⟩))⟩
      · rw [hw', ip_Su c ht, ← nI_1, ← Int32.add_assoc, Int32.add_assoc, Int32.add_assoc, Int32.add_assoc, Int32.add_comm 1]
      · rw [nI_clamp (by omega)]
/-- all taken back, on both sides -/
theorem ip_back {x1 x2 x3 : Int32} : ∀ (d i : Nat) (g : Nat → Int32), i + d = 8 → ip_B 150 g → ∃ g' : Nat → Int32, ip_B 150 g' ∧ (∀ j, j < i → g' j = g j) ∧ (∀ j, i ≤ j → j < 8 → g' j = 0) ∧ (∀ post : SX → Prop, post (nI c, E, cl, rk, ruX, g') → wX_takeAllBack_2 post (nI c) E (d + 1) (nI i) cl rk ruX g) ∧ (∀ post : Int32 → SY → Prop, (∃ n30 : Nat, wY_hand_30 post x1 x2 x3 (nI c) E n30 0 0 cl rk ruY g') → wY_hand_3 post x1 x2 x3 (nI c) E (d + 1) (nI i) cl rk ruY g) := by
  intro d
  induction d with
  | zero =>
    intro i g hi hg
    have h : (8 : Int32) ≤ nI i := nI_le (a := 8) (by omega) (by omega)
    exact ⟨g, hg, fun _ _ => rfl, fun _ _ _ => by omega, fun _ hp => br_t h hp, fun _ hp => br_t h hp⟩
  | succ d ih =>
    intro i g hi hg
    have h : ¬ (8 : Int32) ≤ nI i := nI_ge (b := 8) (by omega) (by omega)
    have vi : vp_in (nI i) 8 := vp_in_nI (by omega) (by omega)
    have ci : (nI i).toNatClampNeg = i := nI_clamp (by omega)
    obtain ⟨g', hg', h1, h2, hX, hY⟩ := ih (i + 1) (upd g i 0) (by omega) (ip_Bu hg i ip_B0)
    refine ⟨g', hg', fun j hj => ?_, fun j hj hj8 => ?_, fun post hp => br_f h ⟨vi, nm_r (by rw [ci]) (nm_r (nI_1 i) (hX post hp))⟩, fun post hp => br_f h ⟨vi, nm_r (by rw [ci]) (nm_r (nI_1 i) (hY post hp))⟩⟩
    · rw [h1 j (by omega), pk_un (by omega)]
    · by_cases e : j = i
      · subst e
        rw [h1 j (by omega), pk_us]
      · exact h2 j (by omega) hj8
theorem ip_hand {e : Nat} (he : e ≤ 1500) (hc : c ≤ 8) (hcl : ip_B 150 cl) (hrk : ip_B 3 rk) (hru : ip_B 3 ruX) (hg : ip_B 150 g) {sp o : Int32} (hs : ∀ q : Nat, q ≤ 3 → (nI q = sp → o = ruX (nI q).toNatClampNeg) ∧ (¬ nI q = sp → ruY (nI q).toNatClampNeg = ruX (nI q).toNatClampNeg)) : ∃ (w : Int32) (g' : Nat → Int32), ip_B 150 g' ∧ w + ip_S g' c = nI e ∧ (∀ post : SX → Prop, post (nI c, E, cl, rk, ruX, g') → wpX_shareOut post (nI c, E, cl, rk, ruX, g) (nI e)) ∧ (∀ post : Int32 → SY → Prop, post w (nI c, E, cl, rk, ruY, g') → wpY_hand post (nI c, E, cl, rk, ruY, g) (nI e) sp o) := by
  obtain ⟨g1, hg1, _, hz, bX, bY⟩ := ip_back (c := c) (E := E) (cl := cl) (rk := rk) (ruX := ruX) (ruY := ruY) (x1 := nI e) (x2 := sp) (x3 := o) 8 0 g (by omega) hg
  obtain ⟨w, g', hg', hw, rX, rY⟩ := ip_run (E := E) (ruY := ruY) he hc hcl hrk hru hs e 0 0 g1 (by omega) hg1
  refine ⟨w, g', hg', ?_, fun post hp => ⟨9, bX _ ⟨e + 1, rX post hp⟩⟩, fun post hp => ⟨9, bY _ ⟨e + 1, rY post hp⟩⟩⟩
  rw [hw, ip_Sz c (fun j hj => hz j (by omega) (by omega)), Int32.zero_add, Int32.zero_add]
theorem ip_same (sp : Int32) (hsp : sp = -1) (o : Int32) (ru : Nat → Int32) : ∀ q : Nat, q ≤ 3 → (nI q = sp → o = ru (nI q).toNatClampNeg) ∧ (¬ nI q = sp → ru (nI q).toNatClampNeg = ru (nI q).toNatClampNeg) :=
  fun q hq => ⟨fun e => absurd (e.trans hsp) (ip_m1 (by omega)), fun _ => rfl⟩
/-- the whole estate, or an amount, under the rules as they are -/
theorem ip_all {e : Nat} {ru : Nat → Int32} (he : e ≤ 1500) (hc : c ≤ 8) (hcl : ip_B 150 cl) (hrk : ip_B 3 rk) (hru : ip_B 3 ru) (hg : ip_B 150 g) : ∃ (w : Int32) (g' : Nat → Int32), ip_B 150 g' ∧ w + ip_S g' c = nI e ∧ (∀ post : SX → Prop, post (nI c, E, cl, rk, ru, g') → wpX_shareOut post (nI c, E, cl, rk, ru, g) (nI e)) ∧ (∀ post : Int32 → SY → Prop, post w (nI c, E, cl, rk, ru, g') → wpY_hand post (nI c, E, cl, rk, ru, g) (nI e) (-1) 0) :=
  ip_hand he hc hcl hrk hru hg (ip_same _ rfl _ _)
theorem ip_least {ru : Nat → Int32} (hc : c ≤ 8) (hcl : ip_B 150 cl) (hrk : ip_B 3 rk) (hru : ip_B 3 ru) {j : Nat} (hj : j < c) (x : Int32) : ∀ (d i : Nat) (g : Nat → Int32), i + d = 1501 → ip_B 150 g → ∃ (r : Int32) (g' : Nat → Int32), ip_B 150 g' ∧ (∀ post : Int32 → SX → Prop, post r (nI c, E, cl, rk, ru, g') → wX_leastEstate_30 post (nI j) x (d + 1) (nI i) (nI c) E cl rk ru g) ∧ (∀ post : Int32 → SY → Prop, post r (nI c, E, cl, rk, ru, g') → wY_leastEstate_31 post (nI j) x (nI c) E (d + 1) (nI i) cl rk ru g) := by
  have vj := ip_v8 hc hj
  intro d
  induction d with
  | zero =>
    intro i g hi hg
    have h : (1500 : Int32) < nI i := nI_lt (a := 1500) (by omega) (by omega)
    exact ⟨-3, g, hg, fun _ hp => br_t h hp, fun _ hp => br_t h hp⟩
  | succ d ih =>
    intro i g hi hg
    have h : ¬ (1500 : Int32) < nI i := nI_nlt (a := 1500) (by omega) (by omega)
    by_cases hx : g (nI j).toNatClampNeg < x
    · rcases ip_unit (E := E) (ruY := ru) hc hcl hrk hg hru (ip_same (-1) rfl 0 ru) with ⟨hX, hY⟩ | ⟨t, ht, hg1, hX, hY⟩
      · exact ⟨-3, g, hg, fun post hp => br_f h ⟨vj, br_t hx (hX _ (br_t rfl hp))⟩, fun post hp => br_f h ⟨vj, br_t hx (hY _ (br_f ip_n0 hp))⟩⟩
      · obtain ⟨r, g', hg', rX, rY⟩ := ih (i + 1) _ (by omega) hg1
        refine ⟨r, g', hg', fun post hp => br_f h ⟨vj, br_t hx (hX _ (br_f ip_10 (nm_r (nI_1 i) (rX post hp))))⟩, fun post hp => br_f h ⟨vj, br_t hx (hY _ (br_t (nI_pos' (by omega)) ⟨ip_v8 hc ht, ip_v8 hc ht, nm_r ?_ (nm_r (nI_1 i) (rY post hp))⟩))⟩⟩
        rw [nI_clamp (by omega)]
    · exact ⟨nI i, g, hg, fun post hp => br_f h ⟨vj, br_f hx hp⟩, fun post hp => br_f h ⟨vj, br_f hx hp⟩⟩
end
end
section
theorem pk_sub {a b : Nat} (h : b ≤ a) : nI a - nI b = nI (a - b) := by
  obtain ⟨c, rfl⟩ : ∃ c, a = c + b := ⟨a - b, by omega⟩
  rw [← nI_add, Int32.add_sub_cancel, Nat.add_sub_cancel]
theorem ip_est {e : Nat} (he : e ≤ 1500) {v : Int32} (h1 : ¬ v < -nI e) (h2 : v ≤ 1500 - nI e) : ∃ n : Nat, n ≤ 1500 ∧ nI e + v = nI n := by
  have a1 : (-nI e).toInt = -(e : Int) := by
    rw [Int32.toInt_neg, nI_toInt (by omega)]
    exact Int.bmod_eq_of_le (by omega) (by omega)
  have a2 : (1500 : Int32) - nI e = nI (1500 - e) := pk_sub (a := 1500) he
  rw [Int32.lt_iff_toInt_lt, a1] at h1
  rw [a2, Int32.le_iff_toInt_le, nI_toInt (by omega)] at h2
  refine ⟨((e : Int) + v.toInt).toNat, by omega, ?_⟩
  apply Int32.toInt_inj.mp
  rw [Int32.toInt_add, nI_toInt (by omega), nI_toInt (by omega), Int.bmod_eq_of_le (by omega) (by omega)]
  omega
/-- a number is below 0, above m, or one of 0 .. m -/
theorem ip_rng (v : Int32) (m : Nat) (hm : m < 2 ^ 30) : v < 0 ∨ (¬ v < 0 ∧ ¬ v ≤ nI m ∧ nI m < v ∧ nI (m + 1) ≤ v) ∨ ∃ n : Nat, n ≤ m ∧ v = nI n ∧ ¬ nI n < 0 ∧ nI n ≤ nI m ∧ ¬ nI m < nI n ∧ ¬ nI (m + 1) ≤ nI n := by
  by_cases h0 : v < 0
  · exact Or.inl h0
  · obtain ⟨j, hj, rfl⟩ := nI_of h0
    by_cases h : j ≤ m
    · exact Or.inr (Or.inr ⟨j, h, rfl, h0, nI_le h (by omega), nI_nlt h (by omega), nI_ge (by omega) (by omega)⟩)
    · exact Or.inr (Or.inl ⟨h0, nI_ge (by omega) hj, nI_lt (by omega) hj, nI_le (by omega) hj⟩)
section
variable {c : Nat} {E : Int32} {cl rk ru g : Nat → Int32}
theorem ip_cred (hc : c ≤ 8) (v : Int32) : ((∀ post : Int32 → Prop, post 0 → wpX_isCreditor post (nI c, E, cl, rk, ru, g) v) ∧ (∀ post : Int32 → Prop, post 1 → wpY_bad post (nI c, E, cl, rk, ru, g) v)) ∨ (∃ j : Nat, j < c ∧ v = nI j ∧ (∀ post : Int32 → Prop, post 1 → wpX_isCreditor post (nI c, E, cl, rk, ru, g) v) ∧ (∀ post : Int32 → Prop, post 0 → wpY_bad post (nI c, E, cl, rk, ru, g) v)) := by
  by_cases h0 : v < 0
  · exact Or.inl ⟨fun _ hp => br_t h0 hp, fun _ hp => br_t h0 hp⟩
  · obtain ⟨j, hj, rfl⟩ := nI_of h0
    by_cases h : j < c
    · exact Or.inr ⟨j, h, rfl, fun _ hp => br_f h0 (br_f (ip_ne hc h) hp), fun _ hp => br_f h0 (br_f (ip_ne hc h) (br_t (nI_lt (b := 8) (by omega) (by omega)) hp))⟩
    · have l : nI c ≤ nI j := nI_le (by omega) hj
      exact Or.inl ⟨fun _ hp => br_f h0 (br_t l hp), fun _ hp => br_f h0 (br_t l hp)⟩
theorem ip_cm (v : Int32) : ((∀ post : Int32 → Prop, post 0 → wpX_isClaim post v) ∧ (∀ post : Int32 → Prop, post 1 → wpY_badClaim post (nI c, E, cl, rk, ru, g) v)) ∨ (∃ n : Nat, n ≤ 150 ∧ v = nI n ∧ (∀ post : Int32 → Prop, post 1 → wpX_isClaim post v) ∧ (∀ post : Int32 → Prop, post 0 → wpY_badClaim post (nI c, E, cl, rk, ru, g) v)) := by
  rcases ip_rng v 150 (by omega) with h | ⟨h0, h1, h2, h3⟩ | ⟨n, hn, rfl, h0, h1, h2, h3⟩
  · exact Or.inl ⟨fun _ hp => br_t h hp, fun _ hp => br_t h hp⟩
  · exact Or.inl ⟨fun _ hp => br_f h0 (br_t h2 hp), fun _ hp => br_f h0 (br_f h1 hp)⟩
  · exact Or.inr ⟨n, hn, rfl, fun _ hp => br_f h0 (br_f h2 hp), fun _ hp => br_f h0 (br_t h1 hp)⟩
theorem ip_rk (v : Int32) : ((∀ post : Int32 → Prop, post 0 → wpX_isRank post v) ∧ (∀ post : Int32 → Prop, post 1 → wpY_badRank post (nI c, E, cl, rk, ru, g) v)) ∨ (∃ n : Nat, n ≤ 3 ∧ v = nI n ∧ (∀ post : Int32 → Prop, post 1 → wpX_isRank post v) ∧ (∀ post : Int32 → Prop, post 0 → wpY_badRank post (nI c, E, cl, rk, ru, g) v)) := by
  rcases ip_rng v 3 (by omega) with h | ⟨h0, h1, h2, h3⟩ | ⟨n, hn, rfl, h0, h1, h2, h3⟩
  · exact Or.inl ⟨fun _ hp => br_t h hp, fun _ hp => br_t h hp⟩
  · exact Or.inl ⟨fun _ hp => br_f h0 (br_t h3 hp), fun _ hp => br_f h0 (br_f h1 hp)⟩
  · exact Or.inr ⟨n, hn, rfl, fun _ hp => br_f h0 (br_f h3 hp), fun _ hp => br_f h0 (br_t h1 hp)⟩
theorem ip_rl (v : Int32) : ((∀ post : Int32 → Prop, post 0 → wpX_isRule post v) ∧ (∀ A B : Prop, B → (v < 0 → B) ∧ (¬ v < 0 → (v ≤ 3 → A) ∧ (¬ v ≤ 3 → B)))) ∨ (∃ n : Nat, n ≤ 3 ∧ v = nI n ∧ (∀ post : Int32 → Prop, post 1 → wpX_isRule post v) ∧ (∀ A B : Prop, A → (v < 0 → B) ∧ (¬ v < 0 → (v ≤ 3 → A) ∧ (¬ v ≤ 3 → B)))) := by
  rcases ip_rng v 3 (by omega) with h | ⟨h0, h1, h2, h3⟩ | ⟨n, hn, rfl, h0, h1, h2, h3⟩
  · exact Or.inl ⟨fun _ hp => br_t h hp, fun _ _ hp => br_t h hp⟩
  · exact Or.inl ⟨fun _ hp => br_f h0 (br_t h2 hp), fun _ _ hp => br_f h0 (br_f h1 hp)⟩
  · exact Or.inr ⟨n, hn, rfl, fun _ hp => br_f h0 (br_f h2 hp), fun _ _ hp => br_f h0 (br_t h1 hp)⟩
theorem ip_rem (hc : c ≤ 8) : ∀ (d i : Nat) (cl rk : Nat → Int32), i + 1 + d = c → ip_B 150 cl → ip_B 3 rk → ∃ cl' rk' : Nat → Int32, ip_B 150 cl' ∧ ip_B 3 rk' ∧ (∀ post : Int32 → SX → Prop, post (nI (c - 1)) (nI (c - 1), E, cl', rk', ru, g) → wX_remove_14 post (nI c) E (d + 1) (nI (i + 1)) cl rk ru g) ∧ (∀ post : Int32 → SY → Prop, post (nI (c - 1)) (nI (c - 1), E, cl', rk', ru, g) → wY_remove_12 post (nI c) E (d + 1) (nI i) cl rk ru g) := by
  have hz : ∀ i : Nat, i + 1 ≤ c → nI c - 1 = nI (c - 1) := fun i hi => pk_sub (a := c) (b := 1) (by omega)
  intro d
  induction d with
  | zero =>
    intro i cl rk hi h1 h2
    have h : nI c ≤ nI (i + 1) := nI_le (by omega) (by omega)
    have h' : nI c - 1 ≤ nI i := by rw [hz i (by omega)]; exact nI_le (by omega) (by omega)
    exact ⟨cl, rk, h1, h2, fun post hp => br_t h (nm_r (hz i (by omega)) hp), fun post hp => br_t h' (nm_r (hz i (by omega)) hp)⟩
  | succ d ih =>
    intro i cl rk hi h1 h2
    have h : ¬ nI c ≤ nI (i + 1) := nI_ge (by omega) (by omega)
    have h' : ¬ nI c - 1 ≤ nI i := by rw [hz i (by omega)]; exact nI_ge (by omega) (by omega)
    have h7 : ¬ (7 : Int32) ≤ nI i := nI_ge (b := 7) (by omega) (by omega)
    have v0 : vp_in (nI i) 8 := vp_in_nI (by omega) (by omega)
    have v1 : vp_in (nI (i + 1)) 8 := vp_in_nI (by omega) (by omega)
    have vm : vp_in (nI (i + 1) - 1) 8 := by rw [nI_pred]; exact v0
    have vs : vp_in (nI i + 1) 8 := by rw [nI_1]; exact v1
    have eX : ∀ f : Nat → Int32, upd f (nI (i + 1) - 1).toNatClampNeg (f (nI (i + 1)).toNatClampNeg) = upd f i (f (i + 1)) := by
      intro f
      rw [nI_pred, nI_clamp (by omega), nI_clamp (by omega)]
    have eY : ∀ f : Nat → Int32, upd f (nI i).toNatClampNeg (f (nI i + 1).toNatClampNeg) = upd f i (f (i + 1)) := by
      intro f
      rw [nI_1, nI_clamp (by omega), nI_clamp (by omega)]
    obtain ⟨cl', rk', b1, b2, hX, hY⟩ := ih (i + 1) (upd cl i (cl (i + 1))) (upd rk i (rk (i + 1))) (by omega) (ip_Bu h1 i (h1 _)) (ip_Bu h2 i (h2 _))
    exact ⟨cl', rk', b1, b2, fun post hp => br_f h ⟨v1, vm, nm_r (eX cl) ⟨v1, vm, nm_r (eX rk) (nm_r (nI_1 (i + 1)) (hX post hp))⟩⟩, fun post hp => br_f h' (br_f h7 ⟨vs, v0, nm_r (eY cl) ⟨vs, v0, nm_r (eY rk) (nm_r (nI_1 i) (hY post hp))⟩⟩)⟩
theorem ip_claims {x1 : Int32} (hc : c ≤ 8) : ∀ (d i : Nat) (x : Int32), i + d = c → ∃ r : Int32, (∀ post : Int32 → Prop, post r → wX_claims_13 post x1 (nI c) E cl rk ru g (d + 1) x (nI i)) ∧ (∀ post : Int32 → Prop, post r → wY_claims_14 post x1 (nI c) E cl rk ru g (d + 1) x (nI i)) := by
  intro d
  induction d with
  | zero =>
    intro i x hi
    have h : nI c ≤ nI i := nI_le (by omega) (by omega)
    exact ⟨x, fun _ hp => br_t h hp, fun _ hp => br_t h hp⟩
  | succ d ih =>
    intro i x hi
    have hic : i < c := by omega
    have h := ip_ne hc hic
    have vi := ip_v8 hc hic
    by_cases hr : rk (nI i).toNatClampNeg = x1
    · obtain ⟨r, hX, hY⟩ := ih (i + 1) (x + cl (nI i).toNatClampNeg) (by omega)
      exact ⟨r, fun post hp => br_f h ⟨vi, br_t hr ⟨vi, nm_e (nm_r (nI_1 i) (hX post hp))⟩⟩, fun post hp => br_f h ⟨vi, br_t hr ⟨vi, nm_e (nm_r (nI_1 i) (hY post hp))⟩⟩⟩
    · obtain ⟨r, hX, hY⟩ := ih (i + 1) x (by omega)
      exact ⟨r, fun post hp => br_f h ⟨vi, br_f hr (nm_r (nI_1 i) (hX post hp))⟩, fun post hp => br_f h ⟨vi, br_f hr (nm_r (nI_1 i) (hY post hp))⟩⟩
theorem ip_paid {x1 : Int32} (hc : c ≤ 8) : ∀ (d i : Nat) (x : Int32), i + d = c → ∃ r : Int32, (∀ post : Int32 → SX → Prop, post r (nI c, E, cl, rk, ru, g) → wX_paid_21 post x1 (nI c) E cl rk ru g (d + 1) x (nI i)) ∧ (∀ post : Int32 → SY → Prop, post r (nI c, E, cl, rk, ru, g) → wY_paid_25 post x1 (nI c) E cl rk ru g (d + 1) x (nI i)) := by
  intro d
  induction d with
  | zero =>
    intro i x hi
    have h : nI c ≤ nI i := nI_le (by omega) (by omega)
    exact ⟨x, fun _ hp => br_t h hp, fun _ hp => br_t h hp⟩
  | succ d ih =>
    intro i x hi
    have hic : i < c := by omega
    have h := ip_ne hc hic
    have vi := ip_v8 hc hic
    by_cases hr : rk (nI i).toNatClampNeg = x1
    · obtain ⟨r, hX, hY⟩ := ih (i + 1) (x + g (nI i).toNatClampNeg) (by omega)
      exact ⟨r, fun post hp => br_f h ⟨vi, br_t hr ⟨vi, nm_e (nm_r (nI_1 i) (hX post hp))⟩⟩, fun post hp => br_f h ⟨vi, br_t hr ⟨vi, nm_e (nm_r (nI_1 i) (hY post hp))⟩⟩⟩
    · obtain ⟨r, hX, hY⟩ := ih (i + 1) x (by omega)
      exact ⟨r, fun post hp => br_f h ⟨vi, br_f hr (nm_r (nI_1 i) (hX post hp))⟩, fun post hp => br_f h ⟨vi, br_f hr (nm_r (nI_1 i) (hY post hp))⟩⟩
theorem ip_left (hc : c ≤ 8) : ∀ (d i : Nat) (x y : Int32), i + d = c → y + ip_S g c = x + ip_S g i → ∀ post : Int32 → SX → Prop, post y (nI c, E, cl, rk, ru, g) → wX_left_15 post (nI c) E cl rk ru g (d + 1) x (nI i) := by
  intro d
  induction d with
  | zero =>
    intro i x y hi hy post hp
    have h : nI c ≤ nI i := nI_le (by omega) (by omega)
    have e : i = c := by omega
    subst e
    have hxy : y = x := by grind
    subst hxy
    exact br_t h hp
  | succ d ih =>
    intro i x y hi hy post hp
    have hic : i < c := by omega
    have ci : (nI i).toNatClampNeg = i := nI_clamp (by omega)
    refine br_f (ip_ne hc hic) ⟨ip_v8 hc hic, nm_r (e' := x - g i) (by rw [ci]) (nm_r (nI_1 i) (ih (i + 1) (x - g i) y (by omega) ?_ post hp))⟩
    have e : ip_S g (i + 1) = ip_S g i + g i := rfl
    rw [hy, e]
    grind
theorem ip_unpaid (hc : c ≤ 8) : ∀ (d i : Nat) (x : Int32), i + d = c → ∃ r : Int32, (∀ post : Int32 → SX → Prop, post r (nI c, E, cl, rk, ru, g) → wX_unpaid_12 post (nI c) E cl rk ru g (d + 1) x (nI i)) ∧ (∀ post : Int32 → SY → Prop, post r (nI c, E, cl, rk, ru, g) → wY_unpaid_15 post (nI c) E cl rk ru g (d + 1) x (nI i)) := by
  intro d
  induction d with
  | zero =>
    intro i x hi
    have h : nI c ≤ nI i := nI_le (by omega) (by omega)
    exact ⟨x, fun _ hp => br_t h hp, fun _ hp => br_t h hp⟩
  | succ d ih =>
    intro i x hi
    have hic : i < c := by omega
    have h := ip_ne hc hic
    have vi := ip_v8 hc hic
    by_cases hq : cl (nI i).toNatClampNeg ≤ g (nI i).toNatClampNeg
    · obtain ⟨r, hX, hY⟩ := ih (i + 1) x (by omega)
      exact ⟨r, fun post hp => br_f h ⟨vi, vi, br_t hq (br_t rfl (nm_r (nI_1 i) (hX post hp)))⟩, fun post hp => br_f h ⟨vi, vi, br_t hq (nm_r (nI_1 i) (hY post hp))⟩⟩
    · obtain ⟨r, hX, hY⟩ := ih (i + 1) (x + 1) (by omega)
      exact ⟨r, fun post hp => br_f h ⟨vi, vi, br_f hq (br_f ip_10 (nm_e (nm_r (nI_1 i) (hX post hp))))⟩, fun post hp => br_f h ⟨vi, vi, br_f hq (nm_e (nm_r (nI_1 i) (hY post hp)))⟩⟩
theorem ip_worst (hc : c ≤ 8) : ∀ (d i : Nat) (x : Int32), i + d = c → ∃ r : Int32, (∀ post : Int32 → SX → Prop, post r (nI c, E, cl, rk, ru, g) → wX_worst_12 post (nI c) E cl rk ru g (d + 1) x (nI i)) ∧ (∀ post : Int32 → SY → Prop, post r (nI c, E, cl, rk, ru, g) → wY_worst_15 post (nI c) E cl rk ru g (d + 1) x (nI i)) := by
  intro d
  induction d with
  | zero =>
    intro i x hi
    have h : nI c ≤ nI i := nI_le (by omega) (by omega)
    exact ⟨x, fun _ hp => br_t h hp, fun _ hp => br_t h hp⟩
  | succ d ih =>
    intro i x hi
    have hic : i < c := by omega
    have h := ip_ne hc hic
    have vi := ip_v8 hc hic
    by_cases hq : cl (nI i).toNatClampNeg - g (nI i).toNatClampNeg ≤ x
    · obtain ⟨r, hX, hY⟩ := ih (i + 1) x (by omega)
      exact ⟨r, fun post hp => br_f h ⟨vi, vi, nm_e (br_t hq (nm_r (nI_1 i) (hX post hp)))⟩, fun post hp => br_f h ⟨vi, vi, br_t hq (nm_r (nI_1 i) (hY post hp))⟩⟩
    · obtain ⟨r, hX, hY⟩ := ih (i + 1) (cl (nI i).toNatClampNeg - g (nI i).toNatClampNeg) (by omega)
      exact ⟨r, fun post hp => br_f h ⟨vi, vi, nm_e (br_f hq (nm_r (nI_1 i) (hX post hp)))⟩, fun post hp => br_f h ⟨vi, vi, br_f hq ⟨vi, vi, nm_e (nm_r (nI_1 i) (hY post hp))⟩⟩⟩
end
end
section
theorem i_vc_add {k : Nat} {u : SX} {v : SY} (I : i_Rel k u v) (hk : k + 3 ≤ 1536) (v1 : Int32) (v2 : Int32) : wpX_add (fun r u' => wpY_add (fun r' v' => r' = r ∧ i_Rel (k + 3) u' v') v v1 v2) u v1 v2 := by
  obtain ⟨c, e, cl, rk, ru, g, hc, he, h1, h2, h3, h4, rfl, rfl⟩ := I
  have R := ip_R (k := k + 3) hc he h1 h2 h3 h4
  rcases ip_cm (c := c) (E := nI e) (cl := cl) (rk := rk) (ru := ru) (g := g) v1 with ⟨cX, cY⟩ | ⟨a, ha, rfl, cX, cY⟩
  · unfold wpX_add
    refine cX _ (br_t rfl ?_)
    unfold wpY_add
    exact cY _ (br_f ip_10 ⟨rfl, R⟩)
  · rcases ip_rk (c := c) (E := nI e) (cl := cl) (rk := rk) (ru := ru) (g := g) v2 with ⟨rX, rY⟩ | ⟨q, hq, rfl, rX, rY⟩
    · unfold wpX_add
      refine cX _ (br_f ip_10 (rX _ (br_t rfl ?_)))
      unfold wpY_add
      exact cY _ (br_t rfl (rY _ (br_f ip_10 ⟨rfl, R⟩)))
    · by_cases h8 : c < 8
      · have l8 : nI c < 8 := nI_lt (b := 8) h8 (by omega)
        have v8 : vp_in (nI c) 8 := vp_in_nI h8 (by omega)
        have R' := ip_R (k := k + 3) (c := c + 1) (by omega) he (ip_Bu h1 (nI c).toNatClampNeg ⟨a, ha, rfl⟩) (ip_Bu h2 (nI c).toNatClampNeg ⟨q, hq, rfl⟩) h3 h4
        unfold wpX_add
        refine cX _ (br_f ip_10 (rX _ (br_f ip_10 (br_t l8 ⟨v8, nm_e ⟨v8, nm_e (nm_r (nI_1 c) ?_)⟩⟩))))
        unfold wpY_add
        exact cY _ (br_t rfl (rY _ (br_t rfl (br_t l8 ⟨v8, nm_e ⟨v8, nm_e (nm_r (nI_1 c) ⟨rfl, R'⟩)⟩⟩))))
      · have l8 : ¬ nI c < 8 := nI_nlt (b := 8) (by omega) (by omega)
        unfold wpX_add
        refine cX _ (br_f ip_10 (rX _ (br_f ip_10 (br_f l8 ?_))))
        unfold wpY_add
        exact cY _ (br_t rfl (rY _ (br_t rfl (br_f l8 ⟨rfl, R⟩))))
theorem i_vc_remove {k : Nat} {u : SX} {v : SY} (I : i_Rel k u v) (hk : k + 3 ≤ 1536) (v1 : Int32) : wpX_remove (fun r u' => wpY_remove (fun r' v' => r' = r ∧ i_Rel (k + 3) u' v') v v1) u v1 := by
  obtain ⟨c, e, cl, rk, ru, g, hc, he, h1, h2, h3, h4, rfl, rfl⟩ := I
  have R := ip_R (k := k + 3) hc he h1 h2 h3 h4
  rcases ip_cred (E := nI e) (cl := cl) (rk := rk) (ru := ru) (g := g) hc v1 with ⟨cX, cY⟩ | ⟨j, hj, rfl, cX, cY⟩
  · unfold wpX_remove
    refine cX _ (br_t rfl ?_)
    unfold wpY_remove
    exact cY _ (br_f ip_10 ⟨rfl, R⟩)
  · obtain ⟨cl', rk', b1, b2, hX, hY⟩ := ip_rem (E := nI e) (ru := ru) (g := g) hc (c - (j + 1)) j cl rk (by omega) h1 h2
    have R' := ip_R (k := k + 3) (c := c - 1) (by omega) he b1 b2 h3 h4
    unfold wpX_remove
    refine cX _ (br_f ip_10 (nm_r (nI_1 j) ⟨_, hX _ ?_⟩))
    unfold wpY_remove
    exact cY _ (br_t rfl ⟨_, hY _ ⟨rfl, R'⟩⟩)
theorem i_vc_change {k : Nat} {u : SX} {v : SY} (I : i_Rel k u v) (hk : k + 3 ≤ 1536) (v1 : Int32) (v2 : Int32) : wpX_change (fun r u' => wpY_change (fun r' v' => r' = r ∧ i_Rel (k + 3) u' v') v v1 v2) u v1 v2 := by
  obtain ⟨c, e, cl, rk, ru, g, hc, he, h1, h2, h3, h4, rfl, rfl⟩ := I
  have R := ip_R (k := k + 3) hc he h1 h2 h3 h4
  rcases ip_cred (E := nI e) (cl := cl) (rk := rk) (ru := ru) (g := g) hc v1 with ⟨cX, cY⟩ | ⟨j, hj, rfl, cX, cY⟩
  · unfold wpX_change
    refine cX _ (br_t rfl ?_)
    unfold wpY_change
    exact cY _ (br_f ip_10 ⟨rfl, R⟩)
  · have vj := ip_v8 hc hj
    rcases ip_cm (c := c) (E := nI e) (cl := cl) (rk := rk) (ru := ru) (g := g) v2 with ⟨rX, rY⟩ | ⟨a, ha, rfl, rX, rY⟩
    · unfold wpX_change
      refine cX _ (br_f ip_10 (rX _ (br_t rfl ?_)))
      unfold wpY_change
      exact cY _ (br_t rfl (rY _ (br_f ip_10 ⟨rfl, R⟩)))
    · have R' := ip_R (k := k + 3) hc he (ip_Bu h1 (nI j).toNatClampNeg ⟨a, ha, rfl⟩) h2 h3 h4
      unfold wpX_change
      refine cX _ (br_f ip_10 (rX _ (br_f ip_10 ⟨vj, nm_e ⟨vj, nm_e ?_⟩⟩)))
      unfold wpY_change
      exact cY _ (br_t rfl (rY _ (br_t rfl ⟨vj, nm_e ⟨vj, nm_e ⟨rfl, R'⟩⟩⟩)))
theorem i_vc_move {k : Nat} {u : SX} {v : SY} (I : i_Rel k u v) (hk : k + 3 ≤ 1536) (v1 : Int32) (v2 : Int32) : wpX_move (fun r u' => wpY_move (fun r' v' => r' = r ∧ i_Rel (k + 3) u' v') v v1 v2) u v1 v2 := by
  obtain ⟨c, e, cl, rk, ru, g, hc, he, h1, h2, h3, h4, rfl, rfl⟩ := I
  have R := ip_R (k := k + 3) hc he h1 h2 h3 h4
  rcases ip_cred (E := nI e) (cl := cl) (rk := rk) (ru := ru) (g := g) hc v1 with ⟨cX, cY⟩ | ⟨j, hj, rfl, cX, cY⟩
  · unfold wpX_move
    refine cX _ (br_t rfl ?_)
    unfold wpY_move
    exact cY _ (br_f ip_10 ⟨rfl, R⟩)
  · have vj := ip_v8 hc hj
    rcases ip_rk (c := c) (E := nI e) (cl := cl) (rk := rk) (ru := ru) (g := g) v2 with ⟨rX, rY⟩ | ⟨a, ha, rfl, rX, rY⟩
    · unfold wpX_move
      refine cX _ (br_f ip_10 (rX _ (br_t rfl ?_)))
      unfold wpY_move
      exact cY _ (br_t rfl (rY _ (br_f ip_10 ⟨rfl, R⟩)))
    · have R' := ip_R (k := k + 3) hc he h1 (ip_Bu h2 (nI j).toNatClampNeg ⟨a, ha, rfl⟩) h3 h4
      unfold wpX_move
      refine cX _ (br_f ip_10 (rX _ (br_f ip_10 ⟨vj, nm_e ⟨vj, nm_e ?_⟩⟩)))
      unfold wpY_move
      exact cY _ (br_t rfl (rY _ (br_t rfl ⟨vj, nm_e ⟨vj, nm_e ⟨rfl, R'⟩⟩⟩)))
theorem i_vc_rule {k : Nat} {u : SX} {v : SY} (I : i_Rel k u v) (hk : k + 3 ≤ 1536) (v1 : Int32) (v2 : Int32) : wpX_rule (fun r u' => wpY_rule (fun r' v' => r' = r ∧ i_Rel (k + 3) u' v') v v1 v2) u v1 v2 := by
  obtain ⟨c, e, cl, rk, ru, g, hc, he, h1, h2, h3, h4, rfl, rfl⟩ := I
  have R := ip_R (k := k + 3) hc he h1 h2 h3 h4
  rcases ip_rk (c := c) (E := nI e) (cl := cl) (rk := rk) (ru := ru) (g := g) v1 with ⟨cX, cY⟩ | ⟨q, hq, rfl, cX, cY⟩
  · unfold wpX_rule
    refine cX _ (br_t rfl ?_)
    unfold wpY_rule
    exact cY _ (br_f ip_10 ⟨rfl, R⟩)
  · have vq : vp_in (nI q) 4 := vp_in_nI (by omega) (by omega)
    rcases ip_rl v2 with ⟨rX, rY⟩ | ⟨a, ha, rfl, rX, rY⟩
    · unfold wpX_rule
      refine cX _ (br_f ip_10 (rX _ (br_t rfl ?_)))
      unfold wpY_rule
      exact cY _ (br_t rfl (rY _ _ ⟨rfl, R⟩))
    · have R' := ip_R (k := k + 3) hc he h1 h2 (ip_Bu h3 (nI q).toNatClampNeg ⟨a, ha, rfl⟩) h4
      unfold wpX_rule
      refine cX _ (br_f ip_10 (rX _ (br_f ip_10 ⟨vq, nm_e ⟨vq, nm_e ?_⟩⟩)))
      unfold wpY_rule
      exact cY _ (br_t rfl (rY _ _ ⟨vq, nm_e ⟨vq, nm_e ⟨rfl, R'⟩⟩⟩))
theorem i_vc_estate {k : Nat} {u : SX} {v : SY} (I : i_Rel k u v) (hk : k + 3 ≤ 1536) (v1 : Int32) : wpX_estate (fun r u' => wpY_estate (fun r' v' => r' = r ∧ i_Rel (k + 3) u' v') v v1) u v1 := by
  obtain ⟨c, e, cl, rk, ru, g, hc, he, h1, h2, h3, h4, rfl, rfl⟩ := I
  have R := ip_R (k := k + 3) hc he h1 h2 h3 h4
  by_cases a : v1 < -nI e
  · exact br_t a (br_t a ⟨rfl, R⟩)
  · by_cases b : v1 ≤ 1500 - nI e
    · obtain ⟨n, hn, en⟩ := ip_est he a b
      have R' := ip_R (k := k + 3) hc hn h1 h2 h3 h4
      exact br_f a (br_t b (nm_r en (br_f a (br_t b (nm_r en ⟨rfl, R'⟩)))))
    · exact br_f a (br_f b (br_f a (br_f b ⟨rfl, R⟩)))
theorem i_vc_creditors {k : Nat} {u : SX} {v : SY} (I : i_Rel k u v) (hk : k + 3 ≤ 1536) : wpX_creditors (fun r => wpY_creditors (fun r' => r' = r ∧ i_Rel (k + 3) u v) v) u := by
  obtain ⟨c, e, cl, rk, ru, g, hc, he, h1, h2, h3, h4, rfl, rfl⟩ := I
  have R := ip_R (k := k + 3) hc he h1 h2 h3 h4
  exact ⟨rfl, R⟩
theorem i_vc_claimOf {k : Nat} {u : SX} {v : SY} (I : i_Rel k u v) (hk : k + 3 ≤ 1536) (v1 : Int32) : wpX_claimOf (fun r => wpY_claimOf (fun r' => r' = r ∧ i_Rel (k + 3) u v) v v1) u v1 := by
  obtain ⟨c, e, cl, rk, ru, g, hc, he, h1, h2, h3, h4, rfl, rfl⟩ := I
  have R := ip_R (k := k + 3) hc he h1 h2 h3 h4
  rcases ip_cred (E := nI e) (cl := cl) (rk := rk) (ru := ru) (g := g) hc v1 with ⟨cX, cY⟩ | ⟨j, hj, rfl, cX, cY⟩
  · unfold wpX_claimOf
    refine cX _ (br_t rfl ?_)
    unfold wpY_claimOf
    exact cY _ (br_f ip_10 ⟨rfl, R⟩)
  · have vj := ip_v8 hc hj
    unfold wpX_claimOf
    refine cX _ (br_f ip_10 ⟨vj, ?_⟩)
    unfold wpY_claimOf
    exact cY _ (br_t rfl ⟨vj, rfl, R⟩)
theorem i_vc_claims {k : Nat} {u : SX} {v : SY} (I : i_Rel k u v) (hk : k + 3 ≤ 1536) (v1 : Int32) : wpX_claims (fun r => wpY_claims (fun r' => r' = r ∧ i_Rel (k + 3) u v) v v1) u v1 := by
  obtain ⟨c, e, cl, rk, ru, g, hc, he, h1, h2, h3, h4, rfl, rfl⟩ := I
  have R := ip_R (k := k + 3) hc he h1 h2 h3 h4
  rcases ip_rk (c := c) (E := nI e) (cl := cl) (rk := rk) (ru := ru) (g := g) v1 with ⟨cX, cY⟩ | ⟨q, hq, rfl, cX, cY⟩
  · unfold wpX_claims
    refine cX _ (br_t rfl ?_)
    unfold wpY_claims
    exact cY _ (br_f ip_10 ⟨rfl, R⟩)
  · obtain ⟨r, hX, hY⟩ := ip_claims (E := nI e) (cl := cl) (rk := rk) (ru := ru) (g := g) (x1 := nI q) hc c 0 0 (by omega)
    unfold wpX_claims
    refine cX _ (br_f ip_10 ⟨c + 1, hX _ ?_⟩)
    unfold wpY_claims
    exact cY _ (br_t rfl ⟨c + 1, hY _ ⟨rfl, R⟩⟩)
end
section
theorem ip_under (ru : Nat → Int32) {p : Nat} (hp : p ≤ 3) {o : Int32} : ∀ q : Nat, q ≤ 3 → (nI q = nI p → o = upd ru (nI p).toNatClampNeg o (nI q).toNatClampNeg) ∧ (¬ nI q = nI p → ru (nI q).toNatClampNeg = upd ru (nI p).toNatClampNeg o (nI q).toNatClampNeg) := by
  intro q hq
  refine ⟨fun e => by rw [e, pk_us], fun e => ?_⟩
  have ne : q ≠ p := fun z => e (congrArg nI z)
  rw [nI_clamp (n := q) (by omega), nI_clamp (n := p) (by omega), pk_un ne]
theorem ip_restore (ru : Nat → Int32) (p : Nat) (o : Int32) : upd (upd ru p o) p (ru p) = ru := by
  funext j
  by_cases e : j = p
  · subst e; exact pk_us
  · rw [pk_un e, pk_un e]
theorem i_vc_share {k : Nat} {u : SX} {v : SY} (I : i_Rel k u v) (hk : k + 3 ≤ 1536) (v1 : Int32) : wpX_share (fun r u' => wpY_share (fun r' v' => r' = r ∧ i_Rel (k + 3) u' v') v v1) u v1 := by
  obtain ⟨c, e, cl, rk, ru, g, hc, he, h1, h2, h3, h4, rfl, rfl⟩ := I
  have R := ip_R (k := k + 3) hc he h1 h2 h3 h4
  rcases ip_cred (E := nI e) (cl := cl) (rk := rk) (ru := ru) (g := g) hc v1 with ⟨cX, cY⟩ | ⟨j, hj, rfl, cX, cY⟩
  · unfold wpX_share
    refine cX _ (br_t rfl ?_)
    unfold wpY_share
    exact cY _ (br_f ip_10 ⟨rfl, R⟩)
  · have vj := ip_v8 hc hj
    obtain ⟨w, g', hg', hw, sX, sY⟩ := ip_all (E := nI e) he hc h1 h2 h3 h4
    have R' := ip_R (k := k + 3) hc he h1 h2 h3 hg'
    unfold wpX_share
    refine cX _ (br_f ip_10 (sX _ ⟨vj, ?_⟩))
    unfold wpY_share
    exact cY _ (br_t rfl (sY _ ⟨vj, rfl, R'⟩))
theorem i_vc_shareOf {k : Nat} {u : SX} {v : SY} (I : i_Rel k u v) (hk : k + 3 ≤ 1536) (v1 : Int32) (v2 : Int32) : wpX_shareOf (fun r u' => wpY_shareOf (fun r' v' => r' = r ∧ i_Rel (k + 3) u' v') v v1 v2) u v1 v2 := by
  obtain ⟨c, e, cl, rk, ru, g, hc, he, h1, h2, h3, h4, rfl, rfl⟩ := I
  have R := ip_R (k := k + 3) hc he h1 h2 h3 h4
  rcases ip_cred (E := nI e) (cl := cl) (rk := rk) (ru := ru) (g := g) hc v1 with ⟨cX, cY⟩ | ⟨j, hj, rfl, cX, cY⟩
  · unfold wpX_shareOf
    refine cX _ (br_t rfl ?_)
    unfold wpY_shareOf
    exact cY _ (br_f ip_10 ⟨rfl, R⟩)
  · have vj := ip_v8 hc hj
    rcases ip_rng v2 1500 (by omega) with z | ⟨z, z1, _, _⟩ | ⟨a, ha, rfl, z, z1, _, _⟩
    · unfold wpX_shareOf
      refine cX _ (br_f ip_10 (br_t z ?_))
      unfold wpY_shareOf
      exact cY _ (br_t rfl (br_t z ⟨rfl, R⟩))
    · unfold wpX_shareOf
      refine cX _ (br_f ip_10 (br_f z (br_f z1 ?_)))
      unfold wpY_shareOf
      exact cY _ (br_t rfl (br_f z (br_f z1 ⟨rfl, R⟩)))
    · obtain ⟨w, g', hg', hw, sX, sY⟩ := ip_all (E := nI e) ha hc h1 h2 h3 h4
      have R' := ip_R (k := k + 3) hc he h1 h2 h3 hg'
      unfold wpX_shareOf
      refine cX _ (br_f ip_10 (br_f z (br_t z1 (sX _ ⟨vj, ?_⟩))))
      unfold wpY_shareOf
      exact cY _ (br_t rfl (br_f z (br_t z1 (sY _ ⟨vj, rfl, R'⟩))))
theorem i_vc_shareUnder {k : Nat} {u : SX} {v : SY} (I : i_Rel k u v) (hk : k + 3 ≤ 1536) (v1 : Int32) (v2 : Int32) : wpX_shareUnder (fun r u' => wpY_shareUnder (fun r' v' => r' = r ∧ i_Rel (k + 3) u' v') v v1 v2) u v1 v2 := by
  obtain ⟨c, e, cl, rk, ru, g, hc, he, h1, h2, h3, h4, rfl, rfl⟩ := I
  have R := ip_R (k := k + 3) hc he h1 h2 h3 h4
  rcases ip_cred (E := nI e) (cl := cl) (rk := rk) (ru := ru) (g := g) hc v1 with ⟨cX, cY⟩ | ⟨j, hj, rfl, cX, cY⟩
  · unfold wpX_shareUnder
    refine cX _ (br_t rfl ?_)
    unfold wpY_shareUnder
    exact cY _ (br_f ip_10 ⟨rfl, R⟩)
  · have vj := ip_v8 hc hj
    rcases ip_rl v2 with ⟨rX, rY⟩ | ⟨a, ha, rfl, rX, rY⟩
    · unfold wpX_shareUnder
      refine cX _ (br_f ip_10 (rX _ (br_t rfl ?_)))
      unfold wpY_shareUnder
      exact cY _ (br_t rfl (rY _ _ ⟨rfl, R⟩))
    · obtain ⟨q, hq, eq⟩ := h2 (nI j).toNatClampNeg
      have vq : vp_in (nI q) 4 := vp_in_nI (by omega) (by omega)
      obtain ⟨w, g', hg', hw, sX, sY⟩ := ip_hand (E := nI e) (ruX := upd ru (nI q).toNatClampNeg (nI a)) (ruY := ru) (sp := nI q) (o := nI a) he hc h1 h2 (ip_Bu h3 _ ⟨a, ha, rfl⟩) h4 (ip_under ru hq)
      have R' := ip_R (k := k + 3) hc he h1 h2 h3 hg'
      unfold wpX_shareUnder
      refine cX _ (br_f ip_10 (rX _ (br_f ip_10 ⟨vj, nm_r eq ⟨vq, nm_e ⟨vq, nm_e (sX _ ⟨vq, nm_r (ip_restore ru _ _) ⟨vj, ?_⟩⟩)⟩⟩⟩)))
      unfold wpY_shareUnder
      refine cY _ (br_t rfl (rY _ _ ⟨vj, ?_⟩))
      rw [eq]
      exact sY _ ⟨vj, rfl, R'⟩
theorem i_vc_leastEstate {k : Nat} {u : SX} {v : SY} (I : i_Rel k u v) (hk : k + 3 ≤ 1536) (v1 : Int32) (v2 : Int32) : wpX_leastEstate (fun r u' => wpY_leastEstate (fun r' v' => r' = r ∧ i_Rel (k + 3) u' v') v v1 v2) u v1 v2 := by
  obtain ⟨c, e, cl, rk, ru, g, hc, he, h1, h2, h3, h4, rfl, rfl⟩ := I
  have R := ip_R (k := k + 3) hc he h1 h2 h3 h4
  rcases ip_cred (E := nI e) (cl := cl) (rk := rk) (ru := ru) (g := g) hc v1 with ⟨cX, cY⟩ | ⟨j, hj, rfl, cX, cY⟩
  · unfold wpX_leastEstate
    refine cX _ (br_t rfl ?_)
    unfold wpY_leastEstate
    exact cY _ (br_f ip_10 ⟨rfl, R⟩)
  · rcases ip_rng v2 150 (by omega) with z | ⟨z, z1, _, _⟩ | ⟨a, ha, rfl, z, z1, _, _⟩
    · unfold wpX_leastEstate
      refine cX _ (br_f ip_10 (br_t z ?_))
      unfold wpY_leastEstate
      exact cY _ (br_t rfl (br_t z (br_f ip_10 ⟨rfl, R⟩)))
    · unfold wpX_leastEstate
      refine cX _ (br_f ip_10 (br_f z (br_f z1 ?_)))
      unfold wpY_leastEstate
      exact cY _ (br_t rfl (br_f z (br_f z1 (br_f ip_10 ⟨rfl, R⟩))))
    · obtain ⟨g1, hg1, _, _, bX, bY⟩ := ip_back (c := c) (E := nI e) (cl := cl) (rk := rk) (ruX := ru) (ruY := ru) (x1 := 0) (x2 := -1) (x3 := 0) 8 0 g (by omega) h4
      obtain ⟨r, g', hg', lX, lY⟩ := ip_least (E := nI e) hc h1 h2 h3 hj (nI a) 1501 0 g1 (by omega) hg1
      have R' := ip_R (k := k + 3) hc he h1 h2 h3 hg'
      unfold wpX_leastEstate
      refine cX _ (br_f ip_10 (br_f z (br_t z1 ⟨9, bX _ ⟨1502, lX _ ?_⟩⟩)))
      unfold wpY_leastEstate
      exact cY _ (br_t rfl (br_f z (br_t z1 (br_t rfl ⟨9, bY _ ⟨1, br_t (by decide) ⟨1502, lY _ ⟨rfl, R'⟩⟩⟩⟩))))
theorem i_vc_paid {k : Nat} {u : SX} {v : SY} (I : i_Rel k u v) (hk : k + 3 ≤ 1536) (v1 : Int32) : wpX_paid (fun r u' => wpY_paid (fun r' v' => r' = r ∧ i_Rel (k + 3) u' v') v v1) u v1 := by
  obtain ⟨c, e, cl, rk, ru, g, hc, he, h1, h2, h3, h4, rfl, rfl⟩ := I
  have R := ip_R (k := k + 3) hc he h1 h2 h3 h4
  rcases ip_rk (c := c) (E := nI e) (cl := cl) (rk := rk) (ru := ru) (g := g) v1 with ⟨cX, cY⟩ | ⟨q, hq, rfl, cX, cY⟩
  · unfold wpX_paid
    refine cX _ (br_t rfl ?_)
    unfold wpY_paid
    exact cY _ (br_f ip_10 ⟨rfl, R⟩)
  · obtain ⟨w, g', hg', hw, sX, sY⟩ := ip_all (E := nI e) he hc h1 h2 h3 h4
    have R' := ip_R (k := k + 3) hc he h1 h2 h3 hg'
    obtain ⟨r, hX, hY⟩ := ip_paid (E := nI e) (cl := cl) (rk := rk) (ru := ru) (g := g') (x1 := nI q) hc c 0 0 (by omega)
    unfold wpX_paid
    refine cX _ (br_f ip_10 (sX _ ⟨c + 1, hX _ ?_⟩))
    unfold wpY_paid
    exact cY _ (br_t rfl (sY _ ⟨c + 1, hY _ ⟨rfl, R'⟩⟩))
theorem i_vc_left {k : Nat} {u : SX} {v : SY} (I : i_Rel k u v) (hk : k + 3 ≤ 1536) : wpX_left (fun r u' => wpY_left (fun r' v' => r' = r ∧ i_Rel (k + 3) u' v') v) u := by
  obtain ⟨c, e, cl, rk, ru, g, hc, he, h1, h2, h3, h4, rfl, rfl⟩ := I
  have R := ip_R (k := k + 3) hc he h1 h2 h3 h4
  obtain ⟨w, g', hg', hw, sX, sY⟩ := ip_all (E := nI e) he hc h1 h2 h3 h4
  have R' := ip_R (k := k + 3) hc he h1 h2 h3 hg'
  unfold wpX_left
  refine sX _ ⟨c + 1, ip_left hc c 0 (nI e) w (by omega) (hw.trans (Int32.add_zero _).symm) _ ?_⟩
  unfold wpY_left
  exact sY _ ⟨rfl, R'⟩
theorem i_vc_next {k : Nat} {u : SX} {v : SY} (I : i_Rel k u v) (hk : k + 3 ≤ 1536) : wpX_next (fun r u' => wpY_next (fun r' v' => r' = r ∧ i_Rel (k + 3) u' v') v) u := by
  obtain ⟨c, e, cl, rk, ru, g, hc, he, h1, h2, h3, h4, rfl, rfl⟩ := I
  have R := ip_R (k := k + 3) hc he h1 h2 h3 h4
  obtain ⟨w, g', hg', hw, sX, sY⟩ := ip_all (E := nI e) he hc h1 h2 h3 h4
  have R' := ip_R (k := k + 3) hc he h1 h2 h3 hg'
  obtain ⟨r, _, nX, nY⟩ := ip_chosen (E := nI e) (ruY := ru) hc h1 h2 hg' h3 (ip_same (-1) rfl 0 ru)
  unfold wpX_next
  refine sX _ (nX _ ?_)
  unfold wpY_next
  exact sY _ (nY _ ⟨rfl, R'⟩)
theorem i_vc_unpaid {k : Nat} {u : SX} {v : SY} (I : i_Rel k u v) (hk : k + 3 ≤ 1536) : wpX_unpaid (fun r u' => wpY_unpaid (fun r' v' => r' = r ∧ i_Rel (k + 3) u' v') v) u := by
  obtain ⟨c, e, cl, rk, ru, g, hc, he, h1, h2, h3, h4, rfl, rfl⟩ := I
  have R := ip_R (k := k + 3) hc he h1 h2 h3 h4
  obtain ⟨w, g', hg', hw, sX, sY⟩ := ip_all (E := nI e) he hc h1 h2 h3 h4
  have R' := ip_R (k := k + 3) hc he h1 h2 h3 hg'
  obtain ⟨r, hX, hY⟩ := ip_unpaid (E := nI e) (cl := cl) (rk := rk) (ru := ru) (g := g') hc c 0 0 (by omega)
  unfold wpX_unpaid
  refine sX _ ⟨c + 1, hX _ ?_⟩
  unfold wpY_unpaid
  exact sY _ ⟨c + 1, hY _ ⟨rfl, R'⟩⟩
theorem i_vc_worst {k : Nat} {u : SX} {v : SY} (I : i_Rel k u v) (hk : k + 3 ≤ 1536) : wpX_worst (fun r u' => wpY_worst (fun r' v' => r' = r ∧ i_Rel (k + 3) u' v') v) u := by
  obtain ⟨c, e, cl, rk, ru, g, hc, he, h1, h2, h3, h4, rfl, rfl⟩ := I
  have R := ip_R (k := k + 3) hc he h1 h2 h3 h4
  obtain ⟨w, g', hg', hw, sX, sY⟩ := ip_all (E := nI e) he hc h1 h2 h3 h4
  have R' := ip_R (k := k + 3) hc he h1 h2 h3 hg'
  obtain ⟨r, hX, hY⟩ := ip_worst (E := nI e) (cl := cl) (rk := rk) (ru := ru) (g := g') hc c 0 0 (by omega)
  unfold wpX_worst
  refine sX _ ⟨c + 1, hX _ ?_⟩
  unfold wpY_worst
  exact sY _ ⟨c + 1, hY _ ⟨rfl, R'⟩⟩
end
