def ip_good (c : Nat) (cl g : Nat → Int32) (r : Int32) : Prop := r = -1 ∨ ∃ t : Nat, t < c ∧ r = nI t ∧ ¬ cl t ≤ g t
def ip_ord (x2 x4 x7 : Int32) : Prop := (x2 = 0 ∧ (x4 = 0 ∨ ¬ x7 = 0)) ∨ (x2 = 1 ∧ ¬ x4 = 0 ∧ x7 = 0 ∧ ¬ x4 = 2) ∨ (x2 = 2 ∧ ¬ x4 = 0 ∧ x7 = 0 ∧ x4 = 2)
section
variable {c : Nat} {E : Int32} {cl rk ruX ruY g : Nat → Int32}
theorem ip_ahead {x2 x4 x7 : Int32} (ho : ip_ord x2 x4 x7) {i t : Nat} (hi : i < 8) (ht : t < 8) : ∃ b : Int32, (∀ post : Int32 → Prop, post b → wpX_isAhead post (nI c, E, cl, rk, ruX, g) (nI i) (nI t) x2) ∧ (∀ post : Int32 → Prop, post b → wpY_before post (nI c, E, cl, rk, ruY, g) (nI i) (nI t) x4 x7) := by
  have vi : vp_in (nI i) 8 := vp_in_nI hi (by omega)
  have vt : vp_in (nI t) 8 := vp_in_nI ht (by omega)
  rcases ho with ⟨rfl, h⟩ | ⟨rfl, h0, h7, h2⟩ | ⟨rfl, h0, h7, h2⟩
  · obtain ⟨b, hb⟩ := ip_if (g (nI t).toNatClampNeg ≤ g (nI i).toNatClampNeg)
    refine ⟨b, fun post hp => br_t rfl ⟨vi, vt, hb post hp⟩, fun post hp => ?_⟩
    have k : wY_before_9 post (nI i) (nI t) (nI c) E cl rk ruY g := ⟨vi, vt, hb post hp⟩
    by_cases h4 : x4 = 0
    · exact br_t h4 k
    · exact br_f h4 (br_f (h.resolve_left h4) k)
  · obtain ⟨b, hb⟩ := ip_if (cl (nI i).toNatClampNeg - g (nI i).toNatClampNeg ≤ cl (nI t).toNatClampNeg - g (nI t).toNatClampNeg)
    exact ⟨b, fun post hp => br_f ip_10 (br_t rfl ⟨vi, vi, vt, vt, hb post hp⟩), fun post hp => br_f h0 (br_t h7 (br_f h2 ⟨vi, vi, vt, vt, hb post hp⟩))⟩
  · obtain ⟨b, hb⟩ := ip_if (cl (nI i).toNatClampNeg * (g (nI t).toNatClampNeg + 1) ≤ cl (nI t).toNatClampNeg * (g (nI i).toNatClampNeg + 1))
    exact ⟨b, fun post hp => br_f (by decide) (br_f (by decide) ⟨vi, vt, vt, vi, hb post hp⟩), fun post hp => br_f h0 (br_t h7 (br_t h2 ⟨vi, vt, vt, vi, hb post hp⟩))⟩
theorem ip_yes {x1 x2 x3 x4 x7 best : Int32} (ho : ip_ord x2 x4 x7) {i : Nat} (hc : c ≤ 8) (hi : i < c) (hr : rk (nI i).toNatClampNeg = x1) (hb : ip_good c cl g best) (hg : ¬ cl (nI i).toNatClampNeg ≤ g (nI i).toNatClampNeg) : ∃ b : Int32, ip_good c cl g b ∧ (∀ (post : Int32 → Prop) (J : Int32 → Int32 → Prop), J b (nI (i + 1)) → wX_takerInRank_75 post J x1 x2 x3 best (nI i) 1 (nI c) E cl rk ruX g) ∧ (∀ (post : Int32 → Prop) (J : Int32 → Int32 → Prop), J b (nI (i + 1)) → wY_chosen_201 post J x1 x4 x7 best (nI i) 1 (nI c) E cl rk ruY g) := by
  have vi : vp_in (nI i) 8 := ip_v8 hc hi
  have gi : ip_good c cl g (nI i) := by
    rw [nI_clamp (by omega)] at hg
    exact Or.inr ⟨i, hi, rfl, hg⟩
  rcases hb with rfl | ⟨t, ht, rfl, gt⟩
  · exact ⟨nI i, gi, fun post J hJ => ⟨vi, br_t hr (br_f ip_10 (br_t rfl (nm_r (nI_1 i) hJ)))⟩, fun post J hJ => br_f ip_10 (br_f ip_n0 (nm_r (nI_1 i) hJ))⟩
  · have t1 : ¬ nI t = -1 := ip_m1 (by omega)
    have t0 : 0 ≤ nI t := nI_pos' (by omega)
    obtain ⟨b, hX, hY⟩ := ip_ahead (c := c) (E := E) (cl := cl) (rk := rk) (ruX := ruX) (ruY := ruY) (g := g) ho (i := i) (t := t) (by omega) (by omega)
    by_cases hb0 : b = 0
    · exact ⟨nI t, Or.inr ⟨t, ht, rfl, gt⟩, fun post J hJ => ⟨vi, br_t hr (br_f ip_10 (br_f t1 (hX _ (br_t hb0 (nm_r (nI_1 i) hJ)))))⟩, fun post J hJ => br_f ip_10 (br_t t0 (br_f ip_10 (hY _ (br_t hb0 (nm_r (nI_1 i) hJ)))))⟩
    · exact ⟨nI i, gi, fun post J hJ => ⟨vi, br_t hr (br_f ip_10 (br_f t1 (hX _ (br_f hb0 (nm_r (nI_1 i) hJ)))))⟩, fun post J hJ => br_f ip_10 (br_t t0 (br_f ip_10 (hY _ (br_f hb0 (nm_r (nI_1 i) hJ)))))⟩
theorem ip_noX {x1 x2 x3 best : Int32} {i : Nat} (hc : c ≤ 8) (hi : i < c) (post : Int32 → Prop) (J : Int32 → Int32 → Prop) (hJ : J best (nI (i + 1))) : wX_takerInRank_75 post J x1 x2 x3 best (nI i) 0 (nI c) E cl rk ruX g :=
  ⟨ip_v8 hc hi, br_c (fun _ => br_t rfl (nm_r (nI_1 i) hJ)) (fun _ => nm_r (nI_1 i) hJ)⟩
theorem ip_nrX {x1 x2 x3 best z0 : Int32} {i : Nat} (hc : c ≤ 8) (hi : i < c) (hr : ¬ rk (nI i).toNatClampNeg = x1) (post : Int32 → Prop) (J : Int32 → Int32 → Prop) (hJ : J best (nI (i + 1))) : wX_takerInRank_75 post J x1 x2 x3 best (nI i) z0 (nI c) E cl rk ruX g :=
  ⟨ip_v8 hc hi, br_f hr (nm_r (nI_1 i) hJ)⟩
theorem ip_no1 {x1 x4 x7 best : Int32} {i : Nat} (post : Int32 → Prop) (J : Int32 → Int32 → Prop) (hJ : J best (nI (i + 1))) : wY_chosen_201 post J x1 x4 x7 best (nI i) 0 (nI c) E cl rk ruY g :=
  br_t rfl (br_t rfl (nm_r (nI_1 i) hJ))
theorem ip_noY {x1 x4 x7 best : Int32} {i : Nat} (hc : c ≤ 8) (hi : i < c) (post : Int32 → Prop) (J : Int32 → Int32 → Prop) (hJ : J best (nI (i + 1))) : wY_chosen_171 post J x1 x4 x7 best (nI i) (nI c) E cl rk ruY g :=
  br_c (fun _ => ip_no1 post J hJ) (fun _ => ⟨ip_v8 hc hi, ip_v8 hc hi, br_c (fun _ => ip_no1 post J hJ) (fun _ => ip_no1 post J hJ)⟩)
theorem ip_take {x1 x2 x3 x4 : Int32} (ho : ip_ord x2 x4 x3) (hc : c ≤ 8) (hcl : ip_B 150 cl) (hg : ip_B 150 g) : ∀ (d i : Nat) (best : Int32), i + d = c → ip_good c cl g best → ∃ r : Int32, ip_good c cl g r ∧ (∀ post : Int32 → Prop, post r → wX_takerInRank_47 post x1 x2 x3 (nI c) E cl rk ruX g (d + 1) best (nI i)) ∧ (∀ post : Int32 → Prop, post r → wY_chosen_123 post x1 x4 x3 (nI c) E cl rk ruY g (d + 1) best (nI i)) := by
  intro d
  induction d with
  | zero =>
    intro i best hi hb
    have h : nI c ≤ nI i := nI_le (by omega) (by omega)
    exact ⟨best, hb, fun _ hp => br_t h hp, fun _ hp => br_t h hp⟩
  | succ d ih =>
    intro i best hi hb
    have hic : i < c := by omega
    have h := ip_ne hc hic
    have h8 := ip_n8 hc hic
    have vi := ip_v8 hc hic
    by_cases hr : rk (nI i).toNatClampNeg = x1
    · by_cases h3 : x3 = 0
      · by_cases hq : cl (nI i).toNatClampNeg ≤ g (nI i).toNatClampNeg
        · obtain ⟨r, gr, hX, hY⟩ := ih (i + 1) best (by omega) hb
          exact ⟨r, gr, fun post hp => br_f h (br_t h3 ⟨vi, vi, br_t hq (ip_noX hc hic _ _ (hX post hp))⟩), fun post hp => br_f h (br_f h8 ⟨vi, br_t hr ⟨vi, vi, br_t hq (ip_noY hc hic _ _ (hY post hp))⟩⟩)⟩
        · obtain ⟨b, gb, bX, bY⟩ := ip_yes (E := E) (ruX := ruX) (ruY := ruY) (x3 := x3) ho hc hic hr hb hq
          obtain ⟨r, gr, hX, hY⟩ := ih (i + 1) b (by omega) gb
          exact ⟨r, gr, fun post hp => br_f h (br_t h3 ⟨vi, vi, br_f hq (bX _ _ (hX post hp))⟩), fun post hp => br_f h (br_f h8 ⟨vi, br_t hr ⟨vi, vi, br_f hq (br_t h3 (bY _ _ (hY post hp)))⟩⟩)⟩
      · by_cases hq : cl (nI i).toNatClampNeg ≤ 2 * g (nI i).toNatClampNeg
        · obtain ⟨r, gr, hX, hY⟩ := ih (i + 1) best (by omega) hb
          exact ⟨r, gr, fun post hp => br_f h (br_f h3 ⟨vi, vi, br_t hq (ip_noX hc hic _ _ (hX post hp))⟩), fun post hp => br_f h (br_f h8 ⟨vi, br_t hr ⟨vi, vi, br_c (fun _ => ip_noY hc hic _ _ (hY post hp)) (fun _ => br_f h3 ⟨vi, vi, br_f (Int32.not_lt.mpr hq) (ip_no1 _ _ (hY post hp))⟩)⟩⟩)⟩
        · have hq' := ip_half (hcl _) (hg _) hq
          obtain ⟨b, gb, bX, bY⟩ := ip_yes (E := E) (ruX := ruX) (ruY := ruY) (x3 := x3) ho hc hic hr hb hq'
          obtain ⟨r, gr, hX, hY⟩ := ih (i + 1) b (by omega) gb
          exact ⟨r, gr, fun post hp => br_f h (br_f h3 ⟨vi, vi, br_f hq (bX _ _ (hX post hp))⟩), fun post hp => br_f h (br_f h8 ⟨vi, br_t hr ⟨vi, vi, br_f hq' (br_f h3 ⟨vi, vi, br_t (Int32.not_le.mp hq) (bY _ _ (hY post hp))⟩)⟩⟩)⟩
    · obtain ⟨r, gr, hX, hY⟩ := ih (i + 1) best (by omega) hb
      exact ⟨r, gr, fun post hp => br_f h (br_c (fun _ => ⟨vi, vi, br_c (fun _ => ip_nrX hc hic hr _ _ (hX post hp)) (fun _ => ip_nrX hc hic hr _ _ (hX post hp))⟩) (fun _ => ⟨vi, vi, br_c (fun _ => ip_nrX hc hic hr _ _ (hX post hp)) (fun _ => ip_nrX hc hic hr _ _ (hX post hp))⟩)), fun post hp => br_f h (br_f h8 ⟨vi, br_f hr (ip_noY hc hic _ _ (hY post hp))⟩)⟩
theorem ip_sums {x1 w : Int32} (hc : c ≤ 8) : ∀ (d i : Nat) (a p : Int32), i + d = c → ∃ a' p' : Int32, (∀ post : Int32 → Prop, ((a' ≤ 2 * p' → post 0) ∧ (¬ a' ≤ 2 * p' → post 1)) → wX_isInFirstHalf_7 post x1 (nI c) E cl rk ruX g (d + 1) a p (nI i)) ∧ (∀ post : Int32 → Prop, wY_chosen_95 post x1 w a' p' (nI c) E cl rk ruY g → wY_chosen_38 post x1 w (nI c) E cl rk ruY g (d + 1) a p (nI i)) := by
  intro d
  induction d with
  | zero =>
    intro i a p hi
    have h : nI c ≤ nI i := nI_le (by omega) (by omega)
    exact ⟨a, p, fun _ hp => br_t h hp, fun _ hp => br_t h hp⟩
  | succ d ih =>
    intro i a p hi
    have hic : i < c := by omega
    have h := ip_ne hc hic
    have h8 := ip_n8 hc hic
    have vi := ip_v8 hc hic
    by_cases hr : rk (nI i).toNatClampNeg = x1
    · obtain ⟨a', p', hX, hY⟩ := ih (i + 1) (a + cl (nI i).toNatClampNeg) (p + g (nI i).toNatClampNeg) (by omega)
      exact ⟨a', p', fun post hp => br_f h ⟨vi, br_t hr ⟨vi, nm_e ⟨vi, nm_e (nm_r (nI_1 i) (hX post hp))⟩⟩⟩, fun post hp => br_f h (br_f h8 ⟨vi, br_t hr ⟨vi, nm_e ⟨vi, nm_e (nm_r (nI_1 i) (hY post hp))⟩⟩⟩)⟩
    · obtain ⟨a', p', hX, hY⟩ := ih (i + 1) a p (by omega)
      exact ⟨a', p', fun post hp => br_f h ⟨vi, br_f hr (nm_r (nI_1 i) (hX post hp))⟩, fun post hp => br_f h (br_f h8 ⟨vi, br_f hr (nm_r (nI_1 i) (hY post hp))⟩)⟩
theorem ip_w {w : Int32} (hw : ∃ n : Nat, n ≤ 3 ∧ w = nI n) (h3 : ¬ w = 3) : ip_ord w w 0 := by
  obtain ⟨n, hn, rfl⟩ := hw
  match n, hn, h3 with
  | 0, _, _ => exact Or.inl ⟨rfl, Or.inl rfl⟩
  | 1, _, _ => exact Or.inr (Or.inl ⟨rfl, by decide, rfl, by decide⟩)
  | 2, _, _ => exact Or.inr (Or.inr ⟨rfl, by decide, rfl, rfl⟩)
  | 3, _, h3 => exact absurd rfl h3
theorem ip_inRank (hc : c ≤ 8) (hcl : ip_B 150 cl) (hg : ip_B 150 g) (hru : ip_B 3 ruX) {q : Nat} (hq : q ≤ 3) : ∃ r : Int32, ip_good c cl g r ∧ (∀ post : Int32 → Prop, post r → wpX_takerInRank post (nI c, E, cl, rk, ruX, g) (nI q)) ∧ (∀ post : Int32 → Prop, post r → wY_chosen_38 post (nI q) (ruX (nI q).toNatClampNeg) (nI c) E cl rk ruY g (c + 1) 0 0 0) := by
  have vq : vp_in (nI q) 4 := vp_in_nI (by omega) (by omega)
  obtain ⟨a, p, sX, sY⟩ := ip_sums (E := E) (cl := cl) (rk := rk) (ruX := ruX) (ruY := ruY) (g := g) (x1 := nI q) (w := ruX (nI q).toNatClampNeg) hc c 0 0 0 (by omega)
  by_cases hw : ruX (nI q).toNatClampNeg = 3
  · by_cases hh : a ≤ 2 * p
    · obtain ⟨r, gr, tX, tY⟩ := ip_take (E := E) (rk := rk) (ruX := ruX) (ruY := ruY) (x1 := nI q) (x2 := 1) (x3 := 0) (x4 := ruX (nI q).toNatClampNeg) (Or.inr (Or.inl ⟨rfl, by rw [hw]; decide, rfl, by rw [hw]; decide⟩)) hc hcl hg c 0 (-1) (by omega) (Or.inl rfl)
      exact ⟨r, gr, fun post hp => ⟨vq, nm_e (br_t hw ⟨c + 1, sX _ (br_t hh (br_t rfl (br_t hw (br_t rfl ⟨c + 1, tX _ hp⟩))))⟩)⟩, fun post hp => sY _ (br_t hw (br_t hh ⟨c + 1, tY _ hp⟩))⟩
    · obtain ⟨r, gr, tX, tY⟩ := ip_take (E := E) (rk := rk) (ruX := ruX) (ruY := ruY) (x1 := nI q) (x2 := 0) (x3 := 1) (x4 := ruX (nI q).toNatClampNeg) (Or.inl ⟨rfl, Or.inr ip_10⟩) hc hcl hg c 0 (-1) (by omega) (Or.inl rfl)
      exact ⟨r, gr, fun post hp => ⟨vq, nm_e (br_t hw ⟨c + 1, sX _ (br_f hh (br_f ip_10 (br_t hw (br_f ip_10 ⟨c + 1, tX _ hp⟩))))⟩)⟩, fun post hp => sY _ (br_t hw (br_f hh ⟨c + 1, tY _ hp⟩))⟩
  · obtain ⟨r, gr, tX, tY⟩ := ip_take (E := E) (rk := rk) (ruX := ruX) (ruY := ruY) (x1 := nI q) (ip_w (hru _) hw) hc hcl hg c 0 (-1) (by omega) (Or.inl rfl)
    exact ⟨r, gr, fun post hp => ⟨vq, nm_e (br_f hw (br_f hw ⟨c + 1, tX _ hp⟩))⟩, fun post hp => sY _ (br_f hw ⟨c + 1, tY _ hp⟩)⟩
theorem ip_open (hc : c ≤ 8) (hrk : ip_B 3 rk) : ∀ (d i : Nat) (x : Int32), i + d = c → (x = 4 ∨ ∃ q : Nat, q ≤ 3 ∧ x = nI q) → ∃ r : Int32, (r = 4 ∨ ∃ q : Nat, q ≤ 3 ∧ r = nI q) ∧ (∀ post : Int32 → Prop, ((r = 4 → post (-1)) ∧ (¬ r = 4 → wpX_takerInRank (fun r_3 => post r_3) (nI c, E, cl, rk, ruX, g) r)) → wX_nextTaker_4 post (nI c) E cl rk ruX g (d + 1) x (nI i)) ∧ (∀ post : Int32 → Prop, post r → wY_openRank_4 post (nI c) E cl rk ruY g (d + 1) x (nI i)) := by
  intro d
  induction d with
  | zero =>
    intro i x hi hx
    have h : nI c ≤ nI i := nI_le (by omega) (by omega)
    exact ⟨x, hx, fun _ hp => br_t h hp, fun _ hp => br_t h hp⟩
  | succ d ih =>
    intro i x hi hx
    have hic : i < c := by omega
    have h := ip_ne hc hic
    have h8 := ip_n8 hc hic
    have vi := ip_v8 hc hic
    by_cases hq : cl (nI i).toNatClampNeg ≤ g (nI i).toNatClampNeg
    · obtain ⟨r, gr, hX, hY⟩ := ih (i + 1) x (by omega) hx
      exact ⟨r, gr, fun post hp => br_f h ⟨vi, vi, br_t hq (br_t rfl (nm_r (nI_1 i) (hX post hp)))⟩, fun post hp => br_f h (br_f h8 ⟨vi, vi, br_t hq (nm_r (nI_1 i) (hY post hp))⟩)⟩
    · by_cases hr : x ≤ rk (nI i).toNatClampNeg
      · obtain ⟨r, gr, hX, hY⟩ := ih (i + 1) x (by omega) hx
        exact ⟨r, gr, fun post hp => br_f h ⟨vi, vi, br_f hq (br_f ip_10 ⟨vi, br_t hr (nm_r (nI_1 i) (hX post hp))⟩)⟩, fun post hp => br_f h (br_f h8 ⟨vi, vi, br_f hq ⟨vi, br_t hr (nm_r (nI_1 i) (hY post hp))⟩⟩)⟩
      · obtain ⟨r, gr, hX, hY⟩ := ih (i + 1) (rk (nI i).toNatClampNeg) (by omega) (Or.inr (hrk _))
        exact ⟨r, gr, fun post hp => br_f h ⟨vi, vi, br_f hq (br_f ip_10 ⟨vi, br_f hr ⟨vi, nm_e (nm_r (nI_1 i) (hX post hp))⟩⟩)⟩, fun post hp => br_f h (br_f h8 ⟨vi, vi, br_f hq ⟨vi, br_f hr ⟨vi, nm_e (nm_r (nI_1 i) (hY post hp))⟩⟩⟩)⟩
theorem ip_chosen (hc : c ≤ 8) (hcl : ip_B 150 cl) (hrk : ip_B 3 rk) (hg : ip_B 150 g) (hru : ip_B 3 ruX) {sp o : Int32} (hs : ∀ q : Nat, q ≤ 3 → (nI q = sp → o = ruX (nI q).toNatClampNeg) ∧ (¬ nI q = sp → ruY (nI q).toNatClampNeg = ruX (nI q).toNatClampNeg)) : ∃ r : Int32, ip_good c cl g r ∧ (∀ post : Int32 → Prop, post r → wpX_nextTaker post (nI c, E, cl, rk, ruX, g)) ∧ (∀ post : Int32 → Prop, post r → wpY_chosen post (nI c, E, cl, rk, ruY, g) sp o) := by
  obtain ⟨q0, hq0, oX, oY⟩ := ip_open (E := E) (cl := cl) (ruX := ruX) (ruY := ruY) (g := g) hc hrk c 0 4 (by omega) (Or.inl rfl)
  rcases hq0 with rfl | ⟨q, hq, rfl⟩
  · exact ⟨-1, Or.inl rfl, fun post hp => ⟨c + 1, oX _ (br_t rfl hp)⟩, fun post hp => ⟨c + 1, oY _ (br_f (by decide) hp)⟩⟩
  · have n4 : ¬ nI q = 4 := by
      intro e
      have e' : nI q = nI 4 := e
      rw [nI_eq (by omega) (by omega)] at e'
      omega
    have l3 : nI q ≤ 3 := nI_le (b := 3) hq (by omega)
    have vq : vp_in (nI q) 4 := vp_in_nI (by omega) (by omega)
    obtain ⟨r, gr, rX, rY⟩ := ip_inRank (E := E) (rk := rk) (ruY := ruY) hc hcl hg hru hq
    refine ⟨r, gr, fun post hp => ⟨c + 1, oX _ (br_f n4 (rX _ hp))⟩, fun post hp => ⟨c + 1, oY _ (br_t l3 (br_c (fun e => ⟨c + 1, ?_⟩) (fun e => ⟨vq, nm_r ((hs q hq).2 e) ⟨c + 1, rY _ hp⟩⟩)))⟩⟩
    rw [(hs q hq).1 e]
    exact rY _ hp
end
