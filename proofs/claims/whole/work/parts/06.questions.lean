theorem ip_under (ru : Nat → Int32) {p : Nat} (hp : p ≤ 3) {o : Int32} : ∀ q : Nat, q ≤ 3 → (nI q = nI p → o = upd ru (nI p).toNatClampNeg o (nI q).toNatClampNeg) ∧ (¬ nI q = nI p → ru (nI q).toNatClampNeg = upd ru (nI p).toNatClampNeg o (nI q).toNatClampNeg) := by
  intro q hq
  refine ⟨fun e => by rw [e, pk_us], fun e => ?_⟩
  have ne : q ≠ p := fun z => e (congrArg nI z)
  rw [nI_clamp (n := q) (by omega), nI_clamp (n := p) (by omega), pk_un ne]
theorem ip_restore (ru : Nat → Int32) (p : Nat) (o : Int32) : upd (upd ru p o) p (ru p) = ru := by
  funext j
  by_cases e : j = p
  · subst e; exact pk_us
  · rw [pk_un e, pk_un e]
theorem i_vc_share {k : Nat} {u : SX} {v : SY} (I : i_Rel k u v) (hk : k + 3 ≤ 1536) (v1 : Int32) : wpX_share (fun r u' => wpY_share (fun r' v' => r' = r ∧ i_Rel (k + 3) u' v') v v1) u v1 := by
  obtain ⟨c, e, cl, rk, ru, g, hc, he, h1, h2, h3, h4, rfl, rfl⟩ := I
  have R := ip_R (k := k + 3) hc he h1 h2 h3 h4
  rcases ip_cred (E := nI e) (cl := cl) (rk := rk) (ru := ru) (g := g) hc v1 with ⟨cX, cY⟩ | ⟨j, hj, rfl, cX, cY⟩
  · unfold wpX_share
    refine cX _ (br_t rfl ?_)
    unfold wpY_share
    exact cY _ (br_f ip_10 ⟨rfl, R⟩)
  · have vj := ip_v8 hc hj
    obtain ⟨w, g', hg', hw, sX, sY⟩ := ip_all (E := nI e) he hc h1 h2 h3 h4
    have R' := ip_R (k := k + 3) hc he h1 h2 h3 hg'
    unfold wpX_share
    refine cX _ (br_f ip_10 (sX _ ⟨vj, ?_⟩))
    unfold wpY_share
    exact cY _ (br_t rfl (sY _ ⟨vj, rfl, R'⟩))
theorem i_vc_shareOf {k : Nat} {u : SX} {v : SY} (I : i_Rel k u v) (hk : k + 3 ≤ 1536) (v1 : Int32) (v2 : Int32) : wpX_shareOf (fun r u' => wpY_shareOf (fun r' v' => r' = r ∧ i_Rel (k + 3) u' v') v v1 v2) u v1 v2 := by
  obtain ⟨c, e, cl, rk, ru, g, hc, he, h1, h2, h3, h4, rfl, rfl⟩ := I
  have R := ip_R (k := k + 3) hc he h1 h2 h3 h4
  rcases ip_cred (E := nI e) (cl := cl) (rk := rk) (ru := ru) (g := g) hc v1 with ⟨cX, cY⟩ | ⟨j, hj, rfl, cX, cY⟩
  · unfold wpX_shareOf
    refine cX _ (br_t rfl ?_)
    unfold wpY_shareOf
    exact cY _ (br_f ip_10 ⟨rfl, R⟩)
  · have vj := ip_v8 hc hj
    rcases ip_rng v2 1500 (by omega) with z | ⟨z, z1, _, _⟩ | ⟨a, ha, rfl, z, z1, _, _⟩
    · unfold wpX_shareOf
      refine cX _ (br_f ip_10 (br_t z ?_))
      unfold wpY_shareOf
      exact cY _ (br_t rfl (br_t z ⟨rfl, R⟩))
    · unfold wpX_shareOf
      refine cX _ (br_f ip_10 (br_f z (br_f z1 ?_)))
      unfold wpY_shareOf
      exact cY _ (br_t rfl (br_f z (br_f z1 ⟨rfl, R⟩)))
    · obtain ⟨w, g', hg', hw, sX, sY⟩ := ip_all (E := nI e) ha hc h1 h2 h3 h4
      have R' := ip_R (k := k + 3) hc he h1 h2 h3 hg'
      unfold wpX_shareOf
      refine cX _ (br_f ip_10 (br_f z (br_t z1 (sX _ ⟨vj, ?_⟩))))
      unfold wpY_shareOf
      exact cY _ (br_t rfl (br_f z (br_t z1 (sY _ ⟨vj, rfl, R'⟩))))
theorem i_vc_shareUnder {k : Nat} {u : SX} {v : SY} (I : i_Rel k u v) (hk : k + 3 ≤ 1536) (v1 : Int32) (v2 : Int32) : wpX_shareUnder (fun r u' => wpY_shareUnder (fun r' v' => r' = r ∧ i_Rel (k + 3) u' v') v v1 v2) u v1 v2 := by
  obtain ⟨c, e, cl, rk, ru, g, hc, he, h1, h2, h3, h4, rfl, rfl⟩ := I
  have R := ip_R (k := k + 3) hc he h1 h2 h3 h4
  rcases ip_cred (E := nI e) (cl := cl) (rk := rk) (ru := ru) (g := g) hc v1 with ⟨cX, cY⟩ | ⟨j, hj, rfl, cX, cY⟩
  · unfold wpX_shareUnder
    refine cX _ (br_t rfl ?_)
    unfold wpY_shareUnder
    exact cY _ (br_f ip_10 ⟨rfl, R⟩)
  · have vj := ip_v8 hc hj
    rcases ip_rl v2 with ⟨rX, rY⟩ | ⟨a, ha, rfl, rX, rY⟩
    · unfold wpX_shareUnder
      refine cX _ (br_f ip_10 (rX _ (br_t rfl ?_)))
      unfold wpY_shareUnder
      exact cY _ (br_t rfl (rY _ _ ⟨rfl, R⟩))
    · obtain ⟨q, hq, eq⟩ := h2 (nI j).toNatClampNeg
      have vq : vp_in (nI q) 4 := vp_in_nI (by omega) (by omega)
      obtain ⟨w, g', hg', hw, sX, sY⟩ := ip_hand (E := nI e) (ruX := upd ru (nI q).toNatClampNeg (nI a)) (ruY := ru) (sp := nI q) (o := nI a) he hc h1 h2 (ip_Bu h3 _ ⟨a, ha, rfl⟩) h4 (ip_under ru hq)
      have R' := ip_R (k := k + 3) hc he h1 h2 h3 hg'
      unfold wpX_shareUnder
      refine cX _ (br_f ip_10 (rX _ (br_f ip_10 ⟨vj, nm_r eq ⟨vq, nm_e ⟨vq, nm_e (sX _ ⟨vq, nm_r (ip_restore ru _ _) ⟨vj, ?_⟩⟩)⟩⟩⟩)))
      unfold wpY_shareUnder
      refine cY _ (br_t rfl (rY _ _ ⟨vj, ?_⟩))
      rw [eq]
      exact sY _ ⟨vj, rfl, R'⟩
theorem i_vc_leastEstate {k : Nat} {u : SX} {v : SY} (I : i_Rel k u v) (hk : k + 3 ≤ 1536) (v1 : Int32) (v2 : Int32) : wpX_leastEstate (fun r u' => wpY_leastEstate (fun r' v' => r' = r ∧ i_Rel (k + 3) u' v') v v1 v2) u v1 v2 := by
  obtain ⟨c, e, cl, rk, ru, g, hc, he, h1, h2, h3, h4, rfl, rfl⟩ := I
  have R := ip_R (k := k + 3) hc he h1 h2 h3 h4
  rcases ip_cred (E := nI e) (cl := cl) (rk := rk) (ru := ru) (g := g) hc v1 with ⟨cX, cY⟩ | ⟨j, hj, rfl, cX, cY⟩
  · unfold wpX_leastEstate
    refine cX _ (br_t rfl ?_)
    unfold wpY_leastEstate
    exact cY _ (br_f ip_10 ⟨rfl, R⟩)
  · rcases ip_rng v2 150 (by omega) with z | ⟨z, z1, _, _⟩ | ⟨a, ha, rfl, z, z1, _, _⟩
    · unfold wpX_leastEstate
      refine cX _ (br_f ip_10 (br_t z ?_))
      unfold wpY_leastEstate
      exact cY _ (br_t rfl (br_t z (br_f ip_10 ⟨rfl, R⟩)))
    · unfold wpX_leastEstate
      refine cX _ (br_f ip_10 (br_f z (br_f z1 ?_)))
      unfold wpY_leastEstate
      exact cY _ (br_t rfl (br_f z (br_f z1 (br_f ip_10 ⟨rfl, R⟩))))
    · obtain ⟨g1, hg1, _, _, bX, bY⟩ := ip_back (c := c) (E := nI e) (cl := cl) (rk := rk) (ruX := ru) (ruY := ru) (x1 := 0) (x2 := -1) (x3 := 0) 8 0 g (by omega) h4
      obtain ⟨r, g', hg', lX, lY⟩ := ip_least (E := nI e) hc h1 h2 h3 hj (nI a) 1501 0 g1 (by omega) hg1
      have R' := ip_R (k := k + 3) hc he h1 h2 h3 hg'
      unfold wpX_leastEstate
      refine cX _ (br_f ip_10 (br_f z (br_t z1 ⟨9, bX _ ⟨1502, lX _ ?_⟩⟩)))
      unfold wpY_leastEstate
      exact cY _ (br_t rfl (br_f z (br_t z1 (br_t rfl ⟨9, bY _ ⟨1, br_t (by decide) ⟨1502, lY _ ⟨rfl, R'⟩⟩⟩⟩))))
theorem i_vc_paid {k : Nat} {u : SX} {v : SY} (I : i_Rel k u v) (hk : k + 3 ≤ 1536) (v1 : Int32) : wpX_paid (fun r u' => wpY_paid (fun r' v' => r' = r ∧ i_Rel (k + 3) u' v') v v1) u v1 := by
  obtain ⟨c, e, cl, rk, ru, g, hc, he, h1, h2, h3, h4, rfl, rfl⟩ := I
  have R := ip_R (k := k + 3) hc he h1 h2 h3 h4
  rcases ip_rk (c := c) (E := nI e) (cl := cl) (rk := rk) (ru := ru) (g := g) v1 with ⟨cX, cY⟩ | ⟨q, hq, rfl, cX, cY⟩
  · unfold wpX_paid
    refine cX _ (br_t rfl ?_)
    unfold wpY_paid
    exact cY _ (br_f ip_10 ⟨rfl, R⟩)
  · obtain ⟨w, g', hg', hw, sX, sY⟩ := ip_all (E := nI e) he hc h1 h2 h3 h4
    have R' := ip_R (k := k + 3) hc he h1 h2 h3 hg'
    obtain ⟨r, hX, hY⟩ := ip_paid (E := nI e) (cl := cl) (rk := rk) (ru := ru) (g := g') (x1 := nI q) hc c 0 0 (by omega)
    unfold wpX_paid
    refine cX _ (br_f ip_10 (sX _ ⟨c + 1, hX _ ?_⟩))
    unfold wpY_paid
    exact cY _ (br_t rfl (sY _ ⟨c + 1, hY _ ⟨rfl, R'⟩⟩))
theorem i_vc_left {k : Nat} {u : SX} {v : SY} (I : i_Rel k u v) (hk : k + 3 ≤ 1536) : wpX_left (fun r u' => wpY_left (fun r' v' => r' = r ∧ i_Rel (k + 3) u' v') v) u := by
  obtain ⟨c, e, cl, rk, ru, g, hc, he, h1, h2, h3, h4, rfl, rfl⟩ := I
  have R := ip_R (k := k + 3) hc he h1 h2 h3 h4
  obtain ⟨w, g', hg', hw, sX, sY⟩ := ip_all (E := nI e) he hc h1 h2 h3 h4
  have R' := ip_R (k := k + 3) hc he h1 h2 h3 hg'
  unfold wpX_left
  refine sX _ ⟨c + 1, ip_left hc c 0 (nI e) w (by omega) (hw.trans (Int32.add_zero _).symm) _ ?_⟩
  unfold wpY_left
  exact sY _ ⟨rfl, R'⟩
theorem i_vc_next {k : Nat} {u : SX} {v : SY} (I : i_Rel k u v) (hk : k + 3 ≤ 1536) : wpX_next (fun r u' => wpY_next (fun r' v' => r' = r ∧ i_Rel (k + 3) u' v') v) u := by
  obtain ⟨c, e, cl, rk, ru, g, hc, he, h1, h2, h3, h4, rfl, rfl⟩ := I
  have R := ip_R (k := k + 3) hc he h1 h2 h3 h4
  obtain ⟨w, g', hg', hw, sX, sY⟩ := ip_all (E := nI e) he hc h1 h2 h3 h4
  have R' := ip_R (k := k + 3) hc he h1 h2 h3 hg'
  obtain ⟨r, _, nX, nY⟩ := ip_chosen (E := nI e) (ruY := ru) hc h1 h2 hg' h3 (ip_same (-1) rfl 0 ru)
  unfold wpX_next
  refine sX _ (nX _ ?_)
  unfold wpY_next
  exact sY _ (nY _ ⟨rfl, R'⟩)
theorem i_vc_unpaid {k : Nat} {u : SX} {v : SY} (I : i_Rel k u v) (hk : k + 3 ≤ 1536) : wpX_unpaid (fun r u' => wpY_unpaid (fun r' v' => r' = r ∧ i_Rel (k + 3) u' v') v) u := by
  obtain ⟨c, e, cl, rk, ru, g, hc, he, h1, h2, h3, h4, rfl, rfl⟩ := I
  have R := ip_R (k := k + 3) hc he h1 h2 h3 h4
  obtain ⟨w, g', hg', hw, sX, sY⟩ := ip_all (E := nI e) he hc h1 h2 h3 h4
  have R' := ip_R (k := k + 3) hc he h1 h2 h3 hg'
  obtain ⟨r, hX, hY⟩ := ip_unpaid (E := nI e) (cl := cl) (rk := rk) (ru := ru) (g := g') hc c 0 0 (by omega)
  unfold wpX_unpaid
  refine sX _ ⟨c + 1, hX _ ?_⟩
  unfold wpY_unpaid
  exact sY _ ⟨c + 1, hY _ ⟨rfl, R'⟩⟩
theorem i_vc_worst {k : Nat} {u : SX} {v : SY} (I : i_Rel k u v) (hk : k + 3 ≤ 1536) : wpX_worst (fun r u' => wpY_worst (fun r' v' => r' = r ∧ i_Rel (k + 3) u' v') v) u := by
  obtain ⟨c, e, cl, rk, ru, g, hc, he, h1, h2, h3, h4, rfl, rfl⟩ := I
  have R := ip_R (k := k + 3) hc he h1 h2 h3 h4
  obtain ⟨w, g', hg', hw, sX, sY⟩ := ip_all (E := nI e) he hc h1 h2 h3 h4
  have R' := ip_R (k := k + 3) hc he h1 h2 h3 hg'
  obtain ⟨r, hX, hY⟩ := ip_worst (E := nI e) (cl := cl) (rk := rk) (ru := ru) (g := g') hc c 0 0 (by omega)
  unfold wpX_worst
  refine sX _ ⟨c + 1, hX _ ?_⟩
  unfold wpY_worst
  exact sY _ ⟨c + 1, hY _ ⟨rfl, R'⟩⟩
