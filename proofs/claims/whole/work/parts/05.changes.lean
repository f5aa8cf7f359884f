theorem i_vc_add {k : Nat} {u : SX} {v : SY} (I : i_Rel k u v) (hk : k + 3 ≤ 1536) (v1 : Int32) (v2 : Int32) : wpX_add (fun r u' => wpY_add (fun r' v' => r' = r ∧ i_Rel (k + 3) u' v') v v1 v2) u v1 v2 := by
  obtain ⟨c, e, cl, rk, ru, g, hc, he, h1, h2, h3, h4, rfl, rfl⟩ := I
  have R := ip_R (k := k + 3) hc he h1 h2 h3 h4
  rcases ip_cm (c := c) (E := nI e) (cl := cl) (rk := rk) (ru := ru) (g := g) v1 with ⟨cX, cY⟩ | ⟨a, ha, rfl, cX, cY⟩
  · unfold wpX_add
    refine cX _ (br_t rfl ?_)
    unfold wpY_add
    exact cY _ (br_f ip_10 ⟨rfl, R⟩)
  · rcases ip_rk (c := c) (E := nI e) (cl := cl) (rk := rk) (ru := ru) (g := g) v2 with ⟨rX, rY⟩ | ⟨q, hq, rfl, rX, rY⟩
    · unfold wpX_add
      refine cX _ (br_f ip_10 (rX _ (br_t rfl ?_)))
      unfold wpY_add
      exact cY _ (br_t rfl (rY _ (br_f ip_10 ⟨rfl, R⟩)))
    · by_cases h8 : c < 8
      · have l8 : nI c < 8 := nI_lt (b := 8) h8 (by omega)
        have v8 : vp_in (nI c) 8 := vp_in_nI h8 (by omega)
        have R' := ip_R (k := k + 3) (c := c + 1) (by omega) he (ip_Bu h1 (nI c).toNatClampNeg ⟨a, ha, rfl⟩) (ip_Bu h2 (nI c).toNatClampNeg ⟨q, hq, rfl⟩) h3 h4
        unfold wpX_add
        refine cX _ (br_f ip_10 (rX _ (br_f ip_10 (br_t l8 ⟨v8, nm_e ⟨v8, nm_e (nm_r (nI_1 c) ?_)⟩⟩))))
        unfold wpY_add
        exact cY _ (br_t rfl (rY _ (br_t rfl (br_t l8 ⟨v8, nm_e ⟨v8, nm_e (nm_r (nI_1 c) ⟨rfl, R'⟩)⟩⟩))))
      · have l8 : ¬ nI c < 8 := nI_nlt (b := 8) (by omega) (by omega)
        unfold wpX_add
        refine cX _ (br_f ip_10 (rX _ (br_f ip_10 (br_f l8 ?_))))
        unfold wpY_add
        exact cY _ (br_t rfl (rY _ (br_t rfl (br_f l8 ⟨rfl, R⟩))))
theorem i_vc_remove {k : Nat} {u : SX} {v : SY} (I : i_Rel k u v) (hk : k + 3 ≤ 1536) (v1 : Int32) : wpX_remove (fun r u' => wpY_remove (fun r' v' => r' = r ∧ i_Rel (k + 3) u' v') v v1) u v1 := by
  obtain ⟨c, e, cl, rk, ru, g, hc, he, h1, h2, h3, h4, rfl, rfl⟩ := I
  have R := ip_R (k := k + 3) hc he h1 h2 h3 h4
  rcases ip_cred (E := nI e) (cl := cl) (rk := rk) (ru := ru) (g := g) hc v1 with ⟨cX, cY⟩ | ⟨j, hj, rfl, cX, cY⟩
  · unfold wpX_remove
    refine cX _ (br_t rfl ?_)
    unfold wpY_remove
    exact cY _ (br_f ip_10 ⟨rfl, R⟩)
  · obtain ⟨cl', rk', b1, b2, hX, hY⟩ := ip_rem (E := nI e) (ru := ru) (g := g) hc (c - (j + 1)) j cl rk (by omega) h1 h2
    have R' := ip_R (k := k + 3) (c := c - 1) (by omega) he b1 b2 h3 h4
    unfold wpX_remove
    refine cX _ (br_f ip_10 (nm_r (nI_1 j) ⟨_, hX _ ?_⟩))
    unfold wpY_remove
    exact cY _ (br_t rfl ⟨_, hY _ ⟨rfl, R'⟩⟩)
theorem i_vc_change {k : Nat} {u : SX} {v : SY} (I : i_Rel k u v) (hk : k + 3 ≤ 1536) (v1 : Int32) (v2 : Int32) : wpX_change (fun r u' => wpY_change (fun r' v' => r' = r ∧ i_Rel (k + 3) u' v') v v1 v2) u v1 v2 := by
  obtain ⟨c, e, cl, rk, ru, g, hc, he, h1, h2, h3, h4, rfl, rfl⟩ := I
  have R := ip_R (k := k + 3) hc he h1 h2 h3 h4
  rcases ip_cred (E := nI e) (cl := cl) (rk := rk) (ru := ru) (g := g) hc v1 with ⟨cX, cY⟩ | ⟨j, hj, rfl, cX, cY⟩
  · unfold wpX_change
    refine cX _ (br_t rfl ?_)
    unfold wpY_change
    exact cY _ (br_f ip_10 ⟨rfl, R⟩)
  · have vj := ip_v8 hc hj
    rcases ip_cm (c := c) (E := nI e) (cl := cl) (rk := rk) (ru := ru) (g := g) v2 with ⟨rX, rY⟩ | ⟨a, ha, rfl, rX, rY⟩
    · unfold wpX_change
      refine cX _ (br_f ip_10 (rX _ (br_t rfl ?_)))
      unfold wpY_change
      exact cY _ (br_t rfl (rY _ (br_f ip_10 ⟨rfl, R⟩)))
    · have R' := ip_R (k := k + 3) hc he (ip_Bu h1 (nI j).toNatClampNeg ⟨a, ha, rfl⟩) h2 h3 h4
      unfold wpX_change
      refine cX _ (br_f ip_10 (rX _ (br_f ip_10 ⟨vj, nm_e ⟨vj, nm_e ?_⟩⟩)))
      unfold wpY_change
      exact cY _ (br_t rfl (rY _ (br_t rfl ⟨vj, nm_e ⟨vj, nm_e ⟨rfl, R'⟩⟩⟩)))
theorem i_vc_move {k : Nat} {u : SX} {v : SY} (I : i_Rel k u v) (hk : k + 3 ≤ 1536) (v1 : Int32) (v2 : Int32) : wpX_move (fun r u' => wpY_move (fun r' v' => r' = r ∧ i_Rel (k + 3) u' v') v v1 v2) u v1 v2 := by
  obtain ⟨c, e, cl, rk, ru, g, hc, he, h1, h2, h3, h4, rfl, rfl⟩ := I
  have R := ip_R (k := k + 3) hc he h1 h2 h3 h4
  rcases ip_cred (E := nI e) (cl := cl) (rk := rk) (ru := ru) (g := g) hc v1 with ⟨cX, cY⟩ | ⟨j, hj, rfl, cX, cY⟩
  · unfold wpX_move
    refine cX _ (br_t rfl ?_)
    unfold wpY_move
    exact cY _ (br_f ip_10 ⟨rfl, R⟩)
  · have vj := ip_v8 hc hj
    rcases ip_rk (c := c) (E := nI e) (cl := cl) (rk := rk) (ru := ru) (g := g) v2 with ⟨rX, rY⟩ | ⟨a, ha, rfl, rX, rY⟩
    · unfold wpX_move
      refine cX _ (br_f ip_10 (rX _ (br_t rfl ?_)))
      unfold wpY_move
      exact cY _ (br_t rfl (rY _ (br_f ip_10 ⟨rfl, R⟩)))
    · have R' := ip_R (k := k + 3) hc he h1 (ip_Bu h2 (nI j).toNatClampNeg ⟨a, ha, rfl⟩) h3 h4
      unfold wpX_move
      refine cX _ (br_f ip_10 (rX _ (br_f ip_10 ⟨vj, nm_e ⟨vj, nm_e ?_⟩⟩)))
      unfold wpY_move
      exact cY _ (br_t rfl (rY _ (br_t rfl ⟨vj, nm_e ⟨vj, nm_e ⟨rfl, R'⟩⟩⟩)))
theorem i_vc_rule {k : Nat} {u : SX} {v : SY} (I : i_Rel k u v) (hk : k + 3 ≤ 1536) (v1 : Int32) (v2 : Int32) : wpX_rule (fun r u' => wpY_rule (fun r' v' => r' = r ∧ i_Rel (k + 3) u' v') v v1 v2) u v1 v2 := by
  obtain ⟨c, e, cl, rk, ru, g, hc, he, h1, h2, h3, h4, rfl, rfl⟩ := I
  have R := ip_R (k := k + 3) hc he h1 h2 h3 h4
  rcases ip_rk (c := c) (E := nI e) (cl := cl) (rk := rk) (ru := ru) (g := g) v1 with ⟨cX, cY⟩ | ⟨q, hq, rfl, cX, cY⟩
  · unfold wpX_rule
    refine cX _ (br_t rfl ?_)
    unfold wpY_rule
    exact cY _ (br_f ip_10 ⟨rfl, R⟩)
  · have vq : vp_in (nI q) 4 := vp_in_nI (by omega) (by omega)
    rcases ip_rl v2 with ⟨rX, rY⟩ | ⟨a, ha, rfl, rX, rY⟩
    · unfold wpX_rule
      refine cX _ (br_f ip_10 (rX _ (br_t rfl ?_)))
      unfold wpY_rule
      exact cY _ (br_t rfl (rY _ _ ⟨rfl, R⟩))
    · have R' := ip_R (k := k + 3) hc he h1 h2 (ip_Bu h3 (nI q).toNatClampNeg ⟨a, ha, rfl⟩) h4
      unfold wpX_rule
      refine cX _ (br_f ip_10 (rX _ (br_f ip_10 ⟨vq, nm_e ⟨vq, nm_e ?_⟩⟩)))
      unfold wpY_rule
      exact cY _ (br_t rfl (rY _ _ ⟨vq, nm_e ⟨vq, nm_e ⟨rfl, R'⟩⟩⟩))
theorem i_vc_estate {k : Nat} {u : SX} {v : SY} (I : i_Rel k u v) (hk : k + 3 ≤ 1536) (v1 : Int32) : wpX_estate (fun r u' => wpY_estate (fun r' v' => r' = r ∧ i_Rel (k + 3) u' v') v v1) u v1 := by
  obtain ⟨c, e, cl, rk, ru, g, hc, he, h1, h2, h3, h4, rfl, rfl⟩ := I
  have R := ip_R (k := k + 3) hc he h1 h2 h3 h4
  by_cases a : v1 < -nI e
  · exact br_t a (br_t a ⟨rfl, R⟩)
  · by_cases b : v1 ≤ 1500 - nI e
    · obtain ⟨n, hn, en⟩ := ip_est he a b
      have R' := ip_R (k := k + 3) hc hn h1 h2 h3 h4
      exact br_f a (br_t b (nm_r en (br_f a (br_t b (nm_r en ⟨rfl, R'⟩)))))
    · exact br_f a (br_f b (br_f a (br_f b ⟨rfl, R⟩)))
theorem i_vc_creditors {k : Nat} {u : SX} {v : SY} (I : i_Rel k u v) (hk : k + 3 ≤ 1536) : wpX_creditors (fun r => wpY_creditors (fun r' => r' = r ∧ i_Rel (k + 3) u v) v) u := by
  obtain ⟨c, e, cl, rk, ru, g, hc, he, h1, h2, h3, h4, rfl, rfl⟩ := I
  have R := ip_R (k := k + 3) hc he h1 h2 h3 h4
  exact ⟨rfl, R⟩
theorem i_vc_claimOf {k : Nat} {u : SX} {v : SY} (I : i_Rel k u v) (hk : k + 3 ≤ 1536) (v1 : Int32) : wpX_claimOf (fun r => wpY_claimOf (fun r' => r' = r ∧ i_Rel (k + 3) u v) v v1) u v1 := by
  obtain ⟨c, e, cl, rk, ru, g, hc, he, h1, h2, h3, h4, rfl, rfl⟩ := I
  have R := ip_R (k := k + 3) hc he h1 h2 h3 h4
  rcases ip_cred (E := nI e) (cl := cl) (rk := rk) (ru := ru) (g := g) hc v1 with ⟨cX, cY⟩ | ⟨j, hj, rfl, cX, cY⟩
  · unfold wpX_claimOf
    refine cX _ (br_t rfl ?_)
    unfold wpY_claimOf
    exact cY _ (br_f ip_10 ⟨rfl, R⟩)
  · have vj := ip_v8 hc hj
    unfold wpX_claimOf
    refine cX _ (br_f ip_10 ⟨vj, ?_⟩)
    unfold wpY_claimOf
    exact cY _ (br_t rfl ⟨vj, rfl, R⟩)
theorem i_vc_claims {k : Nat} {u : SX} {v : SY} (I : i_Rel k u v) (hk : k + 3 ≤ 1536) (v1 : Int32) : wpX_claims (fun r => wpY_claims (fun r' => r' = r ∧ i_Rel (k + 3) u v) v v1) u v1 := by
  obtain ⟨c, e, cl, rk, ru, g, hc, he, h1, h2, h3, h4, rfl, rfl⟩ := I
  have R := ip_R (k := k + 3) hc he h1 h2 h3 h4
  rcases ip_rk (c := c) (E := nI e) (cl := cl) (rk := rk) (ru := ru) (g := g) v1 with ⟨cX, cY⟩ | ⟨q, hq, rfl, cX, cY⟩
  · unfold wpX_claims
    refine cX _ (br_t rfl ?_)
    unfold wpY_claims
    exact cY _ (br_f ip_10 ⟨rfl, R⟩)
  · obtain ⟨r, hX, hY⟩ := ip_claims (E := nI e) (cl := cl) (rk := rk) (ru := ru) (g := g) (x1 := nI q) hc c 0 0 (by omega)
    unfold wpX_claims
    refine cX _ (br_f ip_10 ⟨c + 1, hX _ ?_⟩)
    unfold wpY_claims
    exact cY _ (br_t rfl ⟨c + 1, hY _ ⟨rfl, R⟩⟩)
