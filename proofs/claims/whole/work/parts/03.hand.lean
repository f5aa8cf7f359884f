/-- what the first n creditors hold together -/
def ip_S (g : Nat → Int32) : Nat → Int32
  | 0 => 0
  | n + 1 => ip_S g n + g n
theorem ip_Sn {g : Nat → Int32} {t : Nat} {x : Int32} : ∀ n : Nat, n ≤ t → ip_S (upd g t x) n = ip_S g n := by
  intro n
  induction n with
  | zero => intro _; rfl
  | succ n ih =>
    intro h
    show ip_S (upd g t x) n + upd g t x n = ip_S g n + g n
    rw [ih (by omega), pk_un (by omega)]
theorem ip_Su {g : Nat → Int32} {t : Nat} : ∀ n : Nat, t < n → ip_S (upd g t (g t + 1)) n = ip_S g n + 1 := by
  intro n
  induction n with
  | zero => intro h; omega
  | succ n ih =>
    intro h
    show ip_S (upd g t (g t + 1)) n + upd g t (g t + 1) n = ip_S g n + g n + 1
    by_cases e : t = n
    · subst e
      rw [ip_Sn _ (Nat.le_refl _), pk_us, Int32.add_assoc]
    · rw [ih (by omega), pk_un (by omega), Int32.add_assoc, Int32.add_assoc, Int32.add_comm 1]
theorem ip_Sz {g : Nat → Int32} : ∀ n : Nat, (∀ j, j < n → g j = 0) → ip_S g n = 0 := by
  intro n
  induction n with
  | zero => intro _; rfl
  | succ n ih =>
    intro h
    show ip_S g n + g n = 0
    rw [ih (fun j hj => h j (by omega)), h n (by omega)]
    rfl
theorem ip_inc {x y : Int32} (hx : ∃ n : Nat, n ≤ 150 ∧ x = nI n) (hy : ∃ n : Nat, n ≤ 150 ∧ y = nI n) (h : ¬ x ≤ y) : ∃ n : Nat, n ≤ 150 ∧ y + 1 = nI n := by
  obtain ⟨a, ha, rfl⟩ := hx
  obtain ⟨b, hb, rfl⟩ := hy
  rw [nI_leI (by omega) (by omega)] at h
  exact ⟨b + 1, by omega, nI_1 b⟩
section
variable {c : Nat} {E : Int32} {cl rk ruX ruY g : Nat → Int32}
/-- one unit, on both sides: to nobody, or to t -/
theorem ip_unit (hc : c ≤ 8) (hcl : ip_B 150 cl) (hrk : ip_B 3 rk) (hg : ip_B 150 g) (hru : ip_B 3 ruX) {sp o : Int32} (hs : ∀ q : Nat, q ≤ 3 → (nI q = sp → o = ruX (nI q).toNatClampNeg) ∧ (¬ nI q = sp → ruY (nI q).toNatClampNeg = ruX (nI q).toNatClampNeg)) : ((∀ post : Int32 → SX → Prop, post 0 (nI c, E, cl, rk, ruX, g) → wpX_giveUnit post (nI c, E, cl, rk, ruX, g)) ∧ (∀ post : Int32 → Prop, post (-1) → wpY_chosen post (nI c, E, cl, rk, ruY, g) sp o)) ∨ (∃ t : Nat, t < c ∧ ip_B 150 (upd g t (g t + 1)) ∧ (∀ post : Int32 → SX → Prop, post 1 (nI c, E, cl, rk, ruX, upd g t (g t + 1)) → wpX_giveUnit post (nI c, E, cl, rk, ruX, g)) ∧ (∀ post : Int32 → Prop, post (nI t) → wpY_chosen post (nI c, E, cl, rk, ruY, g) sp o)) := by
  obtain ⟨r, gr, hX, hY⟩ := ip_chosen (E := E) (ruY := ruY) hc hcl hrk hg hru hs
  rcases gr with rfl | ⟨t, ht, rfl, hl⟩
  · exact Or.inl ⟨fun post hp => hX _ (br_t rfl hp), hY⟩
  · refine Or.inr ⟨t, ht, ip_Bu hg t (ip_inc (hcl t) (hg t) hl), fun post hp => hX _ (br_f (ip_m1 (by omega)) ⟨ip_v8 hc ht, ip_v8 hc ht, nm_r ?_ hp⟩), hY⟩
    rw [nI_clamp (by omega)]
/-- the rest of the units, to nobody -/
theorem ip_over {e : Nat} (he : e ≤ 1500) {sp o : Int32} (hY : ∀ post : Int32 → Prop, post (-1) → wpY_chosen post (nI c, E, cl, rk, ruY, g) sp o) : ∀ (d i : Nat) (w : Int32), i + d = e → ∀ post : Int32 → SY → Prop, post (w + nI d) (nI c, E, cl, rk, ruY, g) → wY_hand_30 post (nI e) sp o (nI c) E (d + 1) w (nI i) cl rk ruY g := by
  intro d
  induction d with
  | zero =>
    intro i w hi post hp
    rw [nI_0, Int32.add_zero] at hp
    exact br_t (nI_le (by omega) (by omega)) hp
  | succ d ih =>
    intro i w hi post hp
    refine br_f (nI_ge (by omega) (by omega)) (hY _ (br_f ip_n0 (nm_e (nm_r (nI_1 i) (ih (i + 1) (w + 1) (by omega) post ?_)))))
    rw [← nI_1] at hp
    rw [Int32.add_assoc, Int32.add_comm 1]
    exact hp
theorem ip_run {e : Nat} (he : e ≤ 1500) (hc : c ≤ 8) (hcl : ip_B 150 cl) (hrk : ip_B 3 rk) (hru : ip_B 3 ruX) {sp o : Int32} (hs : ∀ q : Nat, q ≤ 3 → (nI q = sp → o = ruX (nI q).toNatClampNeg) ∧ (¬ nI q = sp → ruY (nI q).toNatClampNeg = ruX (nI q).toNatClampNeg)) : ∀ (d i : Nat) (w : Int32) (g : Nat → Int32), i + d = e → ip_B 150 g → ∃ (w' : Int32) (g' : Nat → Int32), ip_B 150 g' ∧ w' + ip_S g' c = w + ip_S g c + nI d ∧ (∀ post : SX → Prop, post (nI c, E, cl, rk, ruX, g') → wX_shareOut_6 post (nI e) (d + 1) (nI i) (nI c) E cl rk ruX g) ∧ (∀ post : Int32 → SY → Prop, post w' (nI c, E, cl, rk, ruY, g') → wY_hand_30 post (nI e) sp o (nI c) E (d + 1) w (nI i) cl rk ruY g) := by
  intro d
  induction d with
  | zero =>
    intro i w g hi hg
    have h : nI e ≤ nI i := nI_le (by omega) (by omega)
    exact ⟨w, g, hg, by rw [nI_0, Int32.add_zero], fun _ hp => br_t h hp, fun _ hp => br_t h hp⟩
  | succ d ih =>
    intro i w g hi hg
    have h : ¬ nI e ≤ nI i := nI_ge (by omega) (by omega)
    rcases ip_unit (E := E) (ruY := ruY) hc hcl hrk hg hru hs with ⟨hX, hY⟩ | ⟨t, ht, hg1, hX, hY⟩
    · refine ⟨w + nI (d + 1), g, hg, ?_, fun post hp => br_f h (hX _ (br_t rfl hp)), fun post hp => ip_over he hY (d + 1) i w hi post hp⟩
      rw [Int32.add_assoc, Int32.add_comm (nI (d + 1)), Int32.add_assoc]
    · obtain ⟨w', g', hg', hw', rX, rY⟩ := ih (i + 1) w _ (by omega) hg1
      refine ⟨w', g', hg', ?_, fun post hp => br_f h (hX _ (br_f ip_10 (nm_r (nI_1 i) (rX post hp)))), fun post hp => br_f h (hY _ (br_t (nI_pos' (by omega)) ⟨ip_v8 hc ht, ip_v8 hc ht, nm_r ?_ (nm_r (nI_1 i) (rY post hp))⟩))⟩
      · rw [hw', ip_Su c ht, ← nI_1, ← Int32.add_assoc, Int32.add_assoc, Int32.add_assoc, Int32.add_assoc, Int32.add_comm 1]
      · rw [nI_clamp (by omega)]
/-- all taken back, on both sides -/
theorem ip_back {x1 x2 x3 : Int32} : ∀ (d i : Nat) (g : Nat → Int32), i + d = 8 → ip_B 150 g → ∃ g' : Nat → Int32, ip_B 150 g' ∧ (∀ j, j < i → g' j = g j) ∧ (∀ j, i ≤ j → j < 8 → g' j = 0) ∧ (∀ post : SX → Prop, post (nI c, E, cl, rk, ruX, g') → wX_takeAllBack_2 post (nI c) E (d + 1) (nI i) cl rk ruX g) ∧ (∀ post : Int32 → SY → Prop, (∃ n30 : Nat, wY_hand_30 post x1 x2 x3 (nI c) E n30 0 0 cl rk ruY g') → wY_hand_3 post x1 x2 x3 (nI c) E (d + 1) (nI i) cl rk ruY g) := by
  intro d
  induction d with
  | zero =>
    intro i g hi hg
    have h : (8 : Int32) ≤ nI i := nI_le (a := 8) (by omega) (by omega)
    exact ⟨g, hg, fun _ _ => rfl, fun _ _ _ => by omega, fun _ hp => br_t h hp, fun _ hp => br_t h hp⟩
  | succ d ih =>
    intro i g hi hg
    have h : ¬ (8 : Int32) ≤ nI i := nI_ge (b := 8) (by omega) (by omega)
    have vi : vp_in (nI i) 8 := vp_in_nI (by omega) (by omega)
    have ci : (nI i).toNatClampNeg = i := nI_clamp (by omega)
    obtain ⟨g', hg', h1, h2, hX, hY⟩ := ih (i + 1) (upd g i 0) (by omega) (ip_Bu hg i ip_B0)
    refine ⟨g', hg', fun j hj => ?_, fun j hj hj8 => ?_, fun post hp => br_f h ⟨vi, nm_r (by rw [ci]) (nm_r (nI_1 i) (hX post hp))⟩, fun post hp => br_f h ⟨vi, nm_r (by rw [ci]) (nm_r (nI_1 i) (hY post hp))⟩⟩
    · rw [h1 j (by omega), pk_un (by omega)]
    · by_cases e : j = i
      · subst e
        rw [h1 j (by omega), pk_us]
      · exact h2 j (by omega) hj8
theorem ip_hand {e : Nat} (he : e ≤ 1500) (hc : c ≤ 8) (hcl : ip_B 150 cl) (hrk : ip_B 3 rk) (hru : ip_B 3 ruX) (hg : ip_B 150 g) {sp o : Int32} (hs : ∀ q : Nat, q ≤ 3 → (nI q = sp → o = ruX (nI q).toNatClampNeg) ∧ (¬ nI q = sp → ruY (nI q).toNatClampNeg = ruX (nI q).toNatClampNeg)) : ∃ (w : Int32) (g' : Nat → Int32), ip_B 150 g' ∧ w + ip_S g' c = nI e ∧ (∀ post : SX → Prop, post (nI c, E, cl, rk, ruX, g') → wpX_shareOut post (nI c, E, cl, rk, ruX, g) (nI e)) ∧ (∀ post : Int32 → SY → Prop, post w (nI c, E, cl, rk, ruY, g') → wpY_hand post (nI c, E, cl, rk, ruY, g) (nI e) sp o) := by
  obtain ⟨g1, hg1, _, hz, bX, bY⟩ := ip_back (c := c) (E := E) (cl := cl) (rk := rk) (ruX := ruX) (ruY := ruY) (x1 := nI e) (x2 := sp) (x3 := o) 8 0 g (by omega) hg
  obtain ⟨w, g', hg', hw, rX, rY⟩ := ip_run (E := E) (ruY := ruY) he hc hcl hrk hru hs e 0 0 g1 (by omega) hg1
  refine ⟨w, g', hg', ?_, fun post hp => ⟨9, bX _ ⟨e + 1, rX post hp⟩⟩, fun post hp => ⟨9, bY _ ⟨e + 1, rY post hp⟩⟩⟩
  rw [hw, ip_Sz c (fun j hj => hz j (by omega) (by omega)), Int32.zero_add, Int32.zero_add]
theorem ip_same (sp : Int32) (hsp : sp = -1) (o : Int32) (ru : Nat → Int32) : ∀ q : Nat, q ≤ 3 → (nI q = sp → o = ru (nI q).toNatClampNeg) ∧ (¬ nI q = sp → ru (nI q).toNatClampNeg = ru (nI q).toNatClampNeg) :=
  fun q hq => ⟨fun e => absurd (e.trans hsp) (ip_m1 (by omega)), fun _ => rfl⟩
/-- the whole estate, or an amount, under the rules as they are -/
theorem ip_all {e : Nat} {ru : Nat → Int32} (he : e ≤ 1500) (hc : c ≤ 8) (hcl : ip_B 150 cl) (hrk : ip_B 3 rk) (hru : ip_B 3 ru) (hg : ip_B 150 g) : ∃ (w : Int32) (g' : Nat → Int32), ip_B 150 g' ∧ w + ip_S g' c = nI e ∧ (∀ post : SX → Prop, post (nI c, E, cl, rk, ru, g') → wpX_shareOut post (nI c, E, cl, rk, ru, g) (nI e)) ∧ (∀ post : Int32 → SY → Prop, post w (nI c, E, cl, rk, ru, g') → wpY_hand post (nI c, E, cl, rk, ru, g) (nI e) (-1) 0) :=
  ip_hand he hc hcl hrk hru hg (ip_same _ rfl _ _)
theorem ip_least {ru : Nat → Int32} (hc : c ≤ 8) (hcl : ip_B 150 cl) (hrk : ip_B 3 rk) (hru : ip_B 3 ru) {j : Nat} (hj : j < c) (x : Int32) : ∀ (d i : Nat) (g : Nat → Int32), i + d = 1501 → ip_B 150 g → ∃ (r : Int32) (g' : Nat → Int32), ip_B 150 g' ∧ (∀ post : Int32 → SX → Prop, post r (nI c, E, cl, rk, ru, g') → wX_leastEstate_30 post (nI j) x (d + 1) (nI i) (nI c) E cl rk ru g) ∧ (∀ post : Int32 → SY → Prop, post r (nI c, E, cl, rk, ru, g') → wY_leastEstate_31 post (nI j) x (nI c) E (d + 1) (nI i) cl rk ru g) := by
  have vj := ip_v8 hc hj
  intro d
  induction d with
  | zero =>
    intro i g hi hg
    have h : (1500 : Int32) < nI i := nI_lt (a := 1500) (by omega) (by omega)
    exact ⟨-3, g, hg, fun _ hp => br_t h hp, fun _ hp => br_t h hp⟩
  | succ d ih =>
    intro i g hi hg
    have h : ¬ (1500 : Int32) < nI i := nI_nlt (a := 1500) (by omega) (by omega)
    by_cases hx : g (nI j).toNatClampNeg < x
    · rcases ip_unit (E := E) (ruY := ru) hc hcl hrk hg hru (ip_same (-1) rfl 0 ru) with ⟨hX, hY⟩ | ⟨t, ht, hg1, hX, hY⟩
      · exact ⟨-3, g, hg, fun post hp => br_f h ⟨vj, br_t hx (hX _ (br_t rfl hp))⟩, fun post hp => br_f h ⟨vj, br_t hx (hY _ (br_f ip_n0 hp))⟩⟩
      · obtain ⟨r, g', hg', rX, rY⟩ := ih (i + 1) _ (by omega) hg1
        refine ⟨r, g', hg', fun post hp => br_f h ⟨vj, br_t hx (hX _ (br_f ip_10 (nm_r (nI_1 i) (rX post hp))))⟩, fun post hp => br_f h ⟨vj, br_t hx (hY _ (br_t (nI_pos' (by omega)) ⟨ip_v8 hc ht, ip_v8 hc ht, nm_r ?_ (nm_r (nI_1 i) (rY post hp))⟩))⟩⟩
        rw [nI_clamp (by omega)]
    · exact ⟨nI i, g, hg, fun post hp => br_f h ⟨vj, br_f hx hp⟩, fun post hp => br_f h ⟨vj, br_f hx hp⟩⟩
end
