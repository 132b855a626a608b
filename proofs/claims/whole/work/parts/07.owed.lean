/-! the relation, and what is owed -/
def i_Rel (_ : Nat) (u : SX) (v : SY) : Prop :=
  ∃ (n : Nat) (xs ys zs ws d g : Nat → Int32), u = (nI n, xs, ys, zs, ws) ∧ v = (nI n, d, g) ∧ n ≤ 10 ∧ ra_tq xs ys zs ws d 10 0 ∧ ra_ok d 0 ∧ ra_al xs ys zs ws g n
theorem i_up {k : Nat} {u : SX} {v : SY} (h : i_Rel k u v) : i_Rel (k + 4) u v := h
theorem i_vc0 : wpX_init (fun u => wpY_init (fun v => i_Rel 0 u v)) :=
  ⟨0, _, _, _, _, _, _, rfl, rfl, by decide, fun _ _ => ⟨rfl, rfl, rfl, rfl⟩, fun _ _ => ra_0z, fun t ht => by omega⟩
/-! corners and numbers -/
theorem xa_co {post : Int32 → Prop} {k : Nat} (h : k < 3) (hp : post 1) : wpX_isCorner post (nI k) := br_f (nI_pos (by omega)) (br_f (nI_ge (b := 3) h (by decide)) hp)
theorem xa_co_n {post : Int32 → Prop} {x : Int32} (h : x < 0 ∨ nI 3 ≤ x) (hp : post 0) : wpX_isCorner post x := by
  refine br_c (fun _ => hp) (fun z => ?_)
  rcases h with h | h
  · exact absurd h z
  · exact br_t h hp
theorem ya_co {post : Int32 → Prop} {v : SY} {k : Nat} (h : k < 3) (hp : post 0) : wpY_badCorner post v (nI k) := br_f (nI_pos (by omega)) (br_t (nI_le (b := 2) (by omega) (by decide)) hp)
theorem ya_co_n {post : Int32 → Prop} {v : SY} {x : Int32} (h : x < 0 ∨ nI 3 ≤ x) (hp : post 1) : wpY_badCorner post v x := by
  refine br_c (fun _ => hp) (fun z => ?_)
  rcases h with h | h
  · exact absurd h z
  · refine br_f (fun w => ?_) hp
    obtain ⟨m, hm, rfl⟩ := nI_of z
    rw [nI_leI (by decide) hm] at h
    have w' : nI m ≤ nI 2 := w
    rw [nI_leI hm (by decide)] at w'
    omega
theorem xa_al {post : Int32 → Prop} {x : Int32} (h : ra_sm x) (hp : post 1) : wpX_isAllowed post x := br_f (Int32.not_lt.mpr h.1) (br_f (Int32.not_lt.mpr h.2) hp)
theorem xa_al_n {post : Int32 → Prop} {x : Int32} (h : ¬ ra_sm x) (hp : post 0) : wpX_isAllowed post x :=
  br_c (fun _ => hp) (fun z => br_c (fun _ => hp) (fun y => absurd ⟨Int32.not_lt.mp z, Int32.not_lt.mp y⟩ h))
theorem ya_wi {post : Int32 → Prop} {v : SY} {x : Int32} (h : ra_sm x) (hp : post 0) : wpY_wide post v x := br_f (Int32.not_lt.mpr h.1) (br_t h.2 hp)
theorem ya_wi_n {post : Int32 → Prop} {v : SY} {x : Int32} (h : ¬ ra_sm x) (hp : post 1) : wpY_wide post v x :=
  br_c (fun _ => hp) (fun z => br_c (fun y => absurd ⟨Int32.not_lt.mp z, y⟩ h) (fun _ => hp))
theorem ra_n0 : ¬ (1 : Int32) = 0 := by decide
theorem i_vc_place {k : Nat} {u : SX} {v : SY} (I : i_Rel k u v) (hk : k + 4 ≤ 2048) (v1 : Int32) (v2 : Int32) (v3 : Int32) : wpX_place (fun r u' => wpY_place (fun r' v' => r' = r ∧ i_Rel (k + 4) u' v') v v1 v2 v3) u v1 v2 v3 := by
  have I0 := I
  obtain ⟨n, xs, ys, zs, ws, d, g, rfl, rfl, hn, hd, ho, al⟩ := I
  unfold wpX_place wpY_place
  dsimp only
  rcases pk_ix v1 (n := 3) (by decide) with h | h | ⟨m, hm, rfl⟩
  · refine xa_co_n (Or.inl h) (br_t rfl ?_)
    exact ya_co_n (Or.inl h) (br_f ra_n0 ⟨rfl, I0⟩)
  · refine xa_co_n (Or.inr h) (br_t rfl ?_)
    exact ya_co_n (Or.inr h) (br_f ra_n0 ⟨rfl, I0⟩)
  · refine xa_co hm (br_f ra_n0 ?_)
    by_cases s2 : ra_sm v2
    · refine xa_al s2 (br_f ra_n0 ?_)
      by_cases s3 : ra_sm v3
      · refine xa_al s3 (br_f ra_n0 ?_)
        have e : 30 + nI m = nI (30 + m) := nI_add 30 m
        have e4 : 4 * nI m = nI (4 * m) := pk_mul 4 m
        have i30 : vp_in (nI (30 + m)) 33 := vp_in_nI (by omega) (by decide)
        rw [e, e4, nI_1, nI_clamp (n := 30 + m) (by omega), nI_clamp (n := 4 * m) (by omega), nI_clamp (n := 4 * m + 1) (by omega)]
        refine ⟨i30, nm_e ⟨i30, nm_e ?_⟩⟩
        refine ya_co hm (br_t rfl ?_)
        refine ya_wi s2 (br_t rfl ?_)
        refine ya_wi s3 (br_t rfl ?_)
        refine ⟨vp_in_nI (by omega) (by decide), nm_e ⟨vp_in_nI (by omega) (by decide), nm_e ⟨rfl, ?_⟩⟩⟩
        exact ⟨n, _, _, _, _, _, _, rfl, rfl, hn, ra_place hd, ra_okU (ra_okU ho s2) s3,
          ra_alU hn al (fun q hq => pk_un (by omega)) (fun q hq => pk_un (by omega)) (fun q hq => rfl) (fun q hq => rfl)⟩
      · refine xa_al_n s3 (br_t rfl ?_)
        refine ya_co hm (br_t rfl ?_)
        refine ya_wi s2 (br_t rfl ?_)
        exact ya_wi_n s3 (br_f ra_n0 ⟨rfl, I0⟩)
    · refine xa_al_n s2 (br_t rfl ?_)
      refine ya_co hm (br_t rfl ?_)
      exact ya_wi_n s2 (br_f ra_n0 ⟨rfl, I0⟩)
theorem i_vc_depth {k : Nat} {u : SX} {v : SY} (I : i_Rel k u v) (hk : k + 4 ≤ 2048) (v1 : Int32) (v2 : Int32) (v3 : Int32) : wpX_depth (fun r u' => wpY_depth (fun r' v' => r' = r ∧ i_Rel (k + 4) u' v') v v1 v2 v3) u v1 v2 v3 := by
  have I0 := I
  obtain ⟨n, xs, ys, zs, ws, d, g, rfl, rfl, hn, hd, ho, al⟩ := I
  unfold wpX_depth wpY_depth
  dsimp only
  rcases pk_ix v1 (n := 3) (by decide) with h | h | ⟨m, hm, rfl⟩
  · refine xa_co_n (Or.inl h) (br_t rfl ?_)
    exact ya_co_n (Or.inl h) (br_f ra_n0 ⟨rfl, I0⟩)
  · refine xa_co_n (Or.inr h) (br_t rfl ?_)
    exact ya_co_n (Or.inr h) (br_f ra_n0 ⟨rfl, I0⟩)
  · refine xa_co hm (br_f ra_n0 ?_)
    by_cases s2 : ra_sm v2
    · refine xa_al s2 (br_f ra_n0 ?_)
      by_cases s3 : ra_sm v3
      · refine xa_al s3 (br_f ra_n0 ?_)
        have e : 30 + nI m = nI (30 + m) := nI_add 30 m
        have e4 : 4 * nI m = nI (4 * m) := pk_mul 4 m
        have e42 : nI (4 * m) + 2 = nI (4 * m + 2) := nI_add (4 * m) 2
        have e43 : nI (4 * m) + 3 = nI (4 * m + 3) := nI_add (4 * m) 3
        have i30 : vp_in (nI (30 + m)) 33 := vp_in_nI (by omega) (by decide)
        rw [e, e4, e42, e43, nI_clamp (n := 30 + m) (by omega), nI_clamp (n := 4 * m + 2) (by omega), nI_clamp (n := 4 * m + 3) (by omega)]
        refine ⟨i30, nm_e ⟨i30, nm_e ?_⟩⟩
        refine ya_co hm (br_t rfl ?_)
        refine ya_wi s2 (br_t rfl ?_)
        refine ya_wi s3 (br_t rfl ?_)
        refine ⟨vp_in_nI (by omega) (by decide), nm_e ⟨vp_in_nI (by omega) (by decide), nm_e ⟨rfl, ?_⟩⟩⟩
        exact ⟨n, _, _, _, _, _, _, rfl, rfl, hn, ra_depth hd, ra_okU (ra_okU ho s2) s3,
          ra_alU hn al (fun q hq => rfl) (fun q hq => rfl) (fun q hq => pk_un (by omega)) (fun q hq => pk_un (by omega))⟩
      · refine xa_al_n s3 (br_t rfl ?_)
        refine ya_co hm (br_t rfl ?_)
        refine ya_wi s2 (br_t rfl ?_)
        exact ya_wi_n s3 (br_f ra_n0 ⟨rfl, I0⟩)
    · refine xa_al_n s2 (br_t rfl ?_)
      refine ya_co hm (br_t rfl ?_)
      exact ya_wi_n s2 (br_f ra_n0 ⟨rfl, I0⟩)
/-! the draft's volume -/
theorem xa_V {post : Int32 → Prop} {c : Int32} {xs ys zs ws d : Nat → Int32} (h : ra_tq xs ys zs ws d 10 0) (hp : post (ra_V d 0)) : wpX_volumeOf post (c, xs, ys, zs, ws) 10 := xa_vol 10 0 (by decide) h hp
theorem ya_V {post : Int32 → Prop} {c : Int32} {d g : Nat → Int32} (hp : post (ra_V d 0)) : wpY_volume post (c, d, g) := nm_e (nm_e (nm_e hp))
theorem i_vc_volume {k : Nat} {u : SX} {v : SY} (I : i_Rel k u v) (hk : k + 4 ≤ 2048) : wpX_volume (fun r => wpY_volume (fun r' => r' = r ∧ i_Rel (k + 4) u v) v) u := by
  have I0 := I
  obtain ⟨n, xs, ys, zs, ws, d, g, rfl, rfl, hn, hd, ho, al⟩ := I
  unfold wpX_volume
  dsimp only
  refine xa_V hd ?_
  exact ya_V ⟨rfl, I0⟩
theorem i_vc_drawn {k : Nat} {u : SX} {v : SY} (I : i_Rel k u v) (hk : k + 4 ≤ 2048) : wpX_drawn (fun r => wpY_drawn (fun r' => r' = r ∧ i_Rel (k + 4) u v) v) u := by
  have I0 := I
  obtain ⟨n, xs, ys, zs, ws, d, g, rfl, rfl, hn, hd, ho, al⟩ := I
  exact ⟨rfl, I0⟩
/-! draw -/
theorem xy_draw {k n : Nat} {xs ys zs ws d g : Nat → Int32} (hn : n < 10) (hd : ra_tq xs ys zs ws d 10 0) (ho : ra_ok d 0) (al : ra_al xs ys zs ws g n) {Y : (Int32 → SY → Prop) → Prop}
    (hY : ∀ post : Int32 → SY → Prop, (∃ n57 : Nat, wY_draw_57 post (nI n) (nI n) n57 0 d g) → Y post) :
    wX_draw_51 (fun r u' => Y (fun r' v' => r' = r ∧ i_Rel (k + 4) u' v')) (nI n) xs ys zs ws := by
  refine xa_d51 n hn (fun xs' ys' zs' ws' c0 c1 c2 c3 => ?_)
  refine hY _ ⟨13, ?_⟩
  refine ya_drl (g := g) n hn (fun g' e0 e1 => ⟨rfl, ?_⟩) 13 0 g (by decide) (by decide) (fun m hm => by omega) (fun m hm => rfl)
  obtain ⟨a, b⟩ := ra_draw hn hd ho al c0 c1 c2 c3 e0 e1
  exact ⟨n + 1, xs', ys', zs', ws', d, g', rfl, rfl, by omega, a, ho, b⟩
theorem i_vc_draw {k : Nat} {u : SX} {v : SY} (I : i_Rel k u v) (hk : k + 4 ≤ 2048) (v1 : Int32) : wpX_draw (fun r u' => wpY_draw (fun r' v' => r' = r ∧ i_Rel (k + 4) u' v') v v1) u v1 := by
  have I0 := I
  obtain ⟨n, xs, ys, zs, ws, d, g, rfl, rfl, hn, hd, ho, al⟩ := I
  by_cases h0 : v1 < 0
  · exact br_t h0 (br_t h0 ⟨rfl, I0⟩)
  by_cases h2 : v1 ≤ 2
  · refine br_f h0 (br_t h2 ?_)
    by_cases h10 : nI n < 10
    · have n10 : n < 10 := by
        have h' : nI n < nI 10 := h10
        rwa [nI_ltI (by omega) (by decide)] at h'
      refine br_t h10 ?_
      refine xa_V hd ?_
      by_cases s1 : v1 = 1
      · have s2 : ¬ v1 = 2 := by
          rw [s1]
          decide
        refine br_t s1 ?_
        by_cases z : ra_V d 0 ≤ 0
        · refine br_t z ?_
          exact br_f h0 (br_t h2 (br_t h10 (br_t s1 (ya_V (br_f (Int32.not_lt.mpr z) ⟨rfl, I0⟩)))))
        · refine br_f z (br_f s2 ?_)
          refine xy_draw (Y := fun post => wpY_draw post (nI n, d, g) v1) n10 hd ho al (fun post h => ?_)
          exact br_f h0 (br_t h2 (br_t h10 (br_t s1 (ya_V (br_t (Int32.not_le.mp z) (br_f s2 h))))))
      · refine br_f s1 ?_
        by_cases s2 : v1 = 2
        · refine br_t s2 ?_
          by_cases z : ra_V d 0 < 0
          · refine br_t z ?_
            refine xy_draw (Y := fun post => wpY_draw post (nI n, d, g) v1) n10 hd ho al (fun post h => ?_)
            exact br_f h0 (br_t h2 (br_t h10 (br_f s1 (br_t s2 (ya_V (br_t z h))))))
          · refine br_f z ?_
            exact br_f h0 (br_t h2 (br_t h10 (br_f s1 (br_t s2 (ya_V (br_f z ⟨rfl, I0⟩))))))
        · refine br_f s2 ?_
          refine xy_draw (Y := fun post => wpY_draw post (nI n, d, g) v1) n10 hd ho al (fun post h => ?_)
          exact br_f h0 (br_t h2 (br_t h10 (br_f s1 (br_f s2 h))))
    · exact br_f h10 (br_f h0 (br_t h2 (br_f h10 ⟨rfl, I0⟩)))
  · exact br_f h0 (br_f h2 (br_f h0 (br_f h2 ⟨rfl, I0⟩)))
theorem i_vc_remove {k : Nat} {u : SX} {v : SY} (I : i_Rel k u v) (hk : k + 4 ≤ 2048) (v1 : Int32) : wpX_remove (fun r u' => wpY_remove (fun r' v' => r' = r ∧ i_Rel (k + 4) u' v') v v1) u v1 := by
  have I0 := I
  obtain ⟨n, xs, ys, zs, ws, d, g, rfl, rfl, hn, hd, ho, al⟩ := I
  unfold wpX_remove wpY_remove
  dsimp only
  rcases pk_ix v1 (n := n) (by omega) with h | h | ⟨r, hr, rfl⟩
  · exact xa_dr_n (Or.inl h) (br_t rfl (ya_mi_n (Or.inl h) (br_f ra_n0 ⟨rfl, I0⟩)))
  · exact xa_dr_n (Or.inr h) (br_t rfl (ya_mi_n (Or.inr h) (br_f ra_n0 ⟨rfl, I0⟩)))
  · obtain ⟨N, rfl⟩ : ∃ N, n = N + 1 := ⟨n - 1, by omega⟩
    refine xa_dr hn hr (br_f ra_n0 (nm_r (nI_1 r) ⟨11, ?_⟩))
    refine xa_rml N r (by omega) (fun xs' ys' zs' ws' c0 c1 c2 c3 => ?_) 11 r xs ys zs ws (Nat.le_refl r) (by omega) (by omega) (ra_sh0 xs r) (ra_sh0 ys r) (ra_sh0 zs r) (ra_sh0 ws r)
    refine ya_mi hn hr (br_t rfl (nm_r (pk_mul 12 r) ⟨109, ?_⟩))
    refine ya_rml (g := g) N r (fun g' e0 e1 => ⟨rfl, ?_⟩) 109 (12 * r) g (Nat.le_refl _) (by omega) (by omega) (fun m hm hm2 => by omega) (fun m hm => rfl)
    obtain ⟨a, b⟩ := ra_remove hn hr hd al c0 c1 c2 c3 e0 e1
    exact ⟨N, xs', ys', zs', ws', d, g', rfl, rfl, by omega, a, ho, b⟩
