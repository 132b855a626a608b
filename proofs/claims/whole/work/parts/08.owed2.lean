/-! the questions -/
theorem i_vc_owner {k : Nat} {u : SX} {v : SY} (I : i_Rel k u v) (hk : k + 4 ≤ 2048) (v1 : Int32) (v2 : Int32) : wpX_owner (fun r => wpY_owner (fun r' => r' = r ∧ i_Rel (k + 4) u v) v v1 v2) u v1 v2 := by
  have I0 := I
  obtain ⟨n, xs, ys, zs, ws, d, g, rfl, rfl, hn, hd, ho, al⟩ := I
  have ok : ∀ t, t < n → ra_ok g (12 * t) := fun t ht => (al t ht).2
  unfold wpX_owner wpY_owner
  dsimp only
  rcases pk_ix v1 (n := 16) (by decide) with h | h | ⟨i, hi, rfl⟩
  · exact xa_pi_n0 (Or.inl h) (br_t rfl (ya_bp_n (Or.inl h) (br_f ra_n0 ⟨rfl, I0⟩)))
  · exact xa_pi_n0 (Or.inr h) (br_t rfl (ya_bp_n (Or.inr h) (br_f ra_n0 ⟨rfl, I0⟩)))
  · rcases pk_ix v2 (n := 16) (by decide) with h | h | ⟨j, hj, rfl⟩
    · exact xa_pi_n1 hi (Or.inl h) (br_t rfl (ya_bp hi (br_t rfl (ya_bp_n (Or.inl h) (br_f ra_n0 ⟨rfl, I0⟩)))))
    · exact xa_pi_n1 hi (Or.inr h) (br_t rfl (ya_bp hi (br_t rfl (ya_bp_n (Or.inr h) (br_f ra_n0 ⟨rfl, I0⟩)))))
    · refine xa_pi hi hj (br_f ra_n0 ?_)
      refine xa_ow hn al ?_
      refine ya_bp hi (br_t rfl ?_)
      refine ya_bp hj (br_t rfl ?_)
      refine ya_ow hn ok ?_
      cases e : ra_ow g (2 * nI i - 15) (2 * nI j - 15) n with
      | none => exact br_f (by decide) ⟨rfl, I0⟩
      | some b => exact br_t (nI_pos' (ra_ow_l hn b e)) ⟨rfl, I0⟩
theorem i_vc_owned {k : Nat} {u : SX} {v : SY} (I : i_Rel k u v) (hk : k + 4 ≤ 2048) (v1 : Int32) : wpX_owned (fun r => wpY_owned (fun r' => r' = r ∧ i_Rel (k + 4) u v) v v1) u v1 := by
  have I0 := I
  obtain ⟨n, xs, ys, zs, ws, d, g, rfl, rfl, hn, hd, ho, al⟩ := I
  have ok : ∀ t, t < n → ra_ok g (12 * t) := fun t ht => (al t ht).2
  unfold wpX_owned wpY_owned
  dsimp only
  rcases pk_ix v1 (n := n) (by omega) with h | h | ⟨r, hr, rfl⟩
  · exact xa_dr_n (Or.inl h) (br_t rfl (ya_mi_n (Or.inl h) (br_f ra_n0 ⟨rfl, I0⟩)))
  · exact xa_dr_n (Or.inr h) (br_t rfl (ya_mi_n (Or.inr h) (br_f ra_n0 ⟨rfl, I0⟩)))
  · refine xa_dr hn hr (br_f ra_n0 ⟨257, ?_⟩)
    refine xa_owned hn hr al ?_
    refine ya_mi hn hr (br_t rfl ⟨17, ?_⟩)
    exact ya_owned hn hr ok ⟨rfl, I0⟩
theorem i_vc_covered {k : Nat} {u : SX} {v : SY} (I : i_Rel k u v) (hk : k + 4 ≤ 2048) (v1 : Int32) : wpX_covered (fun r => wpY_covered (fun r' => r' = r ∧ i_Rel (k + 4) u v) v v1) u v1 := by
  have I0 := I
  obtain ⟨n, xs, ys, zs, ws, d, g, rfl, rfl, hn, hd, ho, al⟩ := I
  have ok : ∀ t, t < n → ra_ok g (12 * t) := fun t ht => (al t ht).2
  unfold wpX_covered wpY_covered
  dsimp only
  rcases pk_ix v1 (n := n) (by omega) with h | h | ⟨r, hr, rfl⟩
  · exact xa_dr_n (Or.inl h) (br_t rfl (ya_mi_n (Or.inl h) (br_f ra_n0 ⟨rfl, I0⟩)))
  · exact xa_dr_n (Or.inr h) (br_t rfl (ya_mi_n (Or.inr h) (br_f ra_n0 ⟨rfl, I0⟩)))
  · refine xa_dr hn hr (br_f ra_n0 ⟨257, ?_⟩)
    refine xa_covered hn hr al ?_
    refine ya_mi hn hr (br_t rfl ⟨17, ?_⟩)
    exact ya_covered hn hr ok ⟨rfl, I0⟩
theorem i_vc_covers {k : Nat} {u : SX} {v : SY} (I : i_Rel k u v) (hk : k + 4 ≤ 2048) (v1 : Int32) (v2 : Int32) (v3 : Int32) : wpX_covers (fun r => wpY_covers (fun r' => r' = r ∧ i_Rel (k + 4) u v) v v1 v2 v3) u v1 v2 v3 := by
  have I0 := I
  obtain ⟨n, xs, ys, zs, ws, d, g, rfl, rfl, hn, hd, ho, al⟩ := I
  have ok : ∀ t, t < n → ra_ok g (12 * t) := fun t ht => (al t ht).2
  unfold wpX_covers wpY_covers
  dsimp only
  rcases pk_ix v1 (n := n) (by omega) with h | h | ⟨r, hr, rfl⟩
  · exact xa_dr_n (Or.inl h) (br_t rfl (ya_mi_n (Or.inl h) (br_f ra_n0 ⟨rfl, I0⟩)))
  · exact xa_dr_n (Or.inr h) (br_t rfl (ya_mi_n (Or.inr h) (br_f ra_n0 ⟨rfl, I0⟩)))
  · refine xa_dr hn hr (br_f ra_n0 ?_)
    rcases pk_ix v2 (n := 16) (by decide) with h | h | ⟨i, hi, rfl⟩
    · exact xa_pi_n0 (Or.inl h) (br_t rfl (ya_mi hn hr (br_t rfl (ya_bp_n (Or.inl h) (br_f ra_n0 ⟨rfl, I0⟩)))))
    · exact xa_pi_n0 (Or.inr h) (br_t rfl (ya_mi hn hr (br_t rfl (ya_bp_n (Or.inr h) (br_f ra_n0 ⟨rfl, I0⟩)))))
    · rcases pk_ix v3 (n := 16) (by decide) with h | h | ⟨j, hj, rfl⟩
      · exact xa_pi_n1 hi (Or.inl h) (br_t rfl (ya_mi hn hr (br_t rfl (ya_bp hi (br_t rfl (ya_bp_n (Or.inl h) (br_f ra_n0 ⟨rfl, I0⟩)))))))
      · exact xa_pi_n1 hi (Or.inr h) (br_t rfl (ya_mi hn hr (br_t rfl (ya_bp hi (br_t rfl (ya_bp_n (Or.inr h) (br_f ra_n0 ⟨rfl, I0⟩)))))))
      · refine xa_pi hi hj (br_f ra_n0 ?_)
        refine xa_sd r (12 * r) (by omega) (al r hr).1 (fun z => br_f (ra_tp_m1 z) ?_) (fun z => br_t rfl ?_)
        · refine ya_mi hn hr (br_t rfl (ya_bp hi (br_t rfl (ya_bp hj (br_t rfl ?_)))))
          exact ya_cov r (by omega) (ok r hr) (fun _ => br_f ra_n0 ⟨rfl, I0⟩) (fun y => absurd z y)
        · refine ya_mi hn hr (br_t rfl (ya_bp hi (br_t rfl (ya_bp hj (br_t rfl ?_)))))
          exact ya_cov r (by omega) (ok r hr) (fun y => absurd y z) (fun _ => br_t rfl ⟨rfl, I0⟩)
theorem i_vc_lit {k : Nat} {u : SX} {v : SY} (I : i_Rel k u v) (hk : k + 4 ≤ 2048) : wpX_lit (fun r => wpY_lit (fun r' => r' = r ∧ i_Rel (k + 4) u v) v) u := by
  have I0 := I
  obtain ⟨n, xs, ys, zs, ws, d, g, rfl, rfl, hn, hd, ho, al⟩ := I
  have ok : ∀ t, t < n → ra_ok g (12 * t) := fun t ht => (al t ht).2
  unfold wpX_lit wpY_lit
  dsimp only
  refine ⟨257, ?_⟩
  refine xa_lit hn al ?_
  refine ⟨17, ?_⟩
  exact ya_lit hn ok ⟨rfl, I0⟩
theorem i_vc_firstIn {k : Nat} {u : SX} {v : SY} (I : i_Rel k u v) (hk : k + 4 ≤ 2048) (v1 : Int32) (v2 : Int32) : wpX_firstIn (fun r => wpY_firstIn (fun r' => r' = r ∧ i_Rel (k + 4) u v) v v1 v2) u v1 v2 := by
  have I0 := I
  obtain ⟨n, xs, ys, zs, ws, d, g, rfl, rfl, hn, hd, ho, al⟩ := I
  unfold wpX_firstIn wpY_firstIn
  dsimp only
  rcases pk_ix v1 (n := n) (by omega) with h | h | ⟨r, hr, rfl⟩
  · exact xa_dr_n (Or.inl h) (br_t rfl (ya_mi_n (Or.inl h) (br_f ra_n0 ⟨rfl, I0⟩)))
  · exact xa_dr_n (Or.inr h) (br_t rfl (ya_mi_n (Or.inr h) (br_f ra_n0 ⟨rfl, I0⟩)))
  · refine xa_dr hn hr (br_f ra_n0 ?_)
    rcases pk_ix v2 (n := 16) (by decide) with h | h | ⟨j, hj, rfl⟩
    · exact xa_wi_n (Or.inl h) (br_t rfl (ya_mi hn hr (br_t rfl (ya_bp_n (Or.inl h) (br_f ra_n0 ⟨rfl, I0⟩)))))
    · exact xa_wi_n (Or.inr h) (br_t rfl (ya_mi hn hr (br_t rfl (ya_bp_n (Or.inr h) (br_f ra_n0 ⟨rfl, I0⟩)))))
    · obtain ⟨a, hX, hY⟩ := xy_first (d := d) (j := j) hn hr al 16 0 rfl
      refine xa_wi hj (br_f ra_n0 ⟨17, ?_⟩)
      refine hX _ ?_
      refine ya_mi hn hr (br_t rfl (ya_bp hj (br_t rfl ⟨17, ?_⟩)))
      exact hY _ ⟨rfl, I0⟩
theorem i_vc_lastIn {k : Nat} {u : SX} {v : SY} (I : i_Rel k u v) (hk : k + 4 ≤ 2048) (v1 : Int32) (v2 : Int32) : wpX_lastIn (fun r => wpY_lastIn (fun r' => r' = r ∧ i_Rel (k + 4) u v) v v1 v2) u v1 v2 := by
  have I0 := I
  obtain ⟨n, xs, ys, zs, ws, d, g, rfl, rfl, hn, hd, ho, al⟩ := I
  unfold wpX_lastIn wpY_lastIn
  dsimp only
  rcases pk_ix v1 (n := n) (by omega) with h | h | ⟨r, hr, rfl⟩
  · exact xa_dr_n (Or.inl h) (br_t rfl (ya_mi_n (Or.inl h) (br_f ra_n0 ⟨rfl, I0⟩)))
  · exact xa_dr_n (Or.inr h) (br_t rfl (ya_mi_n (Or.inr h) (br_f ra_n0 ⟨rfl, I0⟩)))
  · refine xa_dr hn hr (br_f ra_n0 ?_)
    rcases pk_ix v2 (n := 16) (by decide) with h | h | ⟨j, hj, rfl⟩
    · exact xa_wi_n (Or.inl h) (br_t rfl (ya_mi hn hr (br_t rfl (ya_bp_n (Or.inl h) (br_f ra_n0 ⟨rfl, I0⟩)))))
    · exact xa_wi_n (Or.inr h) (br_t rfl (ya_mi hn hr (br_t rfl (ya_bp_n (Or.inr h) (br_f ra_n0 ⟨rfl, I0⟩)))))
    · obtain ⟨a, hX, hY⟩ := xy_last (d := d) (j := j) hn hr al 16 (by decide)
      have e : nI 16 + (-1) = 15 := by decide
      rw [e] at hX hY
      refine xa_wi hj (br_f ra_n0 ⟨17, ?_⟩)
      refine hX _ ?_
      refine ya_mi hn hr (br_t rfl (ya_bp hj (br_t rfl ⟨17, ?_⟩)))
      exact hY _ ⟨rfl, I0⟩
theorem i_vc_nearer {k : Nat} {u : SX} {v : SY} (I : i_Rel k u v) (hk : k + 4 ≤ 2048) (v1 : Int32) (v2 : Int32) (v3 : Int32) : wpX_nearer (fun r => wpY_nearer (fun r' => r' = r ∧ i_Rel (k + 4) u v) v v1 v2 v3) u v1 v2 v3 := by
  have I0 := I
  obtain ⟨n, xs, ys, zs, ws, d, g, rfl, rfl, hn, hd, ho, al⟩ := I
  have ok : ∀ t, t < n → ra_ok g (12 * t) := fun t ht => (al t ht).2
  have n16 : ¬ (16 : Int32) = 0 := by decide
  unfold wpX_nearer
  dsimp only
  rcases pk_ix v1 (n := n) (by omega) with h | h | ⟨a, ha, rfl⟩
  · refine xa_dr_n (Or.inl h) (br_t rfl ?_)
    unfold wpY_nearer
    dsimp only
    exact ya_mi_n (Or.inl h) (br_f ra_n0 ⟨rfl, I0⟩)
  · refine xa_dr_n (Or.inr h) (br_t rfl ?_)
    unfold wpY_nearer
    dsimp only
    exact ya_mi_n (Or.inr h) (br_f ra_n0 ⟨rfl, I0⟩)
  · refine xa_dr hn ha (br_f ra_n0 ?_)
    rcases pk_ix v2 (n := n) (by omega) with h | h | ⟨b, hb, rfl⟩
    · refine xa_dr_n (Or.inl h) (br_t rfl ?_)
      unfold wpY_nearer
      dsimp only
      exact ya_mi hn ha (br_t rfl (ya_mi_n (Or.inl h) (br_f ra_n0 ⟨rfl, I0⟩)))
    · refine xa_dr_n (Or.inr h) (br_t rfl ?_)
      unfold wpY_nearer
      dsimp only
      exact ya_mi hn ha (br_t rfl (ya_mi_n (Or.inr h) (br_f ra_n0 ⟨rfl, I0⟩)))
    · refine xa_dr hn hb (br_f ra_n0 ?_)
      rcases pk_ix v3 (n := 256) (by decide) with h | h | ⟨q, hq, rfl⟩
      · refine br_t h ?_
        unfold wpY_nearer
        dsimp only
        exact ya_mi hn ha (br_t rfl (ya_mi hn hb (br_t rfl (br_t h ⟨rfl, I0⟩))))
      · have g0 : ¬ v3 < 0 := Int32.not_lt.mpr (Int32.le_trans (nI_pos' (by decide)) h)
        have g1 : ¬ v3 < 256 := Int32.not_lt.mpr h
        have g2 : ¬ v3 ≤ 255 := by
          obtain ⟨m, hm, rfl⟩ := nI_of g0
          rw [nI_leI (by decide) hm] at h
          exact nI_ge (a := 255) (by omega) hm
        refine br_f g0 (br_f g1 ?_)
        unfold wpY_nearer
        dsimp only
        exact ya_mi hn ha (br_t rfl (ya_mi hn hb (br_t rfl (br_f g0 (br_f g2 ⟨rfl, I0⟩)))))
      · have g0 : ¬ nI q < 0 := nI_pos (by omega)
        have g1 : nI q < 256 := nI_lt (b := 256) hq (by decide)
        have g2 : nI q ≤ 255 := nI_le (b := 255) (by omega) (by decide)
        rw [ra_rem16 hq, ra_div16 hq]
        have Y : ∀ post : Int32 → Prop, wpY_covering (fun r_17 => (r_17 = 0 → post (-3)) ∧ (¬ r_17 = 0 → wpY_covering (fun r_22 => (r_22 = 0 → post (-3)) ∧ (¬ r_22 = 0 →
            wpY_compare (fun r_27 => (0 ≤ r_27 → (r_27 ≤ 0 → post 0) ∧ (¬ r_27 ≤ 0 → post 2)) ∧ (¬ 0 ≤ r_27 → post 1)) (nI n, d, g) (nI a) (nI b) (nI (q % 16)) (nI (q / 16))))
            (nI n, d, g) (nI b) (nI (q % 16)) (nI (q / 16)))) (nI n, d, g) (nI a) (nI (q % 16)) (nI (q / 16)) → wpY_nearer post (nI n, d, g) (nI a) (nI b) (nI q) := by
          intro post h
          unfold wpY_nearer
          dsimp only
          refine ya_mi hn ha (br_t rfl (ya_mi hn hb (br_t rfl (br_f g0 (br_t g2 ⟨n16, ?_⟩)))))
          exact nm_r (ra_rem16 hq) ⟨n16, nm_r (ra_div16 hq) h⟩
        refine br_f g0 (br_t g1 ⟨n16, n16, ?_⟩)
        refine xa_sd a (12 * a) (by omega) (al a ha).1 (fun za => ⟨n16, n16, ?_⟩) (fun za => ⟨n16, n16, ?_⟩)
        · refine xa_sd b (12 * b) (by omega) (al b hb).1 (fun zb => ?_) (fun zb => ?_)
          · refine br_f (ra_tp_m1 za) (br_f (ra_tp_m1 zb) ?_)
            refine xa_siz a (12 * a) (by omega) (al a ha).1 ?_
            refine xa_siz b (12 * b) (by omega) (al b hb).1 ?_
            refine xa_ls (ok a ha) (ok b hb) za zb (fun l => br_f ra_n0 ?_) (fun l => br_t rfl ?_)
            · refine Y _ ?_
              refine ya_cov a (by omega) (ok a ha) (fun _ => br_f ra_n0 ?_) (fun y => absurd za y)
              refine ya_cov b (by omega) (ok b hb) (fun _ => br_f ra_n0 ?_) (fun y => absurd zb y)
              exact ya_cmp a b (by omega) (by omega) (ok a ha) (ok b hb) za zb (fun _ => br_f (by decide) ⟨rfl, I0⟩) (fun y _ => absurd l y) (fun y _ => absurd l y)
            · refine xa_ls (ok b hb) (ok a ha) zb za (fun l2 => br_f ra_n0 ?_) (fun l2 => br_t rfl ?_)
              · refine Y _ ?_
                refine ya_cov a (by omega) (ok a ha) (fun _ => br_f ra_n0 ?_) (fun y => absurd za y)
                refine ya_cov b (by omega) (ok b hb) (fun _ => br_f ra_n0 ?_) (fun y => absurd zb y)
                exact ya_cmp a b (by omega) (by omega) (ok a ha) (ok b hb) za zb (fun y => absurd y l) (fun _ _ => br_t (by decide) (br_f (by decide) ⟨rfl, I0⟩)) (fun _ y => absurd l2 y)
              · refine Y _ ?_
                refine ya_cov a (by omega) (ok a ha) (fun _ => br_f ra_n0 ?_) (fun y => absurd za y)
                refine ya_cov b (by omega) (ok b hb) (fun _ => br_f ra_n0 ?_) (fun y => absurd zb y)
                exact ya_cmp a b (by omega) (by omega) (ok a ha) (ok b hb) za zb (fun y => absurd y l) (fun _ y => absurd y l2) (fun _ _ => br_t (by decide) (br_t (by decide) ⟨rfl, I0⟩))
          · refine br_f (ra_tp_m1 za) (br_t rfl ?_)
            refine Y _ ?_
            refine ya_cov a (by omega) (ok a ha) (fun _ => br_f ra_n0 ?_) (fun y => absurd za y)
            exact ya_cov b (by omega) (ok b hb) (fun y => absurd y zb) (fun _ => br_t rfl ⟨rfl, I0⟩)
        · refine xa_sd b (12 * b) (by omega) (al b hb).1 (fun zb => ?_) (fun zb => ?_)
          · refine br_t rfl ?_
            refine Y _ ?_
            exact ya_cov a (by omega) (ok a ha) (fun y => absurd y za) (fun _ => br_t rfl ⟨rfl, I0⟩)
          · refine br_t rfl ?_
            refine Y _ ?_
            exact ya_cov a (by omega) (ok a ha) (fun y => absurd y za) (fun _ => br_t rfl ⟨rfl, I0⟩)
