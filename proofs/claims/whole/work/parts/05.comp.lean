/-! the component's methods against the picture -/
theorem ra_tqE {xs ys zs ws g : Nat → Int32} {t b : Nat} (h : ra_tq xs ys zs ws g t b) :
    (xs (3 * t) = g b ∧ ys (3 * t) = g (b + 1) ∧ zs (3 * t) = g (b + 2) ∧ ws (3 * t) = g (b + 3)) ∧
    (xs (3 * t + 1) = g (b + 4) ∧ ys (3 * t + 1) = g (b + 5) ∧ zs (3 * t + 1) = g (b + 6) ∧ ws (3 * t + 1) = g (b + 7)) ∧
    (xs (3 * t + 2) = g (b + 8) ∧ ys (3 * t + 2) = g (b + 9) ∧ zs (3 * t + 2) = g (b + 10) ∧ ws (3 * t + 2) = g (b + 11)) :=
  ⟨h 0 (by decide), h 1 (by decide), h 2 (by decide)⟩
section
variable {post : Int32 → Prop} {c : Int32} {xs ys zs ws g : Nat → Int32}
theorem xa_det (m n : Nat) {x y w : Int32} (hm : m < 33) (hn : n < 33) (hp : post (ra_dt x y w (xs m) (ys m) (ws m) (xs n) (ys n) (ws n))) :
    wpX_determinant post (c, xs, ys, zs, ws) x y w (nI m) (nI n) := by
  have em : (nI m).toNatClampNeg = m := nI_clamp (by omega)
  have en : (nI n).toNatClampNeg = n := nI_clamp (by omega)
  have im : vp_in (nI m) 33 := vp_in_nI hm (by decide)
  have jn : vp_in (nI n) 33 := vp_in_nI hn (by decide)
  unfold wpX_determinant
  dsimp only
  rw [em, en]
  exact ⟨im, jn, jn, im, im, jn, jn, im, im, jn, jn, im, hp⟩
theorem xa_vol (t b : Nat) (ht : t < 11) (h : ra_tq xs ys zs ws g t b) (hp : post (ra_V g b)) : wpX_volumeOf post (c, xs, ys, zs, ws) (nI t) := by
  have e : (nI (3 * t)).toNatClampNeg = 3 * t := nI_clamp (by omega)
  have i0 : vp_in (nI (3 * t)) 33 := vp_in_nI (by omega) (by decide)
  have e2 : nI (3 * t) + 2 = nI (3 * t + 2) := nI_add (3 * t) 2
  obtain ⟨⟨a0, a1, a2, a3⟩, ⟨b0, b1, b2, b3⟩, c0, c1, c2, c3⟩ := ra_tqE h
  unfold wpX_volumeOf
  dsimp only
  refine nm_r (ra_t3 t) ?_
  rw [e, nI_1, e2]
  refine ⟨i0, i0, i0, ?_⟩
  refine xa_det (3 * t + 1) (3 * t + 2) (by omega) (by omega) ?_
  rw [a0, a1, a3, b0, b1, b3, c0, c1, c3]
  exact hp
theorem xa_siz (t b : Nat) (ht : t < 11) (h : ra_tq xs ys zs ws g t b) (hp : post (ra_sz g b)) : wpX_sizeOf post (c, xs, ys, zs, ws) (nI t) := by
  unfold wpX_sizeOf
  dsimp only
  refine xa_vol t b ht h ?_
  exact ra_sgb (post := post) hp
/-- one corner's turn of the loop -/
theorem xa_sd_s (t k a q n : Nat) {s V px py z D e : Int32} (ht : t < 11) (hk : k < 3) (ha : a < 3) (hq : q < 3) (e1 : (nI k + 1) - (nI k + 1) / 3 * 3 = nI a) (e2 : (nI k + 2) - (nI k + 2) / 3 * 3 = nI q)
    (hD : ra_dt px py 16 (xs (3 * t + a)) (ys (3 * t + a)) (ws (3 * t + a)) (xs (3 * t + q)) (ys (3 * t + q)) (ws (3 * t + q)) = D) (he : s * D = e)
    (h1 : 0 ≤ e → wX_scaledDepth_53 post V s px py (nI (3 * t)) c xs ys zs ws n (z + e * zs (3 * t + k)) (nI (k + 1))) (h0 : ¬ 0 ≤ e → post (-1)) :
    wX_scaledDepth_53 post V s px py (nI (3 * t)) c xs ys zs ws (n + 1) z (nI k) := by
  have k3 : ¬ (3 : Int32) ≤ nI k := nI_ge (b := 3) hk (by decide)
  have n3 : ¬ (3 : Int32) = 0 := by decide
  have f1 : nI (3 * t) + ((nI k + 1) - (nI k + 1) / 3 * 3) = nI (3 * t + a) := by rw [e1, nI_add]
  have f2 : nI (3 * t) + ((nI k + 2) - (nI k + 2) / 3 * 3) = nI (3 * t + q) := by rw [e2, nI_add]
  refine br_f k3 ⟨n3, nm_r f1 ⟨n3, nm_r f2 ?_⟩⟩
  refine xa_det (3 * t + a) (3 * t + q) (by omega) (by omega) ?_
  refine nm_r (e' := e) (by rw [hD, he]) ?_
  refine br_c (fun z0 => ?_) h0
  rw [nI_add, nI_clamp (by omega)]
  exact ⟨vp_in_nI (by omega) (by decide), nm_e (nm_r (nI_1 k) (h1 z0))⟩
theorem xa_sd24 (t b : Nat) {s i j : Int32} (ht : t < 11) (h : ra_tq xs ys zs ws g t b) (hs : ∀ v, s * v = ra_sg (ra_V g b) v) (hs2 : 16 * s * ra_V g b = 16 * ra_sz g b) (hV : ¬ ra_V g b = 0)
    (h1 : ra_cb g b (2 * i - 15) (2 * j - 15) = true → post (ra_tp g b (2 * i - 15) (2 * j - 15))) (h0 : ¬ ra_cb g b (2 * i - 15) (2 * j - 15) = true → post (-1)) :
    wX_scaledDepth_24 post (nI t) i j (ra_V g b) s c xs ys zs ws := by
  rw [ra_cb_iff] at h1 h0
  obtain ⟨⟨a0, a1, a2, a3⟩, ⟨b0, b1, b2, b3⟩, c0, c1, c2, c3⟩ := ra_tqE h
  unfold wX_scaledDepth_24
  refine nm_e (nm_e (nm_r (ra_t3 t) ⟨4, ?_⟩))
  refine xa_sd_s t 0 1 2 3 (e := ra_e0 g b (2 * i - 15) (2 * j - 15)) ht (by decide) (by decide) (by decide) (by decide) (by decide) (by rw [b0, b1, b3, c0, c1, c3]) (hs _) (fun p0 => ?_) (fun p0 => h0 (fun a => p0 (Int32.not_lt.mp a.2.1)))
  refine xa_sd_s t 1 2 0 2 (e := ra_e1 g b (2 * i - 15) (2 * j - 15)) ht (by decide) (by decide) (by decide) (by decide) (by decide) (by rw [Nat.add_zero (3 * t), a0, a1, a3, c0, c1, c3, ra_rot]) (hs _) (fun p1 => ?_) (fun p1 => h0 (fun a => p1 (Int32.not_lt.mp a.2.2.1)))
  refine xa_sd_s t 2 0 1 1 (e := ra_e2 g b (2 * i - 15) (2 * j - 15)) ht (by decide) (by decide) (by decide) (by decide) (by decide) (by rw [Nat.add_zero (3 * t), a0, a1, a3, b0, b1, b3, ra_rot, ra_rot]) (hs _) (fun p2 => ?_) (fun p2 => h0 (fun a => p2 (Int32.not_lt.mp a.2.2.2.1)))
  have et : 0 + ra_e0 g b (2 * i - 15) (2 * j - 15) * zs (3 * t + 0) + ra_e1 g b (2 * i - 15) (2 * j - 15) * zs (3 * t + 1) + ra_e2 g b (2 * i - 15) (2 * j - 15) * zs (3 * t + 2) = ra_tp g b (2 * i - 15) (2 * j - 15) := by
    rw [Nat.add_zero (3 * t), a2, b2, c2]
    rfl
  rw [et]
  refine br_t (by decide) ?_
  rw [hs2]
  refine br_c (fun p3 => h0 (fun a => a.2.2.2.2.1 p3)) (fun p3 => br_c (fun p4 => ?_) (fun p4 => h0 (fun a => p4 a.2.2.2.2.2)))
  exact h1 ⟨hV, Int32.not_lt.mpr p0, Int32.not_lt.mpr p1, Int32.not_lt.mpr p2, p3, p4⟩
theorem xa_sd (t b : Nat) {i j : Int32} (ht : t < 11) (h : ra_tq xs ys zs ws g t b)
    (h1 : ra_cb g b (2 * i - 15) (2 * j - 15) = true → post (ra_tp g b (2 * i - 15) (2 * j - 15))) (h0 : ¬ ra_cb g b (2 * i - 15) (2 * j - 15) = true → post (-1)) :
    wpX_scaledDepth post (c, xs, ys, zs, ws) (nI t) i j := by
  unfold wpX_scaledDepth
  dsimp only
  refine xa_vol t b ht h ?_
  refine br_c (fun z => h0 ?_) (fun z => br_c (fun p => ?_) (fun p => ?_))
  · rw [ra_cb_iff]
    exact fun a => a.1 z
  · refine xa_sd24 t b ht h (fun v => ?_) ?_ z h1 h0
    · rw [ra_sg_p v (Int32.not_lt.mpr p)]
      exact Int32.one_mul v
    · unfold ra_sz
      rw [ra_sg_p _ (Int32.not_lt.mpr p)]
      exact ra_16p _
  · refine xa_sd24 t b ht h (fun v => ?_) ?_ z h1 h0
    · rw [ra_sg_n v (Int32.not_le.mp p)]
      exact ra_m1 v
    · unfold ra_sz
      rw [ra_sg_n _ (Int32.not_le.mp p)]
      exact ra_16n _
theorem xa_ls {b a : Nat} {px py : Int32} (hb : ra_ok g b) (ha : ra_ok g a) (cb : ra_cb g b px py = true) (ca : ra_cb g a px py = true)
    (h1 : ra_lb g b a px py = true → post 1) (h0 : ¬ ra_lb g b a px py = true → post 0) :
    wpX_isLess post (ra_tp g b px py) (ra_sz g b) (ra_tp g a px py) (ra_sz g a) := by
  rw [← ra_lb_x hb ha cb ca] at h1 h0
  exact br_c (fun z => h0 (Int64.not_lt.mpr z)) (fun z => h1 (Int64.not_le.mp z))
/-! the owner -/
theorem ra_iv_an {g : Nat → Int32} {px py B D S : Int32} {t : Nat} (h : ra_iv g px py t B D S) : B = ra_an (-2) (ra_ow g px py t) := by
  rcases h with ⟨h, e⟩ | ⟨b, h, e, _, _⟩
  · rw [h, e]; rfl
  · rw [h, e]; rfl
theorem ra_nm2 {b : Nat} (h : b < 2 ^ 31) : ¬ nI b = -2 := by
  intro e
  have := nI_pos h
  rw [e] at this
  exact this (by decide)
theorem ra_nm1 {b : Nat} (h : b < 2 ^ 31) : ¬ nI b = -1 := by
  intro e
  have := nI_pos h
  rw [e] at this
  exact this (by decide)
theorem xa_ow_l {N : Nat} {i j : Int32} (hN : N ≤ 10) (al : ra_al xs ys zs ws g N) (hp : post (ra_an (-2) (ra_ow g (2 * i - 15) (2 * j - 15) N))) :
    ∀ n t B D S, t ≤ N → N - t < n → ra_iv g (2 * i - 15) (2 * j - 15) t B D S → wX_ownerAt_12 post i j (nI N) xs ys zs ws n B D S (nI t) := by
  intro n
  induction n with
  | zero => intro t B D S h1 h2; omega
  | succ n ih =>
    intro t B D S h1 h2 hv
    by_cases e : t = N
    · subst e
      refine br_t (nI_le (Nat.le_refl t) (by omega)) ?_
      rw [ra_iv_an hv]
      exact hp
    · obtain ⟨tq, ok⟩ := al t (by omega)
      refine br_f (nI_ge (by omega) (by omega)) ?_
      refine xa_sd t (12 * t) (by omega) tq (fun ct => ?_) (fun ct => ?_)
      · refine br_f (ra_tp_m1 ct) ?_
        refine xa_siz t (12 * t) (by omega) tq ?_
        rcases hv with ⟨h, eB⟩ | ⟨b, h, eB, eD, eS⟩
        · refine br_t eB (nm_r (nI_1 t) ?_)
          exact ih (t + 1) _ _ _ (by omega) (by omega) (Or.inr ⟨t, ra_ow_0 ct h, rfl, rfl, rfl⟩)
        · have hb := ra_ow_b h
          subst eB
          subst eD
          subst eS
          refine br_f (ra_nm2 (by omega)) ?_
          refine xa_ls ok (al b (by omega)).2 ct hb.2 (fun l => ?_) (fun l => ?_)
          · refine br_f (by decide) (nm_r (nI_1 t) ?_)
            exact ih (t + 1) _ _ _ (by omega) (by omega) (Or.inr ⟨t, ra_ow_1 ct h l, rfl, rfl, rfl⟩)
          · refine br_t rfl (nm_r (nI_1 t) ?_)
            exact ih (t + 1) _ _ _ (by omega) (by omega) (Or.inr ⟨b, ra_ow_2 ct h l, rfl, rfl, rfl⟩)
      · refine br_t rfl (nm_r (nI_1 t) ?_)
        refine ih (t + 1) B D S (by omega) (by omega) ?_
        unfold ra_iv
        rw [ra_ow_n ct]
        exact hv
theorem xa_ow {N : Nat} {i j : Int32} (hN : N ≤ 10) (al : ra_al xs ys zs ws g N) (hp : post (ra_an (-2) (ra_ow g (2 * i - 15) (2 * j - 15) N))) :
    wpX_ownerAt post (nI N, xs, ys, zs, ws) i j := by
  unfold wpX_ownerAt
  dsimp only
  exact ⟨N + 1, xa_ow_l hN al hp (N + 1) 0 (-2) 0 0 (by omega) (by omega) (Or.inl ⟨rfl, rfl⟩)⟩
/-! refusals -/
theorem xa_dr {N t : Nat} (hN : N ≤ 10) (ht : t < N) (hp : post 1) : wpX_isDrawn post (nI N, xs, ys, zs, ws) (nI t) :=
  br_f (nI_pos (by omega)) (br_f (nI_ge ht (by omega)) hp)
theorem xa_dr_n {N : Nat} {x : Int32} (h : x < 0 ∨ nI N ≤ x) (hp : post 0) : wpX_isDrawn post (nI N, xs, ys, zs, ws) x := by
  refine br_c (fun _ => hp) (fun z => ?_)
  rcases h with h | h
  · exact absurd h z
  · exact br_t h hp
theorem xa_wi {i : Nat} (h : i < 16) (hp : post 1) : wpX_isInWindow post (nI i) :=
  br_f (nI_pos (by omega)) (br_f (nI_ge (b := 16) h (by decide)) hp)
theorem xa_wi_n {x : Int32} (h : x < 0 ∨ nI 16 ≤ x) (hp : post 0) : wpX_isInWindow post x := by
  refine br_c (fun _ => hp) (fun z => ?_)
  rcases h with h | h
  · exact absurd h z
  · exact br_t h hp
theorem xa_pi {i j : Nat} (hi : i < 16) (hj : j < 16) (hp : post 1) : wpX_isPixel post (nI i) (nI j) := by
  unfold wpX_isPixel
  refine xa_wi hi (br_f (by decide) ?_)
  exact xa_wi hj (br_f (by decide) hp)
theorem xa_pi_n0 {x y : Int32} (h : x < 0 ∨ nI 16 ≤ x) (hp : post 0) : wpX_isPixel post x y := by
  unfold wpX_isPixel
  exact xa_wi_n h (br_t rfl hp)
theorem xa_pi_n1 {i : Nat} {y : Int32} (hi : i < 16) (h : y < 0 ∨ nI 16 ≤ y) (hp : post 0) : wpX_isPixel post (nI i) y := by
  unfold wpX_isPixel
  refine xa_wi hi (br_f (by decide) ?_)
  exact xa_wi_n h (br_t rfl hp)
end
