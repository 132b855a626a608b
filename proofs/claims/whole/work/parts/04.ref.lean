/-! the reference's methods against the picture -/
theorem ra_cb_iff {g : Nat → Int32} {b : Nat} {px py : Int32} : ra_cb g b px py = true ↔
    (¬ ra_V g b = 0 ∧ ¬ ra_e0 g b px py < 0 ∧ ¬ ra_e1 g b px py < 0 ∧ ¬ ra_e2 g b px py < 0 ∧ ¬ ra_tp g b px py < 0 ∧ ra_tp g b px py ≤ 16 * ra_sz g b) := by
  unfold ra_cb
  exact decide_eq_true_iff
theorem ra_sgb {post : Int32 → Prop} {s v : Int32} (h : post (ra_sg s v)) : (0 ≤ s → post v) ∧ (¬ 0 ≤ s → post (-v)) := by
  constructor
  · intro z
    rwa [ra_sg_p v (Int32.not_lt.mpr z)] at h
  · intro z
    rwa [ra_sg_n v (Int32.not_le.mp z)] at h
section
variable {post : Int32 → Prop} {c : Int32} {d g : Nat → Int32}
theorem ya_pn (t k r q m : Nat) {px py : Int32} (ht : t < 10) (hr : r < 3) (hk : k < 4) (h : r ≠ k) (hm : 4 * r + q = m) (h12 : m < 12) (hp : post (g (12 * t + m))) :
    wpY_part post (c, d, g) (nI t) (nI k) px py (nI r) (nI q) := by
  have e : ¬ nI r = nI k := by
    rw [nI_eq (by omega) (by omega)]
    exact h
  have e2 : 12 * nI t + 4 * nI r + nI q = nI (12 * t + m) := by rw [ra_12, ← hm, Nat.add_assoc]
  refine br_f e ?_
  rw [e2, nI_clamp (by omega)]
  exact ⟨vp_in_nI (by omega) (by decide), hp⟩
theorem ya_p0 (k : Nat) {x px py : Int32} (h : post px) : wpY_part post (c, d, g) x (nI k) px py (nI k) 0 := br_t rfl (br_t rfl h)
theorem ya_p1 (k : Nat) {x px py : Int32} (h : post py) : wpY_part post (c, d, g) x (nI k) px py (nI k) 1 := br_t rfl (br_f (by decide) (br_t rfl h))
theorem ya_p3 (k : Nat) {x px py : Int32} (h : post 16) : wpY_part post (c, d, g) x (nI k) px py (nI k) 3 := br_t rfl (br_f (by decide) (br_f (by decide) h))
theorem ya_vw0 (t : Nat) {px py : Int32} (ht : t < 10) (hp : post (ra_dt px py 16 (g (12 * t + 4)) (g (12 * t + 5)) (g (12 * t + 7)) (g (12 * t + 8)) (g (12 * t + 9)) (g (12 * t + 11)))) : wpY_volumeWith post (c, d, g) (nI t) 0 px py := by
  unfold wpY_volumeWith
  dsimp only
  refine ya_p0 0 ?_
  refine ya_p1 0 ?_
  refine ya_p3 0 ?_
  refine ya_pn t 0 1 0 4 ht (by decide) (by decide) (by decide) rfl (by decide) ?_
  refine ya_pn t 0 1 1 5 ht (by decide) (by decide) (by decide) rfl (by decide) ?_
  refine ya_pn t 0 1 3 7 ht (by decide) (by decide) (by decide) rfl (by decide) ?_
  refine ya_pn t 0 2 0 8 ht (by decide) (by decide) (by decide) rfl (by decide) ?_
  refine ya_pn t 0 2 1 9 ht (by decide) (by decide) (by decide) rfl (by decide) ?_
  refine ya_pn t 0 2 3 11 ht (by decide) (by decide) (by decide) rfl (by decide) ?_
  exact hp
theorem ya_vw1 (t : Nat) {px py : Int32} (ht : t < 10) (hp : post (ra_dt (g (12 * t)) (g (12 * t + 1)) (g (12 * t + 3)) px py 16 (g (12 * t + 8)) (g (12 * t + 9)) (g (12 * t + 11)))) : wpY_volumeWith post (c, d, g) (nI t) 1 px py := by
  unfold wpY_volumeWith
  dsimp only
  refine ya_pn t 1 0 0 0 ht (by decide) (by decide) (by decide) rfl (by decide) ?_
  refine ya_pn t 1 0 1 1 ht (by decide) (by decide) (by decide) rfl (by decide) ?_
  refine ya_pn t 1 0 3 3 ht (by decide) (by decide) (by decide) rfl (by decide) ?_
  refine ya_p0 1 ?_
  refine ya_p1 1 ?_
  refine ya_p3 1 ?_
  refine ya_pn t 1 2 0 8 ht (by decide) (by decide) (by decide) rfl (by decide) ?_
  refine ya_pn t 1 2 1 9 ht (by decide) (by decide) (by decide) rfl (by decide) ?_
  refine ya_pn t 1 2 3 11 ht (by decide) (by decide) (by decide) rfl (by decide) ?_
  exact hp
theorem ya_vw2 (t : Nat) {px py : Int32} (ht : t < 10) (hp : post (ra_dt (g (12 * t)) (g (12 * t + 1)) (g (12 * t + 3)) (g (12 * t + 4)) (g (12 * t + 5)) (g (12 * t + 7)) px py 16)) : wpY_volumeWith post (c, d, g) (nI t) 2 px py := by
  unfold wpY_volumeWith
  dsimp only
  refine ya_pn t 2 0 0 0 ht (by decide) (by decide) (by decide) rfl (by decide) ?_
  refine ya_pn t 2 0 1 1 ht (by decide) (by decide) (by decide) rfl (by decide) ?_
  refine ya_pn t 2 0 3 3 ht (by decide) (by decide) (by decide) rfl (by decide) ?_
  refine ya_pn t 2 1 0 4 ht (by decide) (by decide) (by decide) rfl (by decide) ?_
  refine ya_pn t 2 1 1 5 ht (by decide) (by decide) (by decide) rfl (by decide) ?_
  refine ya_pn t 2 1 3 7 ht (by decide) (by decide) (by decide) rfl (by decide) ?_
  refine ya_p0 2 ?_
  refine ya_p1 2 ?_
  refine ya_p3 2 ?_
  exact hp
theorem ya_vw3 (t : Nat) {px py : Int32} (ht : t < 10) (hp : post (ra_V g (12 * t))) : wpY_volumeWith post (c, d, g) (nI t) 3 px py := by
  unfold wpY_volumeWith
  dsimp only
  refine ya_pn t 3 0 0 0 ht (by decide) (by decide) (by decide) rfl (by decide) ?_
  refine ya_pn t 3 0 1 1 ht (by decide) (by decide) (by decide) rfl (by decide) ?_
  refine ya_pn t 3 0 3 3 ht (by decide) (by decide) (by decide) rfl (by decide) ?_
  refine ya_pn t 3 1 0 4 ht (by decide) (by decide) (by decide) rfl (by decide) ?_
  refine ya_pn t 3 1 1 5 ht (by decide) (by decide) (by decide) rfl (by decide) ?_
  refine ya_pn t 3 1 3 7 ht (by decide) (by decide) (by decide) rfl (by decide) ?_
  refine ya_pn t 3 2 0 8 ht (by decide) (by decide) (by decide) rfl (by decide) ?_
  refine ya_pn t 3 2 1 9 ht (by decide) (by decide) (by decide) rfl (by decide) ?_
  refine ya_pn t 3 2 3 11 ht (by decide) (by decide) (by decide) rfl (by decide) ?_
  exact hp
theorem ya_we0 (t : Nat) {i j : Int32} (ht : t < 10) (hp : post (ra_e0 g (12 * t) (2 * i - 15) (2 * j - 15))) : wpY_weight post (c, d, g) (nI t) 0 i j := by
  unfold wpY_weight
  dsimp only
  refine ya_vw3 t ht ?_
  refine ya_vw0 t ht ?_
  exact ra_sgb (post := post) hp
theorem ya_we1 (t : Nat) {i j : Int32} (ht : t < 10) (hp : post (ra_e1 g (12 * t) (2 * i - 15) (2 * j - 15))) : wpY_weight post (c, d, g) (nI t) 1 i j := by
  unfold wpY_weight
  dsimp only
  refine ya_vw3 t ht ?_
  refine ya_vw1 t ht ?_
  exact ra_sgb (post := post) hp
theorem ya_we2 (t : Nat) {i j : Int32} (ht : t < 10) (hp : post (ra_e2 g (12 * t) (2 * i - 15) (2 * j - 15))) : wpY_weight post (c, d, g) (nI t) 2 i j := by
  unfold wpY_weight
  dsimp only
  refine ya_vw3 t ht ?_
  refine ya_vw2 t ht ?_
  exact ra_sgb (post := post) hp
theorem ya_top_s (t k : Nat) {i j x e : Int32} {n : Nat} (ht : t < 10) (hk : k < 3) (he : ∀ p : Int32 → Prop, p e → wpY_weight p (c, d, g) (nI t) (nI k) i j)
    (hn : wY_top_6 post (nI t) i j c d g n (x + e * g (12 * t + (4 * k + 2))) (nI (k + 1))) : wY_top_6 post (nI t) i j c d g (n + 1) x (nI k) := by
  have e1 : ¬ (3 : Int32) ≤ nI k := nI_ge (b := 3) hk (by decide)
  have e2 : 12 * nI t + 4 * nI k + 2 = nI (12 * t + (4 * k + 2)) := by
    rw [← Nat.add_assoc]
    exact ra_12 t k 2
  refine br_f e1 (he _ ?_)
  rw [e2, nI_clamp (by omega)]
  exact ⟨vp_in_nI (by omega) (by decide), nm_e (nm_r (nI_1 k) hn)⟩
theorem ya_top (t : Nat) {i j : Int32} (ht : t < 10) (hp : post (ra_tp g (12 * t) (2 * i - 15) (2 * j - 15))) : wpY_top post (c, d, g) (nI t) i j := by
  unfold wpY_top
  dsimp only
  refine ⟨4, ?_⟩
  refine ya_top_s t 0 ht (by decide) (fun p h => ya_we0 t ht h) ?_
  refine ya_top_s t 1 ht (by decide) (fun p h => ya_we1 t ht h) ?_
  refine ya_top_s t 2 ht (by decide) (fun p h => ya_we2 t ht h) ?_
  exact br_t (by decide) hp
theorem ya_bot (t : Nat) (ht : t < 10) (hp : post (16 * ra_sz g (12 * t))) : wpY_bottom post (c, d, g) (nI t) := by
  unfold wpY_bottom
  dsimp only
  refine ya_vw3 t ht ?_
  exact ra_sgb (post := fun x => post (16 * x)) hp
theorem ya_cov (t : Nat) {i j : Int32} (ht : t < 10) (ok : ra_ok g (12 * t)) (h1 : ra_cb g (12 * t) (2 * i - 15) (2 * j - 15) = true → post 1)
    (h0 : ¬ ra_cb g (12 * t) (2 * i - 15) (2 * j - 15) = true → post 0) : wpY_covering post (c, d, g) (nI t) i j := by
  rw [ra_cb_iff] at h1 h0
  unfold wpY_covering
  dsimp only
  refine ya_bot t ht ?_
  refine br_c (fun z => h0 ?_) (fun z => ⟨4, ?_⟩)
  · rw [ra_bz ok] at z
    exact fun a => a.1 z
  · rw [ra_bz ok] at z
    refine br_f (by decide) ?_
    refine ya_we0 t ht ?_
    refine br_c (fun a0 => nm_e ?_) (fun a0 => h0 (fun a => a0 (Int32.not_lt.mp a.2.1)))
    refine br_f (by decide) ?_
    refine ya_we1 t ht ?_
    refine br_c (fun a1 => nm_e ?_) (fun a1 => h0 (fun a => a1 (Int32.not_lt.mp a.2.2.1)))
    refine br_f (by decide) ?_
    refine ya_we2 t ht ?_
    refine br_c (fun a2 => nm_e ?_) (fun a2 => h0 (fun a => a2 (Int32.not_lt.mp a.2.2.2.1)))
    refine br_t (by decide) ?_
    refine ya_top t ht ?_
    refine br_c (fun a3 => h0 (fun a => a.2.2.2.2.1 a3)) (fun a3 => ?_)
    refine ya_bot t ht ?_
    refine br_c (fun a4 => h0 (fun a => Int32.not_le.mpr a4 a.2.2.2.2.2)) (fun a4 => ?_)
    exact h1 ⟨z, Int32.not_lt.mpr a0, Int32.not_lt.mpr a1, Int32.not_lt.mpr a2, a3, Int32.not_lt.mp a4⟩
theorem ya_cmp (t s : Nat) {i j : Int32} (ht : t < 10) (hs : s < 10) (okt : ra_ok g (12 * t)) (oks : ra_ok g (12 * s))
    (ct : ra_cb g (12 * t) (2 * i - 15) (2 * j - 15) = true) (cs : ra_cb g (12 * s) (2 * i - 15) (2 * j - 15) = true)
    (h1 : ra_lb g (12 * t) (12 * s) (2 * i - 15) (2 * j - 15) = true → post (-1))
    (h2 : ¬ ra_lb g (12 * t) (12 * s) (2 * i - 15) (2 * j - 15) = true → ra_lb g (12 * s) (12 * t) (2 * i - 15) (2 * j - 15) = true → post 1)
    (h0 : ¬ ra_lb g (12 * t) (12 * s) (2 * i - 15) (2 * j - 15) = true → ¬ ra_lb g (12 * s) (12 * t) (2 * i - 15) (2 * j - 15) = true → post 0) :
    wpY_compare post (c, d, g) (nI t) (nI s) i j := by
  rw [← ra_lb_y okt oks ct cs] at h1 h2 h0
  rw [← ra_lb_y oks okt cs ct] at h2 h0
  unfold wpY_compare
  dsimp only
  refine ya_top t ht ?_
  refine ya_top s hs ?_
  refine ya_bot s hs ?_
  refine nm_e ?_
  refine ya_bot t ht ?_
  refine nm_e ?_
  refine br_c (fun a => br_c (fun b => ?_) (fun b => ?_)) (fun a => ?_)
  · exact h0 (Int64.not_lt.mpr a) (Int64.not_lt.mpr b)
  · exact h2 (Int64.not_lt.mpr a) (Int64.not_le.mp b)
  · exact h1 (Int64.not_le.mp a)
/-! the owner -/
theorem ra_jv_an {g : Nat → Int32} {px py B : Int32} {t : Nat} (h : ra_jv g px py t B) : B = ra_an (-1) (ra_ow g px py t) := by
  rcases h with ⟨h, e⟩ | ⟨b, h, e⟩
  · rw [h, e]; rfl
  · rw [h, e]; rfl
theorem ya_ow_l {N : Nat} {i j : Int32} (hN : N ≤ 10) (ok : ∀ t, t < N → ra_ok g (12 * t)) (hp : post (ra_an (-1) (ra_ow g (2 * i - 15) (2 * j - 15) N))) :
    ∀ n t B, t ≤ N → N - t < n → ra_jv g (2 * i - 15) (2 * j - 15) t B → wY_ownerOf_5 post i j (nI N) d g n B (nI t) := by
  intro n
  induction n with
  | zero => intro t B h1 h2; omega
  | succ n ih =>
    intro t B h1 h2 hv
    by_cases e : t = N
    · subst e
      refine br_t (nI_le (Nat.le_refl t) (by omega)) ?_
      rw [ra_jv_an hv]
      exact hp
    · have e10 : ¬ (10 : Int32) ≤ nI t := nI_ge (b := 10) (by omega) (by decide)
      refine br_f (nI_ge (by omega) (by omega)) (br_f e10 ?_)
      refine ya_cov t (by omega) (ok t (by omega)) (fun ct => ?_) (fun ct => ?_)
      · refine br_f (by decide) ?_
        rcases hv with ⟨h, eB⟩ | ⟨b, h, eB⟩
        · subst eB
          refine br_f (by decide) (nm_r (nI_1 t) ?_)
          exact ih (t + 1) (nI t) (by omega) (by omega) (Or.inr ⟨t, ra_ow_0 ct h, rfl⟩)
        · subst eB
          have hb := ra_ow_b h
          refine br_t (nI_pos' (by omega)) ?_
          refine ya_cmp t b (by omega) (by omega) (ok t (by omega)) (ok b (by omega)) ct hb.2 (fun l => ?_) (fun l _ => ?_) (fun l _ => ?_)
          · refine br_f (by decide) (nm_r (nI_1 t) ?_)
            exact ih (t + 1) (nI t) (by omega) (by omega) (Or.inr ⟨t, ra_ow_1 ct h l, rfl⟩)
          · refine br_t (by decide) (nm_r (nI_1 t) ?_)
            exact ih (t + 1) (nI b) (by omega) (by omega) (Or.inr ⟨b, ra_ow_2 ct h l, rfl⟩)
          · refine br_t (by decide) (nm_r (nI_1 t) ?_)
            exact ih (t + 1) (nI b) (by omega) (by omega) (Or.inr ⟨b, ra_ow_2 ct h l, rfl⟩)
      · refine br_t rfl (nm_r (nI_1 t) ?_)
        refine ih (t + 1) B (by omega) (by omega) ?_
        unfold ra_jv
        rw [ra_ow_n ct]
        exact hv
theorem ya_ow {N : Nat} {i j : Int32} (hN : N ≤ 10) (ok : ∀ t, t < N → ra_ok g (12 * t)) (hp : post (ra_an (-1) (ra_ow g (2 * i - 15) (2 * j - 15) N))) :
    wpY_ownerOf post (nI N, d, g) i j := by
  unfold wpY_ownerOf
  dsimp only
  exact ⟨N + 1, ya_ow_l hN ok hp (N + 1) 0 (-1) (by omega) (by omega) (Or.inl ⟨rfl, rfl⟩)⟩
/-! refusals -/
theorem ya_mi {N t : Nat} (hN : N ≤ 10) (ht : t < N) (hp : post 0) : wpY_missing post (nI N, d, g) (nI t) :=
  br_f (nI_pos (by omega)) (br_f (nI_ge ht (by omega)) (br_t (nI_lt (b := 10) (by omega) (by decide)) hp))
theorem ya_mi_n {N : Nat} {x : Int32} (h : x < 0 ∨ nI N ≤ x) (hp : post 1) : wpY_missing post (nI N, d, g) x := by
  refine br_c (fun _ => hp) (fun z => ?_)
  rcases h with h | h
  · exact absurd h z
  · exact br_t h hp
theorem ya_bp {i : Nat} (h : i < 16) (hp : post 0) : wpY_badPlace post (c, d, g) (nI i) :=
  br_f (nI_pos (by omega)) (br_t (nI_le (b := 15) (by omega) (by decide)) hp)
theorem ya_bp_n {x : Int32} (h : x < 0 ∨ nI 16 ≤ x) (hp : post 1) : wpY_badPlace post (c, d, g) x := by
  refine br_c (fun _ => hp) (fun z => ?_)
  rcases h with h | h
  · exact absurd h z
  · refine br_f (fun w => ?_) hp
    obtain ⟨m, hm, rfl⟩ := nI_of z
    rw [nI_leI (by decide) hm] at h
    have w' : nI m ≤ nI 15 := w
    rw [nI_leI hm (by decide)] at w'
    omega
end
