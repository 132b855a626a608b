/-! the loops of the public methods -/
section
variable {c : Int32} {xs ys zs ws g : Nat → Int32}
theorem xa_cp_s {post : SX → Prop} (f t k n : Nat) {a0 a1 a2 a3 : Nat → Int32} (hf : f < 11) (ht : t < 11) (hk : k < 3)
    (h : wX_copyTriangle_2 post (nI f) (nI t) c n (nI (k + 1)) (upd a0 (3 * t + k) (a0 (3 * f + k))) (upd a1 (3 * t + k) (a1 (3 * f + k))) (upd a2 (3 * t + k) (a2 (3 * f + k))) (upd a3 (3 * t + k) (a3 (3 * f + k)))) :
    wX_copyTriangle_2 post (nI f) (nI t) c (n + 1) (nI k) a0 a1 a2 a3 := by
  have k3 : ¬ (3 : Int32) ≤ nI k := nI_ge (b := 3) hk (by decide)
  have e1 : nI f * 3 + nI k = nI (3 * f + k) := by rw [ra_t3, nI_add]
  have e2 : nI t * 3 + nI k = nI (3 * t + k) := by rw [ra_t3, nI_add]
  have i1 : vp_in (nI (3 * f + k)) 33 := vp_in_nI (by omega) (by decide)
  have i2 : vp_in (nI (3 * t + k)) 33 := vp_in_nI (by omega) (by decide)
  refine br_f k3 (nm_r e1 (nm_r e2 ?_))
  rw [nI_clamp (n := 3 * f + k) (by omega), nI_clamp (n := 3 * t + k) (by omega)]
  exact ⟨i1, i2, nm_e ⟨i1, i2, nm_e ⟨i1, i2, nm_e ⟨i1, i2, nm_e (nm_r (nI_1 k) h)⟩⟩⟩⟩
theorem xa_cp {post : SX → Prop} (f t : Nat) (hf : f < 11) (ht : t < 11) (hft : f ≠ t)
    (hp : ∀ xs' ys' zs' ws', ra_cp xs xs' f t → ra_cp ys ys' f t → ra_cp zs zs' f t → ra_cp ws ws' f t → post (c, xs', ys', zs', ws')) :
    wpX_copyTriangle post (c, xs, ys, zs, ws) (nI f) (nI t) := by
  unfold wpX_copyTriangle
  dsimp only
  refine ⟨4, ?_⟩
  refine xa_cp_s f t 0 3 hf ht (by decide) ?_
  refine xa_cp_s f t 1 2 hf ht (by decide) ?_
  refine xa_cp_s f t 2 1 hf ht (by decide) ?_
  refine br_t (by decide) (hp _ _ _ _ ?_ ?_ ?_ ?_)
  · exact ra_cqS (ra_cqS (ra_cqS (ra_cq0 xs f t) (by decide) hft) (by decide) hft) (by decide) hft
  · exact ra_cqS (ra_cqS (ra_cqS (ra_cq0 ys f t) (by decide) hft) (by decide) hft) (by decide) hft
  · exact ra_cqS (ra_cqS (ra_cqS (ra_cq0 zs f t) (by decide) hft) (by decide) hft) (by decide) hft
  · exact ra_cqS (ra_cqS (ra_cqS (ra_cq0 ws f t) (by decide) hft) (by decide) hft) (by decide) hft
/-! draw -/
theorem xa_d51 {post : Int32 → SX → Prop} (N : Nat) (hN : N < 10)
    (hp : ∀ xs' ys' zs' ws', ra_cp xs xs' 10 N → ra_cp ys ys' 10 N → ra_cp zs zs' 10 N → ra_cp ws ws' 10 N → post (nI N) (nI (N + 1), xs', ys', zs', ws')) :
    wX_draw_51 post (nI N) xs ys zs ws := by
  unfold wX_draw_51
  refine xa_cp 10 N (by decide) (by omega) (by omega) (fun xs' ys' zs' ws' h0 h1 h2 h3 => ?_)
  refine nm_r (nI_1 N) ?_
  rw [nI_pred]
  exact hp xs' ys' zs' ws' h0 h1 h2 h3
theorem ya_drl {post : Int32 → SY → Prop} {d : Nat → Int32} (N : Nat) (hN : N < 10)
    (hp : ∀ g', (∀ m, m < 12 → g' (12 * N + m) = d m) → (∀ m, m < 12 * N → g' m = g m) → post (nI N) (nI (N + 1), d, g')) :
    ∀ n i a, i ≤ 12 → 12 - i < n → (∀ m, m < i → a (12 * N + m) = d m) → (∀ m, m < 12 * N → a m = g m) → wY_draw_57 post (nI N) (nI N) n (nI i) d a := by
  intro n
  induction n with
  | zero => intro i a h1 h2; omega
  | succ n ih =>
    intro i a h1 h2 ha hb
    by_cases e : i = 12
    · subst e
      exact br_t (by decide) (nm_r (nI_1 N) (hp a ha hb))
    · have e12 : ¬ (12 : Int32) ≤ nI i := nI_ge (b := 12) (by omega) (by decide)
      have e2 : 12 * nI N + nI i = nI (12 * N + i) := by
        show nI 12 * nI N + nI i = _
        rw [pk_mul, nI_add]
      refine br_f e12 ?_
      rw [e2, nI_clamp (n := 12 * N + i) (by omega), nI_clamp (n := i) (by omega)]
      refine ⟨vp_in_nI (by omega) (by decide), vp_in_nI (by omega) (by decide), nm_e (nm_r (nI_1 i) ?_)⟩
      refine ih (i + 1) _ (by omega) (by omega) (fun m hm => ?_) (fun m hm => ?_)
      · by_cases z : m = i
        · subst z
          exact pk_us
        · rw [pk_un (by omega)]
          exact ha m (by omega)
      · rw [pk_un (by omega)]
        exact hb m hm
/-! remove -/
theorem xa_rml {post : Int32 → SX → Prop} (N r : Nat) (hN : N < 10)
    (hp : ∀ xs' ys' zs' ws', ra_sh xs xs' r N → ra_sh ys ys' r N → ra_sh zs zs' r N → ra_sh ws ws' r N → post (nI N) (nI N, xs', ys', zs', ws')) :
    ∀ n q a0 a1 a2 a3, r ≤ q → q ≤ N → N - q < n → ra_sh xs a0 r q → ra_sh ys a1 r q → ra_sh zs a2 r q → ra_sh ws a3 r q → wX_remove_14 post n (nI (q + 1)) (nI (N + 1)) a0 a1 a2 a3 := by
  intro n
  induction n with
  | zero => intro q a0 a1 a2 a3 h1 h2 h3; omega
  | succ n ih =>
    intro q a0 a1 a2 a3 hr h1 h2 s0 s1 s2 s3
    by_cases e : q = N
    · subst e
      exact br_t (nI_le (Nat.le_refl _) (by omega)) (nm_r (nI_pred q) (hp a0 a1 a2 a3 s0 s1 s2 s3))
    · refine br_f (nI_ge (by omega) (by omega)) ?_
      rw [nI_pred]
      refine xa_cp (q + 1) q (by omega) (by omega) (by omega) (fun b0 b1 b2 b3 c0 c1 c2 c3 => ?_)
      refine nm_r (nI_1 (q + 1)) ?_
      exact ih (q + 1) b0 b1 b2 b3 (by omega) (by omega) (by omega) (ra_shS s0 hr c0) (ra_shS s1 hr c1) (ra_shS s2 hr c2) (ra_shS s3 hr c3)
theorem ya_rml {post : Int32 → SY → Prop} {d : Nat → Int32} (N r : Nat)
    (hp : ∀ g', (∀ m, 12 * r ≤ m → m < 108 → g' m = g (m + 12)) → (∀ m, m < 12 * r → g' m = g m) → post (nI N) (nI N, d, g')) :
    ∀ n i a, 12 * r ≤ i → i ≤ 108 → 108 - i < n → (∀ m, 12 * r ≤ m → m < i → a m = g (m + 12)) → (∀ m, (m < 12 * r ∨ i ≤ m) → a m = g m) → wY_remove_15 post (nI (N + 1)) n (nI i) d a := by
  intro n
  induction n with
  | zero => intro i a h0 h1 h2; omega
  | succ n ih =>
    intro i a h0 h1 h2 ha hb
    by_cases e : i = 108
    · subst e
      exact br_t (by decide) (nm_r (nI_pred N) (hp a ha (fun m hm => hb m (Or.inl hm))))
    · have e108 : ¬ (108 : Int32) ≤ nI i := nI_ge (b := 108) (by omega) (by decide)
      have e2 : nI i + 12 = nI (i + 12) := nI_add i 12
      refine br_f e108 ?_
      rw [e2, nI_clamp (n := i + 12) (by omega), nI_clamp (n := i) (by omega)]
      refine ⟨vp_in_nI (by omega) (by decide), vp_in_nI (by omega) (by decide), nm_e (nm_r (nI_1 i) ?_)⟩
      refine ih (i + 1) _ (by omega) (by omega) (by omega) (fun m hm hm2 => ?_) (fun m hm => ?_)
      · by_cases z : m = i
        · subst z
          rw [pk_us]
          exact hb _ (Or.inr (by omega))
        · rw [pk_un z]
          exact ha m hm (by omega)
      · rw [pk_un (by omega)]
        exact hb m (by omega)
end
/-! the words for an owner -/
theorem ra_an_i {e : Int32} {o : Option Nat} {r : Nat} (hr : r < 2 ^ 31) (he : ¬ nI r = e) (hb : ∀ b, o = some b → b < 2 ^ 31) : ra_an e o = nI r ↔ o = some r := by
  cases o with
  | none => exact ⟨fun h => absurd h.symm he, fun h => nomatch h⟩
  | some b =>
    show nI b = nI r ↔ _
    rw [nI_eq (hb b rfl) hr]
    exact ⟨fun h => by rw [h], fun h => by cases h; rfl⟩
theorem ra_ow_l {g : Nat → Int32} {px py : Int32} {N : Nat} (hN : N ≤ 10) (b : Nat) (h : ra_ow g px py N = some b) : b < 2 ^ 31 := by
  have := (ra_ow_b h).1
  omega
theorem ra_an_2 {o : Option Nat} (hb : ∀ b, o = some b → b < 2 ^ 31) : ra_an (-2) o = -2 ↔ ¬ o.isSome = true := by
  cases o with
  | none => exact ⟨(fun _ h => nomatch h), fun _ => rfl⟩
  | some b => exact ⟨fun h => absurd h (ra_nm2 (hb b rfl)), fun h => absurd rfl h⟩
theorem ra_an_1 {o : Option Nat} (hb : ∀ b, o = some b → b < 2 ^ 31) : ra_an (-1) o < 0 ↔ ¬ o.isSome = true := by
  cases o with
  | none => exact ⟨(fun _ h => nomatch h), fun _ => by decide⟩
  | some b => exact ⟨fun h => absurd h (nI_pos (hb b rfl)), fun h => absurd rfl h⟩
theorem ra_outer (W : Nat → Nat → Nat → Prop) (f : Nat → Nat) (hx : ∀ n, W (n + 1) 16 (f 256)) (hs : ∀ n j, j < 16 → W n (j + 1) (f (16 * (j + 1))) → W (n + 1) j (f (16 * j))) : W 17 0 (f 0) := by
  have H : ∀ d j, j + d = 16 → W (d + 1) j (f (16 * j)) := by
    intro d
    induction d with
    | zero =>
      intro j hj
      have e : j = 16 := by omega
      subst e
      exact hx 0
    | succ d ih =>
      intro j hj
      exact hs (d + 1) j (by omega) (ih (j + 1) (by omega))
  exact H 16 0 rfl
theorem ra_rem16 {a : Nat} (h : a < 256) : nI a - nI a / 16 * 16 = nI (a % 16) := pk_rem (d := 16) (by omega) (by decide) (by decide)
theorem ra_div16 {a : Nat} (h : a < 256) : nI a / 16 = nI (a / 16) := pk_div (d := 16) (by omega) (by decide) (by decide)
section
variable {post : Int32 → Prop} {xs ys zs ws d g : Nat → Int32}
theorem xa_owned {N r : Nat} (hN : N ≤ 10) (hr : r < N) (al : ra_al xs ys zs ws g N) (hp : post (nI (ra_ct (fun a => decide (ra_po g N a = some r)) 256))) :
    wX_owned_14 post (nI r) (nI N) xs ys zs ws 257 0 0 := by
  refine ra_loop (fun n a q => wX_owned_14 post (nI r) (nI N) xs ys zs ws n (nI q) (nI a)) _ _ 256 (ra_ct_s (fun a => decide (ra_po g N a = some r))) (fun n => ?_) (fun n a q ha h1 h0 => ?_) 257 0 (by decide) (by decide)
  · exact br_t (by decide) hp
  · have e256 : ¬ (256 : Int32) ≤ nI a := nI_ge (b := 256) ha (by decide)
    have n16 : ¬ (16 : Int32) = 0 := by decide
    refine br_f e256 ⟨n16, n16, ?_⟩
    rw [ra_rem16 ha, ra_div16 ha]
    refine xa_ow hN al ?_
    have an := ra_an_i (e := -2) (o := ra_po g N a) (r := r) (by omega) (ra_nm2 (by omega)) (fun b h => ra_ow_l hN b h)
    refine br_c (fun z => nm_r (nI_1 q) (nm_r (nI_1 a) (h1 (decide_eq_true (an.mp z))))) (fun z => nm_r (nI_1 a) (h0 (fun y => z (an.mpr (of_decide_eq_true y)))))
theorem xa_lit {N : Nat} (hN : N ≤ 10) (al : ra_al xs ys zs ws g N) (hp : post (nI (ra_ct (fun a => (ra_po g N a).isSome) 256))) :
    wX_lit_4 post (nI N) xs ys zs ws 257 0 0 := by
  refine ra_loop (fun n a q => wX_lit_4 post (nI N) xs ys zs ws n (nI q) (nI a)) _ _ 256 (ra_ct_s (fun a => (ra_po g N a).isSome)) (fun n => ?_) (fun n a q ha h1 h0 => ?_) 257 0 (by decide) (by decide)
  · exact br_t (by decide) hp
  · have e256 : ¬ (256 : Int32) ≤ nI a := nI_ge (b := 256) ha (by decide)
    have n16 : ¬ (16 : Int32) = 0 := by decide
    refine br_f e256 ⟨n16, n16, ?_⟩
    rw [ra_rem16 ha, ra_div16 ha]
    refine xa_ow hN al ?_
    have an := ra_an_2 (o := ra_po g N a) (fun b h => ra_ow_l hN b h)
    refine br_c (fun z => nm_r (nI_1 a) (h0 (an.mp z))) (fun z => nm_r (nI_1 q) (nm_r (nI_1 a) (h1 (Decidable.of_not_not (fun y => z (an.mpr y))))))
theorem xa_covered {N r : Nat} (hN : N ≤ 10) (hr : r < N) (al : ra_al xs ys zs ws g N) (hp : post (nI (ra_ct (ra_pc g r) 256))) :
    wX_covered_14 post (nI r) (nI N) xs ys zs ws 257 0 0 := by
  refine ra_loop (fun n a q => wX_covered_14 post (nI r) (nI N) xs ys zs ws n (nI q) (nI a)) _ _ 256 (ra_ct_s (ra_pc g r)) (fun n => ?_) (fun n a q ha h1 h0 => ?_) 257 0 (by decide) (by decide)
  · exact br_t (by decide) hp
  · have e256 : ¬ (256 : Int32) ≤ nI a := nI_ge (b := 256) ha (by decide)
    have n16 : ¬ (16 : Int32) = 0 := by decide
    refine br_f e256 ⟨n16, n16, ?_⟩
    rw [ra_rem16 ha, ra_div16 ha]
    refine xa_sd r (12 * r) (by omega) (al r hr).1 (fun z => ?_) (fun z => ?_)
    · exact br_f (ra_tp_m1 z) (nm_r (nI_1 q) (nm_r (nI_1 a) (h1 z)))
    · exact br_t rfl (nm_r (nI_1 a) (h0 z))
/-! the reference counts by rows -/
theorem ya_owned {N r : Nat} (hN : N ≤ 10) (hr : r < N) (ok : ∀ t, t < N → ra_ok g (12 * t)) (hp : post (nI (ra_ct (fun a => decide (ra_po g N a = some r)) 256))) :
    wY_owned_14 post (nI r) (nI N) d g 17 0 0 := by
  refine ra_outer (fun n j q => wY_owned_14 post (nI r) (nI N) d g n (nI q) (nI j)) (ra_ct (fun a => decide (ra_po g N a = some r))) (fun n => ?_) (fun n j hj hn => ?_)
  · exact br_t (by decide) hp
  · have e16 : ¬ (16 : Int32) ≤ nI j := nI_ge (b := 16) hj (by decide)
    refine br_f e16 ⟨17, ?_⟩
    refine ra_loop (fun n' i q => wY_owned_23 post (wY_owned_14 post (nI r) (nI N) d g n) (nI r) (nI j) (nI N) d g n' (nI q) (nI i)) (fun i => ra_ct (fun a => decide (ra_po g N a = some r)) (16 * j + i))
      (fun i => decide (ra_po g N (16 * j + i) = some r)) 16 (fun a => ra_ct_s (fun a => decide (ra_po g N a = some r)) (16 * j + a)) (fun n' => ?_) (fun n' i q hi h1 h0 => ?_) 17 0 (by decide) (by decide)
    · exact br_t (by decide) (nm_r (nI_1 j) hn)
    · have f16 : ¬ (16 : Int32) ≤ nI i := nI_ge (b := 16) hi (by decide)
      refine br_f f16 ?_
      refine ya_ow hN ok ?_
      have an := ra_an_i (e := -1) (o := ra_ow g (ra_px i) (ra_px j) N) (r := r) (by omega) (ra_nm1 (by omega)) (fun b h => ra_ow_l hN b h)
      have pe := ra_po_e g N (j := j) hi
      refine br_c (fun z => nm_r (nI_1 q) (nm_r (nI_1 i) (h1 (decide_eq_true (pe.trans (an.mp z)))))) (fun z => nm_r (nI_1 i) (h0 (fun y => z (an.mpr (pe.symm.trans (of_decide_eq_true y))))))
theorem ya_lit {N : Nat} (hN : N ≤ 10) (ok : ∀ t, t < N → ra_ok g (12 * t)) (hp : post (nI (ra_ct (fun a => (ra_po g N a).isSome) 256))) :
    wY_lit_4 post (nI N) d g 17 0 0 := by
  refine ra_outer (fun n j q => wY_lit_4 post (nI N) d g n (nI q) (nI j)) (ra_ct (fun a => (ra_po g N a).isSome)) (fun n => ?_) (fun n j hj hn => ?_)
  · exact br_t (by decide) hp
  · have e16 : ¬ (16 : Int32) ≤ nI j := nI_ge (b := 16) hj (by decide)
    refine br_f e16 ⟨17, ?_⟩
    refine ra_loop (fun n' i q => wY_lit_12 post (wY_lit_4 post (nI N) d g n) (nI j) (nI N) d g n' (nI q) (nI i)) (fun i => ra_ct (fun a => (ra_po g N a).isSome) (16 * j + i))
      (fun i => (ra_po g N (16 * j + i)).isSome) 16 (fun a => ra_ct_s (fun a => (ra_po g N a).isSome) (16 * j + a)) (fun n' => ?_) (fun n' i q hi h1 h0 => ?_) 17 0 (by decide) (by decide)
    · exact br_t (by decide) (nm_r (nI_1 j) hn)
    · have f16 : ¬ (16 : Int32) ≤ nI i := nI_ge (b := 16) hi (by decide)
      refine br_f f16 ?_
      refine ya_ow hN ok ?_
      have an := ra_an_1 (o := ra_ow g (ra_px i) (ra_px j) N) (fun b h => ra_ow_l hN b h)
      have pe := ra_po_e g N (j := j) hi
      rw [pe] at h1 h0
      refine br_c (fun z => nm_r (nI_1 i) (h0 (an.mp z))) (fun z => nm_r (nI_1 q) (nm_r (nI_1 i) (h1 (Decidable.of_not_not (fun y => z (an.mpr y))))))
theorem ya_covered {N r : Nat} (hN : N ≤ 10) (hr : r < N) (ok : ∀ t, t < N → ra_ok g (12 * t)) (hp : post (nI (ra_ct (ra_pc g r) 256))) :
    wY_covered_14 post (nI r) (nI N) d g 17 0 0 := by
  refine ra_outer (fun n j q => wY_covered_14 post (nI r) (nI N) d g n (nI q) (nI j)) (ra_ct (ra_pc g r)) (fun n => ?_) (fun n j hj hn => ?_)
  · exact br_t (by decide) hp
  · have e16 : ¬ (16 : Int32) ≤ nI j := nI_ge (b := 16) hj (by decide)
    refine br_f e16 ⟨17, ?_⟩
    refine ra_loop (fun n' i q => wY_covered_23 post (wY_covered_14 post (nI r) (nI N) d g n) (nI r) (nI j) (nI N) d g n' (nI q) (nI i)) (fun i => ra_ct (ra_pc g r) (16 * j + i))
      (fun i => ra_pc g r (16 * j + i)) 16 (fun a => ra_ct_s (ra_pc g r) (16 * j + a)) (fun n' => ?_) (fun n' i q hi h1 h0 => ?_) 17 0 (by decide) (by decide)
    · exact br_t (by decide) (nm_r (nI_1 j) hn)
    · have f16 : ¬ (16 : Int32) ≤ nI i := nI_ge (b := 16) hi (by decide)
      have pe := ra_pc_e g r (j := j) hi
      rw [pe] at h1 h0
      refine br_f f16 ?_
      refine ya_cov r (by omega) (ok r hr) (fun z => ?_) (fun z => ?_)
      · exact br_f (by decide) (nm_r (nI_1 q) (nm_r (nI_1 i) (h1 z)))
      · exact br_t rfl (nm_r (nI_1 i) (h0 z))
end
/-! firstIn, lastIn: one answer for both walks -/
theorem xy_first {xs ys zs ws d g : Nat → Int32} {N r j : Nat} (hN : N ≤ 10) (hr : r < N) (al : ra_al xs ys zs ws g N) : ∀ f i : Nat, i + f = 16 →
    ∃ a : Int32, (∀ post : Int32 → Prop, post a → wX_firstIn_22 post (nI r) (nI j) (nI N) xs ys zs ws (f + 1) (nI i)) ∧ (∀ post : Int32 → Prop, post a → wY_firstIn_23 post (nI r) (nI j) (nI N) d g (f + 1) (nI i)) := by
  intro f
  induction f with
  | zero =>
    intro i hi
    have e : (16 : Int32) ≤ nI i := nI_le (a := 16) (by omega) (by omega)
    exact ⟨-3, fun _ hp => br_t e hp, fun _ hp => br_t e hp⟩
  | succ f ih =>
    intro i hi
    have e : ¬ (16 : Int32) ≤ nI i := nI_ge (b := 16) (by omega) (by decide)
    by_cases z : ra_cb g (12 * r) (2 * nI i - 15) (2 * nI j - 15) = true
    · refine ⟨nI i, fun post hp => br_f e ?_, fun post hp => br_f e ?_⟩
      · exact xa_sd r (12 * r) (by omega) (al r hr).1 (fun _ => br_f (ra_tp_m1 z) hp) (fun y => absurd z y)
      · exact ya_cov r (by omega) (al r hr).2 (fun _ => br_f (by decide) hp) (fun y => absurd z y)
    · obtain ⟨a, hX, hY⟩ := ih (i + 1) (by omega)
      refine ⟨a, fun post hp => br_f e ?_, fun post hp => br_f e ?_⟩
      · exact xa_sd r (12 * r) (by omega) (al r hr).1 (fun y => absurd y z) (fun _ => br_t rfl (nm_r (nI_1 i) (hX post hp)))
      · exact ya_cov r (by omega) (al r hr).2 (fun y => absurd y z) (fun _ => br_t rfl (nm_r (nI_1 i) (hY post hp)))
theorem xy_last {xs ys zs ws d g : Nat → Int32} {N r j : Nat} (hN : N ≤ 10) (hr : r < N) (al : ra_al xs ys zs ws g N) : ∀ i : Nat, i ≤ 16 →
    ∃ a : Int32, (∀ post : Int32 → Prop, post a → wX_lastIn_23 post (nI r) (nI j) (nI N) xs ys zs ws (i + 1) (nI i + (-1))) ∧ (∀ post : Int32 → Prop, post a → wY_lastIn_24 post (nI r) (nI j) (nI N) d g (i + 1) (nI i + (-1))) := by
  intro i
  induction i with
  | zero =>
    intro hi
    have e : nI 0 + (-1) < 0 := by decide
    exact ⟨-3, fun _ hp => br_t e hp, fun _ hp => br_t e hp⟩
  | succ i ih =>
    intro hi
    have e : ¬ nI i < 0 := nI_pos (by omega)
    rw [pk_m1]
    by_cases z : ra_cb g (12 * r) (2 * nI i - 15) (2 * nI j - 15) = true
    · refine ⟨nI i, fun post hp => br_f e ?_, fun post hp => br_f e ?_⟩
      · exact xa_sd r (12 * r) (by omega) (al r hr).1 (fun _ => br_f (ra_tp_m1 z) hp) (fun y => absurd z y)
      · exact ya_cov r (by omega) (al r hr).2 (fun _ => br_f (by decide) hp) (fun y => absurd z y)
    · obtain ⟨a, hX, hY⟩ := ih (by omega)
      refine ⟨a, fun post hp => br_f e ?_, fun post hp => br_f e ?_⟩
      · exact xa_sd r (12 * r) (by omega) (al r hr).1 (fun y => absurd y z) (fun _ => br_t rfl (nm_e (hX post hp)))
      · exact ya_cov r (by omega) (al r hr).2 (fun y => absurd y z) (fun _ => br_t rfl (nm_e (hY post hp)))
