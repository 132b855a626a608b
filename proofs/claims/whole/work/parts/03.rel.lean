/-! the relation: triangle t of the component's four arrays is the triangle from place b on of g -/
def ra_tq (xs ys zs ws g : Nat → Int32) (t b : Nat) : Prop :=
  ∀ k, k < 3 → xs (3 * t + k) = g (b + 4 * k) ∧ ys (3 * t + k) = g (b + 4 * k + 1) ∧ zs (3 * t + k) = g (b + 4 * k + 2) ∧ ws (3 * t + k) = g (b + 4 * k + 3)
def ra_al (xs ys zs ws g : Nat → Int32) (n : Nat) : Prop := ∀ t, t < n → ra_tq xs ys zs ws g t (12 * t) ∧ ra_ok g (12 * t)
theorem ra_0z : ra_sm 0 := ⟨by decide, by decide⟩
/-- twelve places by corner and number -/
theorem ra_okI {g : Nat → Int32} {b : Nat} (h : ∀ k, k < 3 → ra_sm (g (b + 4 * k)) ∧ ra_sm (g (b + 4 * k + 1)) ∧ ra_sm (g (b + 4 * k + 2)) ∧ ra_sm (g (b + 4 * k + 3))) : ra_ok g b := by
  intro m hm
  obtain ⟨h0, h1, h2, h3⟩ := h (m / 4) (by omega)
  have hc : m % 4 = 0 ∨ m % 4 = 1 ∨ m % 4 = 2 ∨ m % 4 = 3 := by omega
  rcases hc with c | c | c | c
  · rw [show b + m = b + 4 * (m / 4) by omega]; exact h0
  · rw [show b + m = b + 4 * (m / 4) + 1 by omega]; exact h1
  · rw [show b + m = b + 4 * (m / 4) + 2 by omega]; exact h2
  · rw [show b + m = b + 4 * (m / 4) + 3 by omega]; exact h3
theorem ra_okE {g : Nat → Int32} {b : Nat} (h : ra_ok g b) (k : Nat) (hk : k < 3) : ra_sm (g (b + 4 * k)) ∧ ra_sm (g (b + 4 * k + 1)) ∧ ra_sm (g (b + 4 * k + 2)) ∧ ra_sm (g (b + 4 * k + 3)) :=
  ⟨h (4 * k) (by omega), h (4 * k + 1) (by omega), h (4 * k + 2) (by omega), h (4 * k + 3) (by omega)⟩
theorem ra_okU {g : Nat → Int32} {b k : Nat} {x : Int32} (h : ra_ok g b) (hx : ra_sm x) : ra_ok (upd g k x) b := by
  intro m hm
  by_cases e : b + m = k
  · rw [e, pk_us]; exact hx
  · rw [pk_un e]; exact h m hm
/-! place, depth -/
theorem ra_alU {xs ys zs ws xs' ys' zs' ws' g : Nat → Int32} {n : Nat} (hn : n ≤ 10) (h : ra_al xs ys zs ws g n) (e0 : ∀ m, m < 30 → xs' m = xs m) (e1 : ∀ m, m < 30 → ys' m = ys m)
    (e2 : ∀ m, m < 30 → zs' m = zs m) (e3 : ∀ m, m < 30 → ws' m = ws m) : ra_al xs' ys' zs' ws' g n := by
  intro t ht
  refine ⟨fun k hk => ?_, (h t ht).2⟩
  rw [e0 _ (by omega), e1 _ (by omega), e2 _ (by omega), e3 _ (by omega)]
  exact (h t ht).1 k hk
theorem ra_place {xs ys zs ws d : Nat → Int32} {k : Nat} {x y : Int32} (h : ra_tq xs ys zs ws d 10 0) : ra_tq (upd xs (30 + k) x) (upd ys (30 + k) y) zs ws (upd (upd d (4 * k) x) (4 * k + 1) y) 10 0 := by
  intro j hj
  obtain ⟨a, b, c, e⟩ := h j hj
  by_cases z : j = k
  · subst z
    refine ⟨?_, ?_, ?_, ?_⟩
    · rw [show 3 * 10 + j = 30 + j by omega, pk_us, pk_un (by omega), show 0 + 4 * j = 4 * j by omega, pk_us]
    · rw [show 3 * 10 + j = 30 + j by omega, pk_us, show 0 + 4 * j + 1 = 4 * j + 1 by omega, pk_us]
    · rw [pk_un (by omega), pk_un (by omega)]; exact c
    · rw [pk_un (by omega), pk_un (by omega)]; exact e
  · refine ⟨?_, ?_, ?_, ?_⟩
    · rw [pk_un (by omega), pk_un (by omega), pk_un (by omega)]; exact a
    · rw [pk_un (by omega), pk_un (by omega), pk_un (by omega)]; exact b
    · rw [pk_un (by omega), pk_un (by omega)]; exact c
    · rw [pk_un (by omega), pk_un (by omega)]; exact e
theorem ra_depth {xs ys zs ws d : Nat → Int32} {k : Nat} {x y : Int32} (h : ra_tq xs ys zs ws d 10 0) : ra_tq xs ys (upd zs (30 + k) x) (upd ws (30 + k) y) (upd (upd d (4 * k + 2) x) (4 * k + 3) y) 10 0 := by
  intro j hj
  obtain ⟨a, b, c, e⟩ := h j hj
  by_cases z : j = k
  · subst z
    refine ⟨?_, ?_, ?_, ?_⟩
    · rw [pk_un (by omega), pk_un (by omega)]; exact a
    · rw [pk_un (by omega), pk_un (by omega)]; exact b
    · rw [show 3 * 10 + j = 30 + j by omega, pk_us, pk_un (by omega), show 0 + 4 * j + 2 = 4 * j + 2 by omega, pk_us]
    · rw [show 3 * 10 + j = 30 + j by omega, pk_us, show 0 + 4 * j + 3 = 4 * j + 3 by omega, pk_us]
  · refine ⟨?_, ?_, ?_, ?_⟩
    · rw [pk_un (by omega), pk_un (by omega)]; exact a
    · rw [pk_un (by omega), pk_un (by omega)]; exact b
    · rw [pk_un (by omega), pk_un (by omega), pk_un (by omega)]; exact c
    · rw [pk_un (by omega), pk_un (by omega), pk_un (by omega)]; exact e
/-! copying a triangle -/
def ra_cp (a a' : Nat → Int32) (f t : Nat) : Prop := (∀ k, k < 3 → a' (3 * t + k) = a (3 * f + k)) ∧ ∀ m, (m < 3 * t ∨ 3 * t + 3 ≤ m) → a' m = a m
/-- the first i numbers of a triangle are copied -/
def ra_cq (a a' : Nat → Int32) (f t i : Nat) : Prop := (∀ k, k < i → a' (3 * t + k) = a (3 * f + k)) ∧ ∀ m, (m < 3 * t ∨ 3 * t + i ≤ m) → a' m = a m
theorem ra_cq0 (a : Nat → Int32) (f t : Nat) : ra_cq a a f t 0 := ⟨fun k hk => by omega, fun _ _ => rfl⟩
theorem ra_cqS {a a' : Nat → Int32} {f t i : Nat} (h : ra_cq a a' f t i) (hi : i < 3) (hft : f ≠ t) : ra_cq a (upd a' (3 * t + i) (a' (3 * f + i))) f t (i + 1) := by
  constructor
  · intro k hk
    by_cases e : k = i
    · subst e
      rw [pk_us]
      exact h.2 _ (by omega)
    · rw [pk_un (by omega)]
      exact h.1 k (by omega)
  · intro m hm
    rw [pk_un (by omega)]
    exact h.2 m (by omega)
theorem ra_draw {xs ys zs ws d g xs' ys' zs' ws' g' : Nat → Int32} {n : Nat} (hn : n < 10) (hd : ra_tq xs ys zs ws d 10 0) (ho : ra_ok d 0) (h : ra_al xs ys zs ws g n)
    (c0 : ra_cp xs xs' 10 n) (c1 : ra_cp ys ys' 10 n) (c2 : ra_cp zs zs' 10 n) (c3 : ra_cp ws ws' 10 n) (e0 : ∀ m, m < 12 → g' (12 * n + m) = d m) (e1 : ∀ m, m < 12 * n → g' m = g m) :
    ra_tq xs' ys' zs' ws' d 10 0 ∧ ra_al xs' ys' zs' ws' g' (n + 1) := by
  constructor
  · intro k hk
    rw [c0.2 _ (by omega), c1.2 _ (by omega), c2.2 _ (by omega), c3.2 _ (by omega)]
    exact hd k hk
  · intro t ht
    by_cases e : t = n
    · subst e
      constructor
      · intro k hk
        obtain ⟨q0, q1, q2, q3⟩ := hd k hk
        have f0 := e0 (4 * k) (by omega)
        have f1 := e0 (4 * k + 1) (by omega)
        have f2 := e0 (4 * k + 2) (by omega)
        have f3 := e0 (4 * k + 3) (by omega)
        rw [c0.1 k hk, c1.1 k hk, c2.1 k hk, c3.1 k hk, q0, q1, q2, q3]
        rw [Nat.zero_add]
        exact ⟨f0.symm, f1.symm, f2.symm, f3.symm⟩
      · intro m hm
        rw [e0 m hm]
        have := ho m hm
        rwa [Nat.zero_add] at this
    · obtain ⟨a, b⟩ := h t (by omega)
      constructor
      · intro k hk
        rw [c0.2 _ (by omega), c1.2 _ (by omega), c2.2 _ (by omega), c3.2 _ (by omega), e1 _ (by omega), e1 _ (by omega), e1 _ (by omega), e1 _ (by omega)]
        exact a k hk
      · intro m hm
        rw [e1 _ (by omega)]
        exact b m hm
/-! taking a triangle out: the triangles from r on, below q, are those that stood one later -/
def ra_sh (a a' : Nat → Int32) (r q : Nat) : Prop := (∀ s k, r ≤ s → s < q → k < 3 → a' (3 * s + k) = a (3 * (s + 1) + k)) ∧ ∀ m, (m < 3 * r ∨ 3 * q ≤ m) → a' m = a m
theorem ra_sh0 (a : Nat → Int32) (r : Nat) : ra_sh a a r r := ⟨fun s k h1 h2 _ => by omega, fun _ _ => rfl⟩
theorem ra_shS {a a' a'' : Nat → Int32} {r q : Nat} (h : ra_sh a a' r q) (hr : r ≤ q) (c : ra_cp a' a'' (q + 1) q) : ra_sh a a'' r (q + 1) := by
  constructor
  · intro s k h1 h2 hk
    by_cases e : s = q
    · subst e
      rw [c.1 k hk]
      exact h.2 _ (by omega)
    · rw [c.2 _ (by omega)]
      exact h.1 s k h1 (by omega) hk
  · intro m hm
    rw [c.2 _ (by omega)]
    exact h.2 m (by omega)
theorem ra_remove {xs ys zs ws d g xs' ys' zs' ws' g' : Nat → Int32} {n r : Nat} (hn : n + 1 ≤ 10) (hr : r < n + 1) (hd : ra_tq xs ys zs ws d 10 0) (h : ra_al xs ys zs ws g (n + 1))
    (c0 : ra_sh xs xs' r n) (c1 : ra_sh ys ys' r n) (c2 : ra_sh zs zs' r n) (c3 : ra_sh ws ws' r n) (e0 : ∀ m, 12 * r ≤ m → m < 108 → g' m = g (m + 12)) (e1 : ∀ m, m < 12 * r → g' m = g m) :
    ra_tq xs' ys' zs' ws' d 10 0 ∧ ra_al xs' ys' zs' ws' g' n := by
  constructor
  · intro k hk
    rw [c0.2 _ (by omega), c1.2 _ (by omega), c2.2 _ (by omega), c3.2 _ (by omega)]
    exact hd k hk
  · intro t ht
    by_cases e : t < r
    · obtain ⟨a, b⟩ := h t (by omega)
      constructor
      · intro k hk
        rw [c0.2 _ (by omega), c1.2 _ (by omega), c2.2 _ (by omega), c3.2 _ (by omega), e1 _ (by omega), e1 _ (by omega), e1 _ (by omega), e1 _ (by omega)]
        exact a k hk
      · intro m hm
        rw [e1 _ (by omega)]
        exact b m hm
    · obtain ⟨a, b⟩ := h (t + 1) (by omega)
      constructor
      · intro k hk
        obtain ⟨q0, q1, q2, q3⟩ := a k hk
        rw [c0.1 t k (by omega) ht hk, c1.1 t k (by omega) ht hk, c2.1 t k (by omega) ht hk, c3.1 t k (by omega) ht hk, q0, q1, q2, q3,
          e0 _ (by omega) (by omega), e0 _ (by omega) (by omega), e0 _ (by omega) (by omega), e0 _ (by omega) (by omega)]
        refine ⟨congrArg g ?_, congrArg g ?_, congrArg g ?_, congrArg g ?_⟩ <;> omega
      · intro m hm
        rw [e0 _ (by omega) (by omega), show 12 * t + m + 12 = 12 * (t + 1) + m by omega]
        exact b m hm
/-! numbers -/
theorem ra_t3 (t : Nat) : nI t * 3 = nI (3 * t) := by
  rw [Nat.mul_comm]
  exact pk_mul t 3
theorem ra_12 (t r c : Nat) : 12 * nI t + 4 * nI r + nI c = nI (12 * t + 4 * r + c) := by
  show nI 12 * nI t + nI 4 * nI r + nI c = _
  rw [pk_mul, pk_mul, nI_add, nI_add]
