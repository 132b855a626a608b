section
/-! pure rows pasted from kit/rows (PURE-ROWS) -/
theorem pk_us {f : Nat → Int32} {k : Nat} {x : Int32} : upd f k x k = x := if_pos rfl
theorem pk_un {f : Nat → Int32} {k j : Nat} {x : Int32} (h : j ≠ k) : upd f k x j = f j := if_neg h
theorem pk_sub {a b : Nat} (h : b ≤ a) : nI a - nI b = nI (a - b) := by
  obtain ⟨c, rfl⟩ : ∃ c, a = c + b := ⟨a - b, by omega⟩
  rw [← nI_add, Int32.add_sub_cancel, Nat.add_sub_cancel]
theorem pk_m1 (n : Nat) : nI (n + 1) + (-1) = nI n := by
  rw [← nI_1, Int32.add_assoc, show (1 : Int32) + (-1) = 0 from rfl, Int32.add_zero]
theorem pk_mul (a b : Nat) : nI a * nI b = nI (a * b) := (Int32.ofNat_mul a b).symm
theorem pk_div {a d : Nat} (ha : a < 2 ^ 31) (h0 : 0 < d) (hd : d < 2 ^ 31) : nI a / nI d = nI (a / d) := by
  apply Int32.toInt_inj.mp
  rw [lg_idiv_nonneg (by rw [nI_toInt ha]; omega) (by rw [nI_toInt hd]; omega), nI_toInt ha, nI_toInt hd, nI_toInt (Nat.lt_of_le_of_lt (Nat.div_le_self a d) ha)]
  first | rfl | exact (Int.natCast_ediv _ _).symm
theorem pk_rem {a d : Nat} (ha : a < 2 ^ 31) (h0 : 0 < d) (hd : d < 2 ^ 31) : nI a - nI a / nI d * nI d = nI (a % d) := by
  rw [pk_div ha h0 hd, pk_mul, pk_sub (Nat.div_mul_le_self a d)]
  exact congrArg nI (by have := Nat.div_add_mod' a d; omega)
theorem pk_ix (x : Int32) {n : Nat} (hn : n < 2 ^ 31) : x < 0 ∨ nI n ≤ x ∨ ∃ j : Nat, j < n ∧ x = nI j := by
  by_cases h : x < 0
  · exact Or.inl h
  · obtain ⟨j, hj, rfl⟩ := nI_of h
    by_cases h2 : j < n
    · exact Or.inr (Or.inr ⟨j, h2, rfl⟩)
    · exact Or.inr (Or.inl (nI_le (by omega) hj))
theorem pk_le {x y : Int32} {A B : Prop} (a b : Nat) (f : a ≤ b → A) (g : b < a → B) (hx : x = nI a := by rfl) (hy : y = nI b := by rfl) (ha : a < 2 ^ 31 := by omega) (hb : b < 2 ^ 31 := by omega) : (x ≤ y → A) ∧ (¬ x ≤ y → B) := by
  subst hx hy
  rw [nI_leI ha hb]
  exact ⟨f, fun z => g (by omega)⟩
theorem pk_lt {x y : Int32} {A B : Prop} (a b : Nat) (f : a < b → A) (g : b ≤ a → B) (hx : x = nI a := by rfl) (hy : y = nI b := by rfl) (ha : a < 2 ^ 31 := by omega) (hb : b < 2 ^ 31 := by omega) : (x < y → A) ∧ (¬ x < y → B) := by
  subst hx hy
  rw [nI_ltI ha hb]
  exact ⟨f, fun z => g (by omega)⟩
theorem pk_eq {x y : Int32} {A B : Prop} (a b : Nat) (f : a = b → A) (g : a ≠ b → B) (hx : x = nI a := by rfl) (hy : y = nI b := by rfl) (ha : a < 2 ^ 31 := by omega) (hb : b < 2 ^ 31 := by omega) : (x = y → A) ∧ (¬ x = y → B) := by
  subst hx hy
  rw [nI_eq ha hb]
  exact ⟨f, g⟩
theorem pk_in {x : Int32} (n N : Nat) (h : n < N) (hx : x = nI n := by rfl) (hN : N < 2 ^ 31 := by omega) : vp_in x N := by
  subst hx
  exact vp_in_nI h hN
theorem pk_cl {x : Int32} (n : Nat) (hx : x = nI n := by rfl) (h : n < 2 ^ 31 := by omega) : x.toNatClampNeg = n := by
  subst hx
  exact nI_clamp h
theorem pk_loop {σ : Type} (W : Nat → Nat → σ → Prop) (I : Nat → σ → Prop) (e i0 : Nat) (s : σ) (hi : i0 ≤ e) (h0 : I i0 s) (hx : ∀ n s, I e s → W (n + 1) e s)
    (hs : ∀ n i s, i < e → I i s → (∀ s', I (i + 1) s' → W n (i + 1) s') → W (n + 1) i s) : ∃ n, W n i0 s :=
  ⟨e + 1, loop_i W I e hx hs (e + 1) i0 s hi (by omega) h0⟩
theorem pk_loopD {σ : Type} (W : Nat → Nat → σ → Prop) (I : Nat → σ → Prop) (hx : ∀ n s, I 0 s → W (n + 1) 0 s)
    (hs : ∀ n i s, I (i + 1) s → (∀ s', I i s' → W n i s') → W (n + 1) (i + 1) s) : ∀ (e : Nat) (s : σ), I e s → W (e + 1) e s := by
  intro e
  induction e with
  | zero => exact fun s h => hx 0 s h
  | succ e ih => exact fun s h => hs (e + 1) e s h (fun s' h' => ih s' h')
end
section
/-! the picture: volume, weights, depth, covering, owner, as pure functions of the reference's array g from place b on -/
def ra_sm (x : Int32) : Prop := (-20 : Int32) ≤ x ∧ x ≤ 20
theorem ra_sm_abs {x : Int32} (h : ra_sm x) : x.toInt.natAbs ≤ 20 := by
  obtain ⟨a, b⟩ := h
  rw [Int32.le_iff_toInt_le] at a b
  have h1 : (-20 : Int32).toInt = -20 := by decide
  have h2 : (20 : Int32).toInt = 20 := by decide
  rw [h1] at a
  rw [h2] at b
  omega
def ra_dt (x0 y0 w0 x1 y1 w1 x2 y2 w2 : Int32) : Int32 := x0 * (y1 * w2 - y2 * w1) - y0 * (x1 * w2 - x2 * w1) + w0 * (x1 * y2 - x2 * y1)
def ra_di (x0 y0 w0 x1 y1 w1 x2 y2 w2 : Int) : Int := x0 * (y1 * w2 - y2 * w1) - y0 * (x1 * w2 - x2 * w1) + w0 * (x1 * y2 - x2 * y1)
theorem ra_prod {a b : Int} {m n : Nat} (ha : a.natAbs ≤ m) (hb : b.natAbs ≤ n) : (a * b).natAbs ≤ m * n := by
  rw [Int.natAbs_mul]
  exact Nat.mul_le_mul ha hb
theorem ra_2x2 {a b c d : Int} (ha : a.natAbs ≤ 20) (hb : b.natAbs ≤ 20) (hc : c.natAbs ≤ 20) (hd : d.natAbs ≤ 20) : (a * b - c * d).natAbs ≤ 800 :=
  Nat.le_trans (Nat.le_trans (Int.natAbs_sub_le _ _) (Nat.add_le_add (ra_prod ha hb) (ra_prod hc hd))) (by decide)
theorem ra_di_b {x0 y0 w0 x1 y1 w1 x2 y2 w2 : Int} (h0 : x0.natAbs ≤ 20) (h1 : y0.natAbs ≤ 20) (h2 : w0.natAbs ≤ 20) (h3 : x1.natAbs ≤ 20) (h4 : y1.natAbs ≤ 20)
    (h5 : w1.natAbs ≤ 20) (h6 : x2.natAbs ≤ 20) (h7 : y2.natAbs ≤ 20) (h8 : w2.natAbs ≤ 20) : (ra_di x0 y0 w0 x1 y1 w1 x2 y2 w2).natAbs ≤ 48000 :=
  Nat.le_trans (Nat.le_trans (Int.natAbs_add_le _ _) (Nat.add_le_add (Nat.le_trans (Int.natAbs_sub_le _ _)
    (Nat.add_le_add (ra_prod h0 (ra_2x2 h4 h8 h7 h5)) (ra_prod h1 (ra_2x2 h3 h8 h6 h5)))) (ra_prod h2 (ra_2x2 h3 h7 h6 h4)))) (by decide)
theorem ra_dt_of (x0 y0 w0 x1 y1 w1 x2 y2 w2 : Int32) : ra_dt x0 y0 w0 x1 y1 w1 x2 y2 w2
    = Int32.ofInt (ra_di x0.toInt y0.toInt w0.toInt x1.toInt y1.toInt w1.toInt x2.toInt y2.toInt w2.toInt) := by
  unfold ra_dt ra_di
  simp only [Int32.ofInt_add, Int32.ofInt_sub, Int32.ofInt_mul, Int32.ofInt_toInt]
theorem ra_dt_b {x0 y0 w0 x1 y1 w1 x2 y2 w2 : Int32} (h0 : ra_sm x0) (h1 : ra_sm y0) (h2 : ra_sm w0) (h3 : ra_sm x1) (h4 : ra_sm y1)
    (h5 : ra_sm w1) (h6 : ra_sm x2) (h7 : ra_sm y2) (h8 : ra_sm w2) : (ra_dt x0 y0 w0 x1 y1 w1 x2 y2 w2).toInt.natAbs ≤ 48000 := by
  have h := ra_di_b (ra_sm_abs h0) (ra_sm_abs h1) (ra_sm_abs h2) (ra_sm_abs h3) (ra_sm_abs h4) (ra_sm_abs h5) (ra_sm_abs h6) (ra_sm_abs h7) (ra_sm_abs h8)
  rw [ra_dt_of]
  generalize ra_di x0.toInt y0.toInt w0.toInt x1.toInt y1.toInt w1.toInt x2.toInt y2.toInt w2.toInt = d at h ⊢
  rw [Int32.toInt_ofInt_of_le (by omega) (by omega)]
  exact h
/-- v turned by the sign of s -/
def ra_sg (s v : Int32) : Int32 := if s < 0 then -v else v
theorem ra_sg_n {s : Int32} (v : Int32) (h : s < 0) : ra_sg s v = -v := if_pos h
theorem ra_sg_p {s : Int32} (v : Int32) (h : ¬ s < 0) : ra_sg s v = v := if_neg h
theorem ra_neg_t {v : Int32} (h : v.toInt.natAbs ≤ 48000) : (-v).toInt = -v.toInt := by
  have e : -v = Int32.ofInt (-v.toInt) := by rw [Int32.ofInt_neg, Int32.ofInt_toInt]
  rw [e]
  exact Int32.toInt_ofInt_of_le (by omega) (by omega)
theorem ra_0t : (0 : Int32).toInt = 0 := by decide
theorem ra_ab {v : Int32} (h : v.toInt.natAbs ≤ 48000) : 0 ≤ (ra_sg v v).toInt ∧ (ra_sg v v).toInt ≤ 48000 ∧ ((ra_sg v v).toInt = 0 ↔ v = 0) := by
  have z : v = 0 ↔ v.toInt = 0 := by rw [← Int32.toInt_inj, ra_0t]
  by_cases c : v < 0
  · rw [ra_sg_n _ c, ra_neg_t h, z]
    rw [Int32.lt_iff_toInt_lt, ra_0t] at c
    omega
  · rw [ra_sg_p _ c, z]
    rw [Int32.lt_iff_toInt_lt, ra_0t] at c
    omega
theorem ra_16 {x : Int32} (h0 : 0 ≤ x.toInt) (h : x.toInt ≤ 48000) : (16 * x).toInt = 16 * x.toInt := by
  have e : 16 * x = Int32.ofInt (16 * x.toInt) := by
    rw [Int32.ofInt_mul, Int32.ofInt_toInt]
    rfl
  rw [e]
  exact Int32.toInt_ofInt_of_le (by omega) (by omega)
theorem ra_bot0 {v : Int32} (h : v.toInt.natAbs ≤ 48000) : 16 * ra_sg v v = 0 ↔ v = 0 := by
  obtain ⟨a, b, c⟩ := ra_ab h
  rw [← c, ← Int32.toInt_inj, ra_16 a b, ra_0t]
  omega
/-! turning the rows round; signs -/
theorem ra_rot (a b c d e f g h i : Int32) : ra_dt a b c d e f g h i = ra_dt g h i a b c d e f := by
  unfold ra_dt
  grind
theorem ra_m1 (x : Int32) : (-1) * x = -x := by grind
theorem ra_16n (x : Int32) : 16 * (-1) * x = 16 * -x := by grind
theorem ra_16p (x : Int32) : 16 * 1 * x = 16 * x := by grind
/-! products of longs -/
theorem ra_lm {x y : Int32} (hx0 : 0 ≤ x.toInt) (hx : x.toInt ≤ 768000) (hy0 : 0 ≤ y.toInt) (hy : y.toInt ≤ 768000) : (x.toInt64 * y.toInt64).toInt = x.toInt * y.toInt := by
  have e : x.toInt64 * y.toInt64 = Int64.ofInt (x.toInt * y.toInt) := by
    rw [Int64.ofInt_mul, Int64.ofInt_int32ToInt, Int64.ofInt_int32ToInt]
  have h0 : 0 ≤ x.toInt * y.toInt := Int.mul_nonneg hx0 hy0
  have h1 : x.toInt * y.toInt ≤ 768000 * 768000 := Int.mul_le_mul hx hy hy0 (by decide)
  rw [e]
  generalize x.toInt * y.toInt = p at h0 h1 ⊢
  exact Int64.toInt_ofInt_of_le (by omega) (by omega)
theorem ra_lx {a s b r : Int32} (a0 : 0 ≤ a.toInt) (a1 : a.toInt ≤ 768000) (b0 : 0 ≤ b.toInt) (b1 : b.toInt ≤ 768000) (s0 : 0 ≤ s.toInt) (s1 : s.toInt ≤ 48000)
    (r0 : 0 ≤ r.toInt) (r1 : r.toInt ≤ 48000) : a.toInt64 * r.toInt64 < b.toInt64 * s.toInt64 ↔ a.toInt * r.toInt < b.toInt * s.toInt := by
  rw [Int64.lt_iff_toInt_lt, ra_lm a0 a1 r0 (by omega), ra_lm b0 b1 s0 (by omega)]
theorem ra_ly {a s b r : Int32} (a0 : 0 ≤ a.toInt) (a1 : a.toInt ≤ 768000) (b0 : 0 ≤ b.toInt) (b1 : b.toInt ≤ 768000) (s0 : 0 ≤ s.toInt) (s1 : s.toInt ≤ 48000)
    (r0 : 0 ≤ r.toInt) (r1 : r.toInt ≤ 48000) : a.toInt64 * (16 * r).toInt64 < b.toInt64 * (16 * s).toInt64 ↔ a.toInt * r.toInt < b.toInt * s.toInt := by
  have er := ra_16 r0 r1
  have es := ra_16 s0 s1
  rw [Int64.lt_iff_toInt_lt, ra_lm a0 a1 (by omega) (by omega), ra_lm b0 b1 (by omega) (by omega), er, es, Int.mul_left_comm, Int.mul_left_comm b.toInt]
  generalize a.toInt * r.toInt = p
  generalize b.toInt * s.toInt = q
  omega
/-! the triangle from place b on -/
def ra_V (g : Nat → Int32) (b : Nat) : Int32 := ra_dt (g b) (g (b + 1)) (g (b + 3)) (g (b + 4)) (g (b + 5)) (g (b + 7)) (g (b + 8)) (g (b + 9)) (g (b + 11))
def ra_e0 (g : Nat → Int32) (b : Nat) (px py : Int32) : Int32 := ra_sg (ra_V g b) (ra_dt px py 16 (g (b + 4)) (g (b + 5)) (g (b + 7)) (g (b + 8)) (g (b + 9)) (g (b + 11)))
def ra_e1 (g : Nat → Int32) (b : Nat) (px py : Int32) : Int32 := ra_sg (ra_V g b) (ra_dt (g b) (g (b + 1)) (g (b + 3)) px py 16 (g (b + 8)) (g (b + 9)) (g (b + 11)))
def ra_e2 (g : Nat → Int32) (b : Nat) (px py : Int32) : Int32 := ra_sg (ra_V g b) (ra_dt (g b) (g (b + 1)) (g (b + 3)) (g (b + 4)) (g (b + 5)) (g (b + 7)) px py 16)
def ra_tp (g : Nat → Int32) (b : Nat) (px py : Int32) : Int32 := 0 + ra_e0 g b px py * g (b + 2) + ra_e1 g b px py * g (b + 6) + ra_e2 g b px py * g (b + 10)
def ra_sz (g : Nat → Int32) (b : Nat) : Int32 := ra_sg (ra_V g b) (ra_V g b)
def ra_cb (g : Nat → Int32) (b : Nat) (px py : Int32) : Bool :=
  decide (¬ ra_V g b = 0 ∧ ¬ ra_e0 g b px py < 0 ∧ ¬ ra_e1 g b px py < 0 ∧ ¬ ra_e2 g b px py < 0 ∧ ¬ ra_tp g b px py < 0 ∧ ra_tp g b px py ≤ 16 * ra_sz g b)
def ra_lb (g : Nat → Int32) (b c : Nat) (px py : Int32) : Bool :=
  decide ((ra_tp g b px py).toInt * (ra_sz g c).toInt < (ra_tp g c px py).toInt * (ra_sz g b).toInt)
/-- twelve small numbers from place b on -/
def ra_ok (g : Nat → Int32) (b : Nat) : Prop := ∀ m, m < 12 → ra_sm (g (b + m))
theorem ra_V_b {g : Nat → Int32} {b : Nat} (h : ra_ok g b) : (ra_V g b).toInt.natAbs ≤ 48000 :=
  ra_dt_b (h 0 (by decide)) (h 1 (by decide)) (h 3 (by decide)) (h 4 (by decide)) (h 5 (by decide)) (h 7 (by decide)) (h 8 (by decide)) (h 9 (by decide)) (h 11 (by decide))
theorem ra_sz_b {g : Nat → Int32} {b : Nat} (h : ra_ok g b) : 0 ≤ (ra_sz g b).toInt ∧ (ra_sz g b).toInt ≤ 48000 := ⟨(ra_ab (ra_V_b h)).1, (ra_ab (ra_V_b h)).2.1⟩
theorem ra_bz {g : Nat → Int32} {b : Nat} (h : ra_ok g b) : 16 * ra_sz g b = 0 ↔ ra_V g b = 0 := ra_bot0 (ra_V_b h)
theorem ra_tp_b {g : Nat → Int32} {b : Nat} {px py : Int32} (h : ra_ok g b) (c : ra_cb g b px py = true) : 0 ≤ (ra_tp g b px py).toInt ∧ (ra_tp g b px py).toInt ≤ 768000 := by
  obtain ⟨s0, s1⟩ := ra_sz_b h
  obtain ⟨-, -, -, -, t0, t1⟩ := of_decide_eq_true c
  rw [Int32.lt_iff_toInt_lt, ra_0t] at t0
  rw [Int32.le_iff_toInt_le, ra_16 s0 s1] at t1
  omega
theorem ra_tp_m1 {g : Nat → Int32} {b : Nat} {px py : Int32} (c : ra_cb g b px py = true) : ¬ ra_tp g b px py = -1 := by
  obtain ⟨-, -, -, -, t0, -⟩ := of_decide_eq_true c
  intro e
  rw [e] at t0
  exact t0 (by decide)
/-! the owner -/
def ra_ow (g : Nat → Int32) (px py : Int32) : Nat → Option Nat
  | 0 => none
  | t + 1 => if ra_cb g (12 * t) px py = true then
      (match ra_ow g px py t with
        | none => some t
        | some b => if ra_lb g (12 * t) (12 * b) px py = true then some t else some b)
      else ra_ow g px py t
theorem ra_ow_n {g : Nat → Int32} {px py : Int32} {t : Nat} (h : ¬ ra_cb g (12 * t) px py = true) : ra_ow g px py (t + 1) = ra_ow g px py t := if_neg h
theorem ra_ow_0 {g : Nat → Int32} {px py : Int32} {t : Nat} (h : ra_cb g (12 * t) px py = true) (e : ra_ow g px py t = none) : ra_ow g px py (t + 1) = some t := by
  simp only [ra_ow, h, e, if_true]
theorem ra_ow_1 {g : Nat → Int32} {px py : Int32} {t b : Nat} (h : ra_cb g (12 * t) px py = true) (e : ra_ow g px py t = some b) (l : ra_lb g (12 * t) (12 * b) px py = true) :
    ra_ow g px py (t + 1) = some t := by
  simp only [ra_ow, h, e, l, if_true]
theorem ra_ow_2 {g : Nat → Int32} {px py : Int32} {t b : Nat} (h : ra_cb g (12 * t) px py = true) (e : ra_ow g px py t = some b) (l : ¬ ra_lb g (12 * t) (12 * b) px py = true) :
    ra_ow g px py (t + 1) = some b := by
  simp only [ra_ow, h, e, l, if_true, if_false]
  try rfl
theorem ra_ow_b {g : Nat → Int32} {px py : Int32} : ∀ {t b : Nat}, ra_ow g px py t = some b → b < t ∧ ra_cb g (12 * b) px py = true := by
  intro t
  induction t with
  | zero => intro b h; exact nomatch h
  | succ t ih =>
    intro b h
    by_cases c : ra_cb g (12 * t) px py = true
    · cases e : ra_ow g px py t with
      | none =>
        rw [ra_ow_0 c e] at h
        cases h
        exact ⟨by omega, c⟩
      | some a =>
        by_cases l : ra_lb g (12 * t) (12 * a) px py = true
        · rw [ra_ow_1 c e l] at h
          cases h
          exact ⟨by omega, c⟩
        · rw [ra_ow_2 c e l] at h
          cases h
          have := ih e
          exact ⟨by omega, this.2⟩
    · rw [ra_ow_n c] at h
      have := ih h
      exact ⟨by omega, this.2⟩
/-! counting -/
def ra_ct (p : Nat → Bool) : Nat → Nat
  | 0 => 0
  | n + 1 => if p n = true then ra_ct p n + 1 else ra_ct p n
theorem ra_ct_t {p : Nat → Bool} {n : Nat} (h : p n = true) : ra_ct p (n + 1) = ra_ct p n + 1 := if_pos h
theorem ra_ct_f {p : Nat → Bool} {n : Nat} (h : ¬ p n = true) : ra_ct p (n + 1) = ra_ct p n := if_neg h
/-! pixels -/
def ra_px (m : Nat) : Int32 := 2 * nI m - 15
def ra_po (g : Nat → Int32) (n a : Nat) : Option Nat := ra_ow g (ra_px (a % 16)) (ra_px (a / 16)) n
def ra_pc (g : Nat → Int32) (t a : Nat) : Bool := ra_cb g (12 * t) (ra_px (a % 16)) (ra_px (a / 16))
theorem ra_po_e (g : Nat → Int32) (n : Nat) {i j : Nat} (hi : i < 16) : ra_po g n (16 * j + i) = ra_ow g (ra_px i) (ra_px j) n := by
  unfold ra_po
  rw [show (16 * j + i) % 16 = i by omega, show (16 * j + i) / 16 = j by omega]
theorem ra_pc_e (g : Nat → Int32) (t : Nat) {i j : Nat} (hi : i < 16) : ra_pc g t (16 * j + i) = ra_cb g (12 * t) (ra_px i) (ra_px j) := by
  unfold ra_pc
  rw [show (16 * j + i) % 16 = i by omega, show (16 * j + i) / 16 = j by omega]
/-- the answers' words for an owner: nobody is e -/
def ra_an (e : Int32) : Option Nat → Int32
  | none => e
  | some b => nI b
/-! loops that count -/
theorem ra_loop (W : Nat → Nat → Nat → Prop) (f : Nat → Nat) (p : Nat → Bool) (E : Nat) (hf : ∀ a, f (a + 1) = if p a = true then f a + 1 else f a) (hx : ∀ n, W (n + 1) E (f E))
    (hs : ∀ n a c, a < E → (p a = true → W n (a + 1) (c + 1)) → (¬ p a = true → W n (a + 1) c) → W (n + 1) a c) : ∀ n a, a ≤ E → E - a < n → W n a (f a) := by
  intro n
  induction n with
  | zero => intro a h1 h2; omega
  | succ n ih =>
    intro a h1 h2
    by_cases e : a = E
    · subst e
      exact hx n
    · have h := ih (a + 1) (by omega) (by omega)
      rw [hf a] at h
      refine hs n a (f a) (by omega) (fun z => ?_) (fun z => ?_)
      · rwa [if_pos z] at h
      · rwa [if_neg z] at h
theorem ra_ct_s (p : Nat → Bool) (a : Nat) : ra_ct p (a + 1) = if p a = true then ra_ct p a + 1 else ra_ct p a := rfl
/-- what the owner's loops hold when t triangles have been looked at -/
def ra_iv (g : Nat → Int32) (px py : Int32) (t : Nat) (B D S : Int32) : Prop :=
  (ra_ow g px py t = none ∧ B = -2) ∨ ∃ b, ra_ow g px py t = some b ∧ B = nI b ∧ D = ra_tp g (12 * b) px py ∧ S = ra_sz g (12 * b)
def ra_jv (g : Nat → Int32) (px py : Int32) (t : Nat) (B : Int32) : Prop :=
  (ra_ow g px py t = none ∧ B = -1) ∨ ∃ b, ra_ow g px py t = some b ∧ B = nI b
theorem ra_lb_x {g : Nat → Int32} {b c : Nat} {px py : Int32} (hb : ra_ok g b) (hc : ra_ok g c) (cb : ra_cb g b px py = true) (cc : ra_cb g c px py = true) :
    (ra_tp g b px py).toInt64 * (ra_sz g c).toInt64 < (ra_tp g c px py).toInt64 * (ra_sz g b).toInt64 ↔ ra_lb g b c px py = true := by
  unfold ra_lb
  rw [decide_eq_true_iff]
  exact ra_lx (ra_tp_b hb cb).1 (ra_tp_b hb cb).2 (ra_tp_b hc cc).1 (ra_tp_b hc cc).2 (ra_sz_b hb).1 (ra_sz_b hb).2 (ra_sz_b hc).1 (ra_sz_b hc).2
theorem ra_lb_y {g : Nat → Int32} {b c : Nat} {px py : Int32} (hb : ra_ok g b) (hc : ra_ok g c) (cb : ra_cb g b px py = true) (cc : ra_cb g c px py = true) :
    (ra_tp g b px py).toInt64 * (16 * ra_sz g c).toInt64 < (ra_tp g c px py).toInt64 * (16 * ra_sz g b).toInt64 ↔ ra_lb g b c px py = true := by
  unfold ra_lb
  rw [decide_eq_true_iff]
  exact ra_ly (ra_tp_b hb cb).1 (ra_tp_b hb cb).2 (ra_tp_b hc cc).1 (ra_tp_b hc cc).2 (ra_sz_b hb).1 (ra_sz_b hb).2 (ra_sz_b hc).1 (ra_sz_b hc).2
end
section
/-! the relation: triangle t of the component's four arrays is the triangle from place b on of g -/
def ra_tq (xs ys zs ws g : Nat → Int32) (t b : Nat) : Prop :=
  ∀ k, k < 3 → xs (3 * t + k) = g (b + 4 * k) ∧ ys (3 * t + k) = g (b + 4 * k + 1) ∧ zs (3 * t + k) = g (b + 4 * k + 2) ∧ ws (3 * t + k) = g (b + 4 * k + 3)
def ra_al (xs ys zs ws g : Nat → Int32) (n : Nat) : Prop := ∀ t, t < n → ra_tq xs ys zs ws g t (12 * t) ∧ ra_ok g (12 * t)
theorem ra_0z : ra_sm 0 := ⟨by decide, by decide⟩
/-- twelve places by corner and number -/
theorem ra_okI {g : Nat → Int32} {b : Nat} (h : ∀ k, k < 3 → ra_sm (g (b + 4 * k)) ∧ ra_sm (g (b + 4 * k + 1)) ∧ ra_sm (g (b + 4 * k + 2)) ∧ ra_sm (g (b + 4 * k + 3))) : ra_ok g b := by
  intro m hm
  obtain ⟨h0, h1, h2, h3⟩ := h (m / 4) (by omega)
  have hc : m % 4 = 0 ∨ m % 4 = 1 ∨ m % 4 = 2 ∨ m % 4 = 3 := by omega
  rcases hc with c | c | c | c
  · rw [show b + m = b + 4 * (m / 4) by omega]; exact h0
  · rw [show b + m = b + 4 * (m / 4) + 1 by omega]; exact h1
  · rw [show b + m = b + 4 * (m / 4) + 2 by omega]; exact h2
  · rw [show b + m = b + 4 * (m / 4) + 3 by omega]; exact h3
theorem ra_okE {g : Nat → Int32} {b : Nat} (h : ra_ok g b) (k : Nat) (hk : k < 3) : ra_sm (g (b + 4 * k)) ∧ ra_sm (g (b + 4 * k + 1)) ∧ ra_sm (g (b + 4 * k + 2)) ∧ ra_sm (g (b + 4 * k + 3)) :=
  ⟨h (4 * k) (by omega), h (4 * k + 1) (by omega), h (4 * k + 2) (by omega), h (4 * k + 3) (by omega)⟩
theorem ra_okU {g : Nat → Int32} {b k : Nat} {x : Int32} (h : ra_ok g b) (hx : ra_sm x) : ra_ok (upd g k x) b := by
  intro m hm
  by_cases e : b + m = k
  · rw [e, pk_us]; exact hx
  · rw [pk_un e]; exact h m hm
/-! place, depth -/
theorem ra_alU {xs ys zs ws xs' ys' zs' ws' g : Nat → Int32} {n : Nat} (hn : n ≤ 10) (h : ra_al xs ys zs ws g n) (e0 : ∀ m, m < 30 → xs' m = xs m) (e1 : ∀ m, m < 30 → ys' m = ys m)
    (e2 : ∀ m, m < 30 → zs' m = zs m) (e3 : ∀ m, m < 30 → ws' m = ws m) : ra_al xs' ys' zs' ws' g n := by
  intro t ht
  refine ⟨fun k hk => ?_, (h t ht).2⟩
  rw [e0 _ (by omega), e1 _ (by omega), e2 _ (by omega), e3 _ (by omega)]
  exact (h t ht).1 k hk
theorem ra_place {xs ys zs ws d : Nat → Int32} {k : Nat} {x y : Int32} (h : ra_tq xs ys zs ws d 10 0) : ra_tq (upd xs (30 + k) x) (upd ys (30 + k) y) zs ws (upd (upd d (4 * k) x) (4 * k + 1) y) 10 0 := by
  intro j hj
  obtain ⟨a, b, c, e⟩ := h j hj
  by_cases z : j = k
  · subst z
    refine ⟨?_, ?_, ?_, ?_⟩
    · rw [show 3 * 10 + j = 30 + j by omega, pk_us, pk_un (by omega), show 0 + 4 * j = 4 * j by omega, pk_us]
    · rw [show 3 * 10 + j = 30 + j by omega, pk_us, show 0 + 4 * j + 1 = 4 * j + 1 by omega, pk_us]
    · rw [pk_un (by omega), pk_un (by omega)]; exact c
    · rw [pk_un (by omega), pk_un (by omega)]; exact e
  · refine ⟨?_, ?_, ?_, ?_⟩
    · rw [pk_un (by omega), pk_un (by omega), pk_un (by omega)]; exact a
    · rw [pk_un (by omega), pk_un (by omega), pk_un (by omega)]; exact b
    · rw [pk_un (by omega), pk_un (by omega)]; exact c
    · rw [pk_un (by omega), pk_un (by omega)]; exact e
theorem ra_depth {xs ys zs ws d : Nat → Int32} {k : Nat} {x y : Int32} (h : ra_tq xs ys zs ws d 10 0) : ra_tq xs ys (upd zs (30 + k) x) (upd ws (30 + k) y) (upd (upd d (4 * k + 2) x) (4 * k + 3) y) 10 0 := by
  intro j hj
  obtain ⟨a, b, c, e⟩ := h j hj
  by_cases z : j = k
  · subst z
    refine ⟨?_, ?_, ?_, ?_⟩
    · rw [pk_un (by omega), pk_un (by omega)]; exact a
    · rw [pk_un (by omega), pk_un (by omega)]; exact b
    · rw [show 3 * 10 + j = 30 + j by omega, pk_us, pk_un (by omega), show 0 + 4 * j + 2 = 4 * j + 2 by omega, pk_us]
    · rw [show 3 * 10 + j = 30 + j by omega, pk_us, show 0 + 4 * j + 3 = 4 * j + 3 by omega, pk_us]
  · refine ⟨?_, ?_, ?_, ?_⟩
    · rw [pk_un (by omega), pk_un (by omega)]; exact a
    · rw [pk_un (by omega), pk_un (by omega)]; exact b
    · rw [pk_un (by omega), pk_un (by omega), pk_un (by omega)]; exact c
    · rw [pk_un (by omega), pk_un (by omega), pk_un (by omega)]; exact e
/-! copying a triangle -/
def ra_cp (a a' : Nat → Int32) (f t : Nat) : Prop := (∀ k, k < 3 → a' (3 * t + k) = a (3 * f + k)) ∧ ∀ m, (m < 3 * t ∨ 3 * t + 3 ≤ m) → a' m = a m
/-- the first i numbers of a triangle are copied -/
def ra_cq (a a' : Nat → Int32) (f t i : Nat) : Prop := (∀ k, k < i → a' (3 * t + k) = a (3 * f + k)) ∧ ∀ m, (m < 3 * t ∨ 3 * t + i ≤ m) → a' m = a m
theorem ra_cq0 (a : Nat → Int32) (f t : Nat) : ra_cq a a f t 0 := ⟨fun k hk => by omega, fun _ _ => rfl⟩
theorem ra_cqS {a a' : Nat → Int32} {f t i : Nat} (h : ra_cq a a' f t i) (hi : i < 3) (hft : f ≠ t) : ra_cq a (upd a' (3 * t + i) (a' (3 * f + i))) f t (i + 1) := by
  constructor
  · intro k hk
    by_cases e : k = i
    · subst e
      rw [pk_us]
      exact h.2 _ (by omega)
    · rw [pk_un (by omega)]
      exact h.1 k (by omega)
  · intro m hm
    rw [pk_un (by omega)]
    exact h.2 m (by omega)
theorem ra_draw {xs ys zs ws d g xs' ys' zs' ws' g' : Nat → Int32} {n : Nat} (hn : n < 10) (hd : ra_tq xs ys zs ws d 10 0) (ho : ra_ok d 0) (h : ra_al xs ys zs ws g n)
    (c0 : ra_cp xs xs' 10 n) (c1 : ra_cp ys ys' 10 n) (c2 : ra_cp zs zs' 10 n) (c3 : ra_cp ws ws' 10 n) (e0 : ∀ m, m < 12 → g' (12 * n + m) = d m) (e1 : ∀ m, m < 12 * n → g' m = g m) :
    ra_tq xs' ys' zs' ws' d 10 0 ∧ ra_al xs' ys' zs' ws' g' (n + 1) := by
  constructor
  · intro k hk
    rw [c0.2 _ (by omega), c1.2 _ (by omega), c2.2 _ (by omega), c3.2 _ (by omega)]
    exact hd k hk
  · intro t ht
    by_cases e : t = n
    · subst e
      constructor
      · intro k hk
        obtain ⟨q0, q1, q2, q3⟩ := hd k hk
        have f0 := e0 (4 * k) (by omega)
        have f1 := e0 (4 * k + 1) (by omega)
        have f2 := e0 (4 * k + 2) (by omega)
        have f3 := e0 (4 * k + 3) (by omega)
        rw [c0.1 k hk, c1.1 k hk, c2.1 k hk, c3.1 k hk, q0, q1, q2, q3]
        rw [Nat.zero_add]
        exact ⟨f0.symm, f1.symm, f2.symm, f3.symm⟩
      · intro m hm
        rw [e0 m hm]
        have := ho m hm
        rwa [Nat.zero_add] at this
    · obtain ⟨a, b⟩ := h t (by omega)
      constructor
      · intro k hk
        rw [c0.2 _ (by omega), c1.2 _ (by omega), c2.2 _ (by omega), c3.2 _ (by omega), e1 _ (by omega), e1 _ (by omega), e1 _ (by omega), e1 _ (by omega)]
        exact a k hk
      · intro m hm
        rw [e1 _ (by omega)]
        exact b m hm
/-! taking a triangle out: the triangles from r on, below q, are those that stood one later -/
def ra_sh (a a' : Nat → Int32) (r q : Nat) : Prop := (∀ s k, r ≤ s → s < q → k < 3 → a' (3 * s + k) = a (3 * (s + 1) + k)) ∧ ∀ m, (m < 3 * r ∨ 3 * q ≤ m) → a' m = a m
theorem ra_sh0 (a : Nat → Int32) (r : Nat) : ra_sh a a r r := ⟨fun s k h1 h2 _ => by omega, fun _ _ => rfl⟩
theorem ra_shS {a a' a'' : Nat → Int32} {r q : Nat} (h : ra_sh a a' r q) (hr : r ≤ q) (c : ra_cp a' a'' (q + 1) q) : ra_sh a a'' r (q + 1) := by
  constructor
  · intro s k h1 h2 hk
    by_cases e : s = q
    · subst e
      rw [c.1 k hk]
      exact h.2 _ (by omega)
    · rw [c.2 _ (by omega)]
      exact h.1 s k h1 (by omega) hk
  · intro m hm
    rw [c.2 _ (by omega)]
    exact h.2 m (by omega)
theorem ra_remove {xs ys zs ws d g xs' ys' zs' ws' g' : Nat → Int32} {n r : Nat} (hn : n + 1 ≤ 10) (hr : r < n + 1) (hd : ra_tq xs ys zs ws d 10 0) (h : ra_al xs ys zs ws g (n + 1))
    (c0 : ra_sh xs xs' r n) (c1 : ra_sh ys ys' r n) (c2 : ra_sh zs zs' r n) (c3 : ra_sh ws ws' r n) (e0 : ∀ m, 12 * r ≤ m → m < 108 → g' m = g (m + 12)) (e1 : ∀ m, m < 12 * r → g' m = g m) :
    ra_tq xs' ys' zs' ws' d 10 0 ∧ ra_al xs' ys' zs' ws' g' n := by
  constructor
  · intro k hk
    rw [c0.2 _ (by omega), c1.2 _ (by omega), c2.2 _ (by omega), c3.2 _ (by omega)]
    exact hd k hk
  · intro t ht
    by_cases e : t < r
    · obtain ⟨a, b⟩ := h t (by omega)
      constructor
      · intro k hk
        rw [c0.2 _ (by omega), c1.2 _ (by omega), c2.2 _ (by omega), c3.2 _ (by omega), e1 _ (by omega), e1 _ (by omega), e1 _ (by omega), e1 _ (by omega)]
        exact a k hk
      · intro m hm
        rw [e1 _ (by omega)]
        exact b m hm
    · obtain ⟨a, b⟩ := h (t + 1) (by omega)
      constructor
      · intro k hk
        obtain ⟨q0, q1, q2, q3⟩ := a k hk
        rw [c0.1 t k (by omega) ht hk, c1.1 t k (by omega) ht hk, c2.1 t k (by omega) ht hk, c3.1 t k (by omega) ht hk, q0, q1, q2, q3,
          e0 _ (by omega) (by omega), e0 _ (by omega) (by omega), e0 _ (by omega) (by omega), e0 _ (by omega) (by omega)]
        refine ⟨congrArg g ?_, congrArg g ?_, congrArg g ?_, congrArg g ?_⟩ <;> omega
      · intro m hm
        rw [e0 _ (by omega) (by omega), show 12 * t + m + 12 = 12 * (t + 1) + m by omega]
        exact b m hm
/-! numbers -/
theorem ra_t3 (t : Nat) : nI t * 3 = nI (3 * t) := by
  rw [Nat.mul_comm]
  exact pk_mul t 3
theorem ra_12 (t r c : Nat) : 12 * nI t + 4 * nI r + nI c = nI (12 * t + 4 * r + c) := by
  show nI 12 * nI t + nI 4 * nI r + nI c = _
  rw [pk_mul, pk_mul, nI_add, nI_add]
end
section
/-! the reference's methods against the picture -/
theorem ra_cb_iff {g : Nat → Int32} {b : Nat} {px py : Int32} : ra_cb g b px py = true ↔
    (¬ ra_V g b = 0 ∧ ¬ ra_e0 g b px py < 0 ∧ ¬ ra_e1 g b px py < 0 ∧ ¬ ra_e2 g b px py < 0 ∧ ¬ ra_tp g b px py < 0 ∧ ra_tp g b px py ≤ 16 * ra_sz g b) := by
  unfold ra_cb
  exact decide_eq_true_iff
theorem ra_sgb {post : Int32 → Prop} {s v : Int32} (h : post (ra_sg s v)) : (0 ≤ s → post v) ∧ (¬ 0 ≤ s → post (-v)) := by
  constructor
  · intro z
    rwa [ra_sg_p v (Int32.not_lt.mpr z)] at h
  · intro z
    rwa [ra_sg_n v (Int32.not_le.mp z)] at h
section
variable {post : Int32 → Prop} {c : Int32} {d g : Nat → Int32}
theorem ya_pn (t k r q m : Nat) {px py : Int32} (ht : t < 10) (hr : r < 3) (hk : k < 4) (h : r ≠ k) (hm : 4 * r + q = m) (h12 : m < 12) (hp : post (g (12 * t + m))) :
    wpY_part post (c, d, g) (nI t) (nI k) px py (nI r) (nI q) := by
  have e : ¬ nI r = nI k := by
    rw [nI_eq (by omega) (by omega)]
    exact h
  have e2 : 12 * nI t + 4 * nI r + nI q = nI (12 * t + m) := by rw [ra_12, ← hm, Nat.add_assoc]
  refine br_f e ?_
  rw [e2, nI_clamp (by omega)]
  exact ⟨vp_in_nI (by omega) (by decide), hp⟩
theorem ya_p0 (k : Nat) {x px py : Int32} (h : post px) : wpY_part post (c, d, g) x (nI k) px py (nI k) 0 := br_t rfl (br_t rfl h)
theorem ya_p1 (k : Nat) {x px py : Int32} (h : post py) : wpY_part post (c, d, g) x (nI k) px py (nI k) 1 := br_t rfl (br_f (by decide) (br_t rfl h))
theorem ya_p3 (k : Nat) {x px py : Int32} (h : post 16) : wpY_part post (c, d, g) x (nI k) px py (nI k) 3 := br_t rfl (br_f (by decide) (br_f (by decide) h))
theorem ya_vw0 (t : Nat) {px py : Int32} (ht : t < 10) (hp : post (ra_dt px py 16 (g (12 * t + 4)) (g (12 * t + 5)) (g (12 * t + 7)) (g (12 * t + 8)) (g (12 * t + 9)) (g (12 * t + 11)))) : wpY_volumeWith post (c, d, g) (nI t) 0 px py := by
  unfold wpY_volumeWith
  dsimp only
  refine ya_p0 0 ?_
  refine ya_p1 0 ?_
  refine ya_p3 0 ?_
  refine ya_pn t 0 1 0 4 ht (by decide) (by decide) (by decide) rfl (by decide) ?_
  refine ya_pn t 0 1 1 5 ht (by decide) (by decide) (by decide) rfl (by decide) ?_
  refine ya_pn t 0 1 3 7 ht (by decide) (by decide) (by decide) rfl (by decide) ?_
  refine ya_pn t 0 2 0 8 ht (by decide) (by decide) (by decide) rfl (by decide) ?_
  refine ya_pn t 0 2 1 9 ht (by decide) (by decide) (by decide) rfl (by decide) ?_
  refine ya_pn t 0 2 3 11 ht (by decide) (by decide) (by decide) rfl (by decide) ?_
  exact hp
theorem ya_vw1 (t : Nat) {px py : Int32} (ht : t < 10) (hp : post (ra_dt (g (12 * t)) (g (12 * t + 1)) (g (12 * t + 3)) px py 16 (g (12 * t + 8)) (g (12 * t + 9)) (g (12 * t + 11)))) : wpY_volumeWith post (c, d, g) (nI t) 1 px py := by
  unfold wpY_volumeWith
  dsimp only
  refine ya_pn t 1 0 0 0 ht (by decide) (by decide) (by decide) rfl (by decide) ?_
  refine ya_pn t 1 0 1 1 ht (by decide) (by decide) (by decide) rfl (by decide) ?_
  refine ya_pn t 1 0 3 3 ht (by decide) (by decide) (by decide) rfl (by decide) ?_
  refine ya_p0 1 ?_
  refine ya_p1 1 ?_
  refine ya_p3 1 ?_
  refine ya_pn t 1 2 0 8 ht (by decide) (by decide) (by decide) rfl (by decide) ?_
  refine ya_pn t 1 2 1 9 ht (by decide) (by decide) (by decide) rfl (by decide) ?_
  refine ya_pn t 1 2 3 11 ht (by decide) (by decide) (by decide) rfl (by decide) ?_
  exact hp
theorem ya_vw2 (t : Nat) {px py : Int32} (ht : t < 10) (hp : post (ra_dt (g (12 * t)) (g (12 * t + 1)) (g (12 * t + 3)) (g (12 * t + 4)) (g (12 * t + 5)) (g (12 * t + 7)) px py 16)) : wpY_volumeWith post (c, d, g) (nI t) 2 px py := by
  unfold wpY_volumeWith
  dsimp only
  refine ya_pn t 2 0 0 0 ht (by decide) (by decide) (by decide) rfl (by decide) ?_
  refine ya_pn t 2 0 1 1 ht (by decide) (by decide) (by decide) rfl (by decide) ?_
  refine ya_pn t 2 0 3 3 ht (by decide) (by decide) (by decide) rfl (by decide) ?_
  refine ya_pn t 2 1 0 4 ht (by decide) (by decide) (by decide) rfl (by decide) ?_
  refine ya_pn t 2 1 1 5 ht (by decide) (by decide) (by decide) rfl (by decide) ?_
  refine ya_pn t 2 1 3 7 ht (by decide) (by decide) (by decide) rfl (by decide) ?_
  refine ya_p0 2 ?_
  refine ya_p1 2 ?_
  refine ya_p3 2 ?_
  exact hp
theorem ya_vw3 (t : Nat) {px py : Int32} (ht : t < 10) (hp : post (ra_V g (12 * t))) : wpY_volumeWith post (c, d, g) (nI t) 3 px py := by
  unfold wpY_volumeWith
  dsimp only
  refine ya_pn t 3 0 0 0 ht (by decide) (by decide) (by decide) rfl (by decide) ?_
  refine ya_pn t 3 0 1 1 ht (by decide) (by decide) (by decide) rfl (by decide) ?_
  refine ya_pn t 3 0 3 3 ht (by decide) (by decide) (by decide) rfl (by decide) ?_
  refine ya_pn t 3 1 0 4 ht (by decide) (by decide) (by decide) rfl (by decide) ?_
  refine ya_pn t 3 1 1 5 ht (by decide) (by decide) (by decide) rfl (by decide) ?_
  refine ya_pn t 3 1 3 7 ht (by decide) (by decide) (by decide) rfl (by decide) ?_
  refine ya_pn t 3 2 0 8 ht (by decide) (by decide) (by decide) rfl (by decide) ?_
  refine ya_pn t 3 2 1 9 ht (by decide) (by decide) (by decide) rfl (by decide) ?_
  refine ya_pn t 3 2 3 11 ht (by decide) (by decide) (by decide) rfl (by decide) ?_
  exact hp
theorem ya_we0 (t : Nat) {i j : Int32} (ht : t < 10) (hp : post (ra_e0 g (12 * t) (2 * i - 15) (2 * j - 15))) : wpY_weight post (c, d, g) (nI t) 0 i j := by
  unfold wpY_weight
  dsimp only
  refine ya_vw3 t ht ?_
  refine ya_vw0 t ht ?_
  exact ra_sgb (post := post) hp
theorem ya_we1 (t : Nat) {i j : Int32} (ht : t < 10) (hp : post (ra_e1 g (12 * t) (2 * i - 15) (2 * j - 15))) : wpY_weight post (c, d, g) (nI t) 1 i j := by
  unfold wpY_weight
  dsimp only
  refine ya_vw3 t ht ?_
  refine ya_vw1 t ht ?_
  exact ra_sgb (post := post) hp
theorem ya_we2 (t : Nat) {i j : Int32} (ht : t < 10) (hp : post (ra_e2 g (12 * t) (2 * i - 15) (2 * j - 15))) : wpY_weight post (c, d, g) (nI t) 2 i j := by
  unfold wpY_weight
  dsimp only
  refine ya_vw3 t ht ?_
  refine ya_vw2 t ht ?_
  exact ra_sgb (post := post) hp
theorem ya_top_s (t k : Nat) {i j x e : Int32} {n : Nat} (ht : t < 10) (hk : k < 3) (he : ∀ p : Int32 → Prop, p e → wpY_weight p (c, d, g) (nI t) (nI k) i j)
    (hn : wY_top_6 post (nI t) i j c d g n (x + e * g (12 * t + (4 * k + 2))) (nI (k + 1))) : wY_top_6 post (nI t) i j c d g (n + 1) x (nI k) := by
  have e1 : ¬ (3 : Int32) ≤ nI k := nI_ge (b := 3) hk (by decide)
  have e2 : 12 * nI t + 4 * nI k + 2 = nI (12 * t + (4 * k + 2)) := by
    rw [← Nat.add_assoc]
    exact ra_12 t k 2
  refine br_f e1 (he _ ?_)
  rw [e2, nI_clamp (by omega)]
  exact ⟨vp_in_nI (by omega) (by decide), nm_e (nm_r (nI_1 k) hn)⟩
theorem ya_top (t : Nat) {i j : Int32} (ht : t < 10) (hp : post (ra_tp g (12 * t) (2 * i - 15) (2 * j - 15))) : wpY_top post (c, d, g) (nI t) i j := by
  unfold wpY_top
  dsimp only
  refine ⟨4, ?_⟩
  refine ya_top_s t 0 ht (by decide) (fun p h => ya_we0 t ht h) ?_
  refine ya_top_s t 1 ht (by decide) (fun p h => ya_we1 t ht h) ?_
  refine ya_top_s t 2 ht (by decide) (fun p h => ya_we2 t ht h) ?_
  exact br_t (by decide) hp
theorem ya_bot (t : Nat) (ht : t < 10) (hp : post (16 * ra_sz g (12 * t))) : wpY_bottom post (c, d, g) (nI t) := by
  unfold wpY_bottom
  dsimp only
  refine ya_vw3 t ht ?_
  exact ra_sgb (post := fun x => post (16 * x)) hp
theorem ya_cov (t : Nat) {i j : Int32} (ht : t < 10) (ok : ra_ok g (12 * t)) (h1 : ra_cb g (12 * t) (2 * i - 15) (2 * j - 15) = true → post 1)
    (h0 : ¬ ra_cb g (12 * t) (2 * i - 15) (2 * j - 15) = true → post 0) : wpY_covering post (c, d, g) (nI t) i j := by
  rw [ra_cb_iff] at h1 h0
  unfold wpY_covering
  dsimp only
  refine ya_bot t ht ?_
  refine br_c (fun z => h0 ?_) (fun z => ⟨4, ?_⟩)
  · rw [ra_bz ok] at z
    exact fun a => a.1 z
  · rw [ra_bz ok] at z
    refine br_f (by decide) ?_
    refine ya_we0 t ht ?_
    refine br_c (fun a0 => nm_e ?_) (fun a0 => h0 (fun a => a0 (Int32.not_lt.mp a.2.1)))
    refine br_f (by decide) ?_
    refine ya_we1 t ht ?_
    refine br_c (fun a1 => nm_e ?_) (fun a1 => h0 (fun a => a1 (Int32.not_lt.mp a.2.2.1)))
    refine br_f (by decide) ?_
    refine ya_we2 t ht ?_
    refine br_c (fun a2 => nm_e ?_) (fun a2 => h0 (fun a => a2 (Int32.not_lt.mp a.2.2.2.1)))
    refine br_t (by decide) ?_
    refine ya_top t ht ?_
    refine br_c (fun a3 => h0 (fun a => a.2.2.2.2.1 a3)) (fun a3 => ?_)
    refine ya_bot t ht ?_
    refine br_c (fun a4 => h0 (fun a => Int32.not_le.mpr a4 a.2.2.2.2.2)) (fun a4 => ?_)
    exact h1 ⟨z, Int32.not_lt.mpr a0, Int32.not_lt.mpr a1, Int32.not_lt.mpr a2, a3, Int32.not_lt.mp a4⟩
theorem ya_cmp (t s : Nat) {i j : Int32} (ht : t < 10) (hs : s < 10) (okt : ra_ok g (12 * t)) (oks : ra_ok g (12 * s))
    (ct : ra_cb g (12 * t) (2 * i - 15) (2 * j - 15) = true) (cs : ra_cb g (12 * s) (2 * i - 15) (2 * j - 15) = true)
    (h1 : ra_lb g (12 * t) (12 * s) (2 * i - 15) (2 * j - 15) = true → post (-1))
    (h2 : ¬ ra_lb g (12 * t) (12 * s) (2 * i - 15) (2 * j - 15) = true → ra_lb g (12 * s) (12 * t) (2 * i - 15) (2 * j - 15) = true → post 1)
    (h0 : ¬ ra_lb g (12 * t) (12 * s) (2 * i - 15) (2 * j - 15) = true → ¬ ra_lb g (12 * s) (12 * t) (2 * i - 15) (2 * j - 15) = true → post 0) :
    wpY_compare post (c, d, g) (nI t) (nI s) i j := by
  rw [← ra_lb_y okt oks ct cs] at h1 h2 h0
  rw [← ra_lb_y oks okt cs ct] at h2 h0
  unfold wpY_compare
  dsimp only
  refine ya_top t ht ?_
  refine ya_top s hs ?_
  refine ya_bot s hs ?_
  refine nm_e ?_
  refine ya_bot t ht ?_
  refine nm_e ?_
  refine br_c (fun a => br_c (fun b => ?_) (fun b => ?_)) (fun a => ?_)
  · exact h0 (Int64.not_lt.mpr a) (Int64.not_lt.mpr b)
  · exact h2 (Int64.not_lt.mpr a) (Int64.not_le.mp b)
  · exact h1 (Int64.not_le.mp a)
/-! the owner -/
theorem ra_jv_an {g : Nat → Int32} {px py B : Int32} {t : Nat} (h : ra_jv g px py t B) : B = ra_an (-1) (ra_ow g px py t) := by
  rcases h with ⟨h, e⟩ | ⟨b, h, e⟩
  · rw [h, e]; rfl
  · rw [h, e]; rfl
theorem ya_ow_l {N : Nat} {i j : Int32} (hN : N ≤ 10) (ok : ∀ t, t < N → ra_ok g (12 * t)) (hp : post (ra_an (-1) (ra_ow g (2 * i - 15) (2 * j - 15) N))) :
    ∀ n t B, t ≤ N → N - t < n → ra_jv g (2 * i - 15) (2 * j - 15) t B → wY_ownerOf_5 post i j (nI N) d g n B (nI t) := by
  intro n
  induction n with
  | zero => intro t B h1 h2; omega
  | succ n ih =>
    intro t B h1 h2 hv
    by_cases e : t = N
    · subst e
      refine br_t (nI_le (Nat.le_refl t) (by omega)) ?_
      rw [ra_jv_an hv]
      exact hp
    · have e10 : ¬ (10 : Int32) ≤ nI t := nI_ge (b := 10) (by omega) (by decide)
      refine br_f (nI_ge (by omega) (by omega)) (br_f e10 ?_)
      refine ya_cov t (by omega) (ok t (by omega)) (fun ct => ?_) (fun ct => ?_)
      · refine br_f (by decide) ?_
        rcases hv with ⟨h, eB⟩ | ⟨b, h, eB⟩
        · subst eB
          refine br_f (by decide) (nm_r (nI_1 t) ?_)
          exact ih (t + 1) (nI t) (by omega) (by omega) (Or.inr ⟨t, ra_ow_0 ct h, rfl⟩)
        · subst eB
          have hb := ra_ow_b h
          refine br_t (nI_pos' (by omega)) ?_
          refine ya_cmp t b (by omega) (by omega) (ok t (by omega)) (ok b (by omega)) ct hb.2 (fun l => ?_) (fun l _ => ?_) (fun l _ => ?_)
          · refine br_f (by decide) (nm_r (nI_1 t) ?_)
            exact ih (t + 1) (nI t) (by omega) (by omega) (Or.inr ⟨t, ra_ow_1 ct h l, rfl⟩)
          · refine br_t (by decide) (nm_r (nI_1 t) ?_)
            exact ih (t + 1) (nI b) (by omega) (by omega) (Or.inr ⟨b, ra_ow_2 ct h l, rfl⟩)
          · refine br_t (by decide) (nm_r (nI_1 t) ?_)
            exact ih (t + 1) (nI b) (by omega) (by omega) (Or.inr ⟨b, ra_ow_2 ct h l, rfl⟩)
      · refine br_t rfl (nm_r (nI_1 t) ?_)
        refine ih (t + 1) B (by omega) (by omega) ?_
        unfold ra_jv
        rw [ra_ow_n ct]
        exact hv
theorem ya_ow {N : Nat} {i j : Int32} (hN : N ≤ 10) (ok : ∀ t, t < N → ra_ok g (12 * t)) (hp : post (ra_an (-1) (ra_ow g (2 * i - 15) (2 * j - 15) N))) :
    wpY_ownerOf post (nI N, d, g) i j := by
  unfold wpY_ownerOf
  dsimp only
  exact ⟨N + 1, ya_ow_l hN ok hp (N + 1) 0 (-1) (by omega) (by omega) (Or.inl ⟨rfl, rfl⟩)⟩
/-! refusals -/
theorem ya_mi {N t : Nat} (hN : N ≤ 10) (ht : t < N) (hp : post 0) : wpY_missing post (nI N, d, g) (nI t) :=
  br_f (nI_pos (by omega)) (br_f (nI_ge ht (by omega)) (br_t (nI_lt (b := 10) (by omega) (by decide)) hp))
theorem ya_mi_n {N : Nat} {x : Int32} (h : x < 0 ∨ nI N ≤ x) (hp : post 1) : wpY_missing post (nI N, d, g) x := by
  refine br_c (fun _ => hp) (fun z => ?_)
  rcases h with h | h
  · exact absurd h z
  · exact br_t h hp
theorem ya_bp {i : Nat} (h : i < 16) (hp : post 0) : wpY_badPlace post (c, d, g) (nI i) :=
  br_f (nI_pos (by omega)) (br_t (nI_le (b := 15) (by omega) (by decide)) hp)
theorem ya_bp_n {x : Int32} (h : x < 0 ∨ nI 16 ≤ x) (hp : post 1) : wpY_badPlace post (c, d, g) x := by
  refine br_c (fun _ => hp) (fun z => ?_)
  rcases h with h | h
  · exact absurd h z
  · refine br_f (fun w => ?_) hp
    obtain ⟨m, hm, rfl⟩ := nI_of z
    rw [nI_leI (by decide) hm] at h
    have w' : nI m ≤ nI 15 := w
    rw [nI_leI hm (by decide)] at w'
    omega
end
end
section
/-! the component's methods against the picture -/
theorem ra_tqE {xs ys zs ws g : Nat → Int32} {t b : Nat} (h : ra_tq xs ys zs ws g t b) :
    (xs (3 * t) = g b ∧ ys (3 * t) = g (b + 1) ∧ zs (3 * t) = g (b + 2) ∧ ws (3 * t) = g (b + 3)) ∧
    (xs (3 * t + 1) = g (b + 4) ∧ ys (3 * t + 1) = g (b + 5) ∧ zs (3 * t + 1) = g (b + 6) ∧ ws (3 * t + 1) = g (b + 7)) ∧
    (xs (3 * t + 2) = g (b + 8) ∧ ys (3 * t + 2) = g (b + 9) ∧ zs (3 * t + 2) = g (b + 10) ∧ ws (3 * t + 2) = g (b + 11)) :=
  ⟨h 0 (by decide), h 1 (by decide), h 2 (by decide)⟩
section
variable {post : Int32 → Prop} {c : Int32} {xs ys zs ws g : Nat → Int32}
theorem xa_det (m n : Nat) {x y w : Int32} (hm : m < 33) (hn : n < 33) (hp : post (ra_dt x y w (xs m) (ys m) (ws m) (xs n) (ys n) (ws n))) :
    wpX_determinant post (c, xs, ys, zs, ws) x y w (nI m) (nI n) := by
  have em : (nI m).toNatClampNeg = m := nI_clamp (by omega)
  have en : (nI n).toNatClampNeg = n := nI_clamp (by omega)
  have im : vp_in (nI m) 33 := vp_in_nI hm (by decide)
  have jn : vp_in (nI n) 33 := vp_in_nI hn (by decide)
  unfold wpX_determinant
  dsimp only
  rw [em, en]
  exact ⟨im, jn, jn, im, im, jn, jn, im, im, jn, jn, im, hp⟩
theorem xa_vol (t b : Nat) (ht : t < 11) (h : ra_tq xs ys zs ws g t b) (hp : post (ra_V g b)) : wpX_volumeOf post (c, xs, ys, zs, ws) (nI t) := by
  have e : (nI (3 * t)).toNatClampNeg = 3 * t := nI_clamp (by omega)
  have i0 : vp_in (nI (3 * t)) 33 := vp_in_nI (by omega) (by decide)
  have e2 : nI (3 * t) + 2 = nI (3 * t + 2) := nI_add (3 * t) 2
  obtain ⟨⟨a0, a1, a2, a3⟩, ⟨b0, b1, b2, b3⟩, c0, c1, c2, c3⟩ := ra_tqE h
  unfold wpX_volumeOf
  dsimp only
  refine nm_r (ra_t3 t) ?_
  rw [e, nI_1, e2]
  refine ⟨i0, i0, i0, ?_⟩
  refine xa_det (3 * t + 1) (3 * t + 2) (by omega) (by omega) ?_
  rw [a0, a1, a3, b0, b1, b3, c0, c1, c3]
  exact hp
theorem xa_siz (t b : Nat) (ht : t < 11) (h : ra_tq xs ys zs ws g t b) (hp : post (ra_sz g b)) : wpX_sizeOf post (c, xs, ys, zs, ws) (nI t) := by
  unfold wpX_sizeOf
  dsimp only
  refine xa_vol t b ht h ?_
  exact ra_sgb (post := post) hp
/-- one corner's turn of the loop -/
theorem xa_sd_s (t k a q n : Nat) {s V px py z D e : Int32} (ht : t < 11) (hk : k < 3) (ha : a < 3) (hq : q < 3) (e1 : (nI k + 1) - (nI k + 1) / 3 * 3 = nI a) (e2 : (nI k + 2) - (nI k + 2) / 3 * 3 = nI q)
    (hD : ra_dt px py 16 (xs (3 * t + a)) (ys (3 * t + a)) (ws (3 * t + a)) (xs (3 * t + q)) (ys (3 * t + q)) (ws (3 * t + q)) = D) (he : s * D = e)
    (h1 : 0 ≤ e → wX_scaledDepth_53 post V s px py (nI (3 * t)) c xs ys zs ws n (z + e * zs (3 * t + k)) (nI (k + 1))) (h0 : ¬ 0 ≤ e → post (-1)) :
    wX_scaledDepth_53 post V s px py (nI (3 * t)) c xs ys zs ws (n + 1) z (nI k) := by
  have k3 : ¬ (3 : Int32) ≤ nI k := nI_ge (b := 3) hk (by decide)
  have n3 : ¬ (3 : Int32) = 0 := by decide
  have f1 : nI (3 * t) + ((nI k + 1) - (nI k + 1) / 3 * 3) = nI (3 * t + a) := by rw [e1, nI_add]
  have f2 : nI (3 * t) + ((nI k + 2) - (nI k + 2) / 3 * 3) = nI (3 * t + q) := by rw [e2, nI_add]
  refine br_f k3 ⟨n3, nm_r f1 ⟨n3, nm_r f2 ?_⟩⟩
  refine xa_det (3 * t + a) (3 * t + q) (by omega) (by omega) ?_
  refine nm_r (e' := e) (by rw [hD, he]) ?_
  refine br_c (fun z0 => ?_) h0
  rw [nI_add, nI_clamp (by omega)]
  exact ⟨vp_in_nI (by omega) (by decide), nm_e (nm_r (nI_1 k) (h1 z0))⟩
theorem xa_sd24 (t b : Nat) {s i j : Int32} (ht : t < 11) (h : ra_tq xs ys zs ws g t b) (hs : ∀ v, s * v = ra_sg (ra_V g b) v) (hs2 : 16 * s * ra_V g b = 16 * ra_sz g b) (hV : ¬ ra_V g b = 0)
    (h1 : ra_cb g b (2 * i - 15) (2 * j - 15) = true → post (ra_tp g b (2 * i - 15) (2 * j - 15))) (h0 : ¬ ra_cb g b (2 * i - 15) (2 * j - 15) = true → post (-1)) :
    wX_scaledDepth_24 post (nI t) i j (ra_V g b) s c xs ys zs ws := by
  rw [ra_cb_iff] at h1 h0
  obtain ⟨⟨a0, a1, a2, a3⟩, ⟨b0, b1, b2, b3⟩, c0, c1, c2, c3⟩ := ra_tqE h
  unfold wX_scaledDepth_24
  refine nm_e (nm_e (nm_r (ra_t3 t) ⟨4, ?_⟩))
  refine xa_sd_s t 0 1 2 3 (e := ra_e0 g b (2 * i - 15) (2 * j - 15)) ht (by decide) (by decide) (by decide) (by decide) (by decide) (by rw [b0, b1, b3, c0, c1, c3]) (hs _) (fun p0 => ?_) (fun p0 => h0 (fun a => p0 (Int32.not_lt.mp a.2.1)))
  refine xa_sd_s t 1 2 0 2 (e := ra_e1 g b (2 * i - 15) (2 * j - 15)) ht (by decide) (by decide) (by decide) (by decide) (by decide) (by rw [Nat.add_zero (3 * t), a0, a1, a3, c0, c1, c3, ra_rot]) (hs _) (fun p1 => ?_) (fun p1 => h0 (fun a => p1 (Int32.not_lt.mp a.2.2.1)))
  refine xa_sd_s t 2 0 1 1 (e := ra_e2 g b (2 * i - 15) (2 * j - 15)) ht (by decide) (by decide) (by decide) (by decide) (by decide) (by rw [Nat.add_zero (3 * t), a0, a1, a3, b0, b1, b3, ra_rot, ra_rot]) (hs _) (fun p2 => ?_) (fun p2 => h0 (fun a => p2 (Int32.not_lt.mp a.2.2.2.1)))
  have et : 0 + ra_e0 g b (2 * i - 15) (2 * j - 15) * zs (3 * t + 0) + ra_e1 g b (2 * i - 15) (2 * j - 15) * zs (3 * t + 1) + ra_e2 g b (2 * i - 15) (2 * j - 15) * zs (3 * t + 2) = ra_tp g b (2 * i - 15) (2 * j - 15) := by
    rw [Nat.add_zero (3 * t), a2, b2, c2]
    rfl
  rw [et]
  refine br_t (by decide) ?_
  rw [hs2]
  refine br_c (fun p3 => h0 (fun a => a.2.2.2.2.1 p3)) (fun p3 => br_c (fun p4 => ?_) (fun p4 => h0 (fun a => p4 a.2.2.2.2.2)))
  exact h1 ⟨hV, Int32.not_lt.mpr p0, Int32.not_lt.mpr p1, Int32.not_lt.mpr p2, p3, p4⟩
theorem xa_sd (t b : Nat) {i j : Int32} (ht : t < 11) (h : ra_tq xs ys zs ws g t b)
    (h1 : ra_cb g b (2 * i - 15) (2 * j - 15) = true → post (ra_tp g b (2 * i - 15) (2 * j - 15))) (h0 : ¬ ra_cb g b (2 * i - 15) (2 * j - 15) = true → post (-1)) :
    wpX_scaledDepth post (c, xs, ys, zs, ws) (nI t) i j := by
  unfold wpX_scaledDepth
  dsimp only
  refine xa_vol t b ht h ?_
  refine br_c (fun z => h0 ?_) (fun z => br_c (fun p => ?_) (fun p => ?_))
  · rw [ra_cb_iff]
    exact fun a => a.1 z
  · refine xa_sd24 t b ht h (fun v => ?_) ?_ z h1 h0
    · rw [ra_sg_p v (Int32.not_lt.mpr p)]
      exact Int32.one_mul v
    · unfold ra_sz
      rw [ra_sg_p _ (Int32.not_lt.mpr p)]
      exact ra_16p _
  · refine xa_sd24 t b ht h (fun v => ?_) ?_ z h1 h0
    · rw [ra_sg_n v (Int32.not_le.mp p)]
      exact ra_m1 v
    · unfold ra_sz
      rw [ra_sg_n _ (Int32.not_le.mp p)]
      exact ra_16n _
theorem xa_ls {b a : Nat} {px py : Int32} (hb : ra_ok g b) (ha : ra_ok g a) (cb : ra_cb g b px py = true) (ca : ra_cb g a px py = true)
    (h1 : ra_lb g b a px py = true → post 1) (h0 : ¬ ra_lb g b a px py = true → post 0) :
    wpX_isLess post (ra_tp g b px py) (ra_sz g b) (ra_tp g a px py) (ra_sz g a) := by
  rw [← ra_lb_x hb ha cb ca] at h1 h0
  exact br_c (fun z => h0 (Int64.not_lt.mpr z)) (fun z => h1 (Int64.not_le.mp z))
/-! the owner -/
theorem ra_iv_an {g : Nat → Int32} {px py B D S : Int32} {t : Nat} (h : ra_iv g px py t B D S) : B = ra_an (-2) (ra_ow g px py t) := by
  rcases h with ⟨h, e⟩ | ⟨b, h, e, _, _⟩
  · rw [h, e]; rfl
  · rw [h, e]; rfl
theorem ra_nm2 {b : Nat} (h : b < 2 ^ 31) : ¬ nI b = -2 := by
  intro e
  have := nI_pos h
  rw [e] at this
  exact this (by decide)
theorem ra_nm1 {b : Nat} (h : b < 2 ^ 31) : ¬ nI b = -1 := by
  intro e
  have := nI_pos h
  rw [e] at this
  exact this (by decide)
theorem xa_ow_l {N : Nat} {i j : Int32} (hN : N ≤ 10) (al : ra_al xs ys zs ws g N) (hp : post (ra_an (-2) (ra_ow g (2 * i - 15) (2 * j - 15) N))) :
    ∀ n t B D S, t ≤ N → N - t < n → ra_iv g (2 * i - 15) (2 * j - 15) t B D S → wX_ownerAt_12 post i j (nI N) xs ys zs ws n B D S (nI t) := by
  intro n
  induction n with
  | zero => intro t B D S h1 h2; omega
  | succ n ih =>
    intro t B D S h1 h2 hv
    by_cases e : t = N
    · subst e
      refine br_t (nI_le (Nat.le_refl t) (by omega)) ?_
      rw [ra_iv_an hv]
      exact hp
    · obtain ⟨tq, ok⟩ := al t (by omega)
      refine br_f (nI_ge (by omega) (by omega)) ?_
      refine xa_sd t (12 * t) (by omega) tq (fun ct => ?_) (fun ct => ?_)
      · refine br_f (ra_tp_m1 ct) ?_
        refine xa_siz t (12 * t) (by omega) tq ?_
        rcases hv with ⟨h, eB⟩ | ⟨b, h, eB, eD, eS⟩
        · refine br_t eB (nm_r (nI_1 t) ?_)
          exact ih (t + 1) _ _ _ (by omega) (by omega) (Or.inr ⟨t, ra_ow_0 ct h, rfl, rfl, rfl⟩)
        · have hb := ra_ow_b h
          subst eB
          subst eD
          subst eS
          refine br_f (ra_nm2 (by omega)) ?_
          refine xa_ls ok (al b (by omega)).2 ct hb.2 (fun l => ?_) (fun l => ?_)
          · refine br_f (by decide) (nm_r (nI_1 t) ?_)
            exact ih (t + 1) _ _ _ (by omega) (by omega) (Or.inr ⟨t, ra_ow_1 ct h l, rfl, rfl, rfl⟩)
          · refine br_t rfl (nm_r (nI_1 t) ?_)
            exact ih (t + 1) _ _ _ (by omega) (by omega) (Or.inr ⟨b, ra_ow_2 ct h l, rfl, rfl, rfl⟩)
      · refine br_t rfl (nm_r (nI_1 t) ?_)
        refine ih (t + 1) B D S (by omega) (by omega) ?_
        unfold ra_iv
        rw [ra_ow_n ct]
        exact hv
theorem xa_ow {N : Nat} {i j : Int32} (hN : N ≤ 10) (al : ra_al xs ys zs ws g N) (hp : post (ra_an (-2) (ra_ow g (2 * i - 15) (2 * j - 15) N))) :
    wpX_ownerAt post (nI N, xs, ys, zs, ws) i j := by
  unfold wpX_ownerAt
  dsimp only
  exact ⟨N + 1, xa_ow_l hN al hp (N + 1) 0 (-2) 0 0 (by omega) (by omega) (Or.inl ⟨rfl, rfl⟩)⟩
/-! refusals -/
theorem xa_dr {N t : Nat} (hN : N ≤ 10) (ht : t < N) (hp : post 1) : wpX_isDrawn post (nI N, xs, ys, zs, ws) (nI t) :=
  br_f (nI_pos (by omega)) (br_f (nI_ge ht (by omega)) hp)
theorem xa_dr_n {N : Nat} {x : Int32} (h : x < 0 ∨ nI N ≤ x) (hp : post 0) : wpX_isDrawn post (nI N, xs, ys, zs, ws) x := by
  refine br_c (fun _ => hp) (fun z => ?_)
  rcases h with h | h
  · exact absurd h z
  · exact br_t h hp
theorem xa_wi {i : Nat} (h : i < 16) (hp : post 1) : wpX_isInWindow post (nI i) :=
  br_f (nI_pos (by omega)) (br_f (nI_ge (b := 16) h (by decide)) hp)
theorem xa_wi_n {x : Int32} (h : x < 0 ∨ nI 16 ≤ x) (hp : post 0) : wpX_isInWindow post x := by
  refine br_c (fun _ => hp) (fun z => ?_)
  rcases h with h | h
  · exact absurd h z
  · exact br_t h hp
theorem xa_pi {i j : Nat} (hi : i < 16) (hj : j < 16) (hp : post 1) : wpX_isPixel post (nI i) (nI j) := by
  unfold wpX_isPixel
  refine xa_wi hi (br_f (by decide) ?_)
  exact xa_wi hj (br_f (by decide) hp)
theorem xa_pi_n0 {x y : Int32} (h : x < 0 ∨ nI 16 ≤ x) (hp : post 0) : wpX_isPixel post x y := by
  unfold wpX_isPixel
  exact xa_wi_n h (br_t rfl hp)
theorem xa_pi_n1 {i : Nat} {y : Int32} (hi : i < 16) (h : y < 0 ∨ nI 16 ≤ y) (hp : post 0) : wpX_isPixel post (nI i) y := by
  unfold wpX_isPixel
  refine xa_wi hi (br_f (by decide) ?_)
  exact xa_wi_n h (br_t rfl hp)
end
end
section
/-! the loops of the public methods -/
section
variable {c : Int32} {xs ys zs ws g : Nat → Int32}
theorem xa_cp_s {post : SX → Prop} (f t k n : Nat) {a0 a1 a2 a3 : Nat → Int32} (hf : f < 11) (ht : t < 11) (hk : k < 3)
    (h : wX_copyTriangle_2 post (nI f) (nI t) c n (nI (k + 1)) (upd a0 (3 * t + k) (a0 (3 * f + k))) (upd a1 (3 * t + k) (a1 (3 * f + k))) (upd a2 (3 * t + k) (a2 (3 * f + k))) (upd a3 (3 * t + k) (a3 (3 * f + k)))) :
    wX_copyTriangle_2 post (nI f) (nI t) c (n + 1) (nI k) a0 a1 a2 a3 := by
  have k3 : ¬ (3 : Int32) ≤ nI k := nI_ge (b := 3) hk (by decide)
  have e1 : nI f * 3 + nI k = nI (3 * f + k) := by rw [ra_t3, nI_add]
  have e2 : nI t * 3 + nI k = nI (3 * t + k) := by rw [ra_t3, nI_add]
  have i1 : vp_in (nI (3 * f + k)) 33 := vp_in_nI (by omega) (by decide)
  have i2 : vp_in (nI (3 * t + k)) 33 := vp_in_nI (by omega) (by decide)
  refine br_f k3 (nm_r e1 (nm_r e2 ?_))
  rw [nI_clamp (n := 3 * f + k) (by omega), nI_clamp (n := 3 * t + k) (by omega)]
  exact ⟨i1, i2, nm_e ⟨i1, i2, nm_e ⟨i1, i2, nm_e ⟨i1, i2, nm_e (nm_r (nI_1 k) h)⟩⟩⟩⟩
theorem xa_cp {post : SX → Prop} (f t : Nat) (hf : f < 11) (ht : t < 11) (hft : f ≠ t)
    (hp : ∀ xs' ys' zs' ws', ra_cp xs xs' f t → ra_cp ys ys' f t → ra_cp zs zs' f t → ra_cp ws ws' f t → post (c, xs', ys', zs', ws')) :
    wpX_copyTriangle post (c, xs, ys, zs, ws) (nI f) (nI t) := by
  unfold wpX_copyTriangle
  dsimp only
  refine ⟨4, ?_⟩
  refine xa_cp_s f t 0 3 hf ht (by decide) ?_
  refine xa_cp_s f t 1 2 hf ht (by decide) ?_
  refine xa_cp_s f t 2 1 hf ht (by decide) ?_
  refine br_t (by decide) (hp _ _ _ _ ?_ ?_ ?_ ?_)
  · exact ra_cqS (ra_cqS (ra_cqS (ra_cq0 xs f t) (by decide) hft) (by decide) hft) (by decide) hft
  · exact ra_cqS (ra_cqS (ra_cqS (ra_cq0 ys f t) (by decide) hft) (by decide) hft) (by decide) hft
  · exact ra_cqS (ra_cqS (ra_cqS (ra_cq0 zs f t) (by decide) hft) (by decide) hft) (by decide) hft
  · exact ra_cqS (ra_cqS (ra_cqS (ra_cq0 ws f t) (by decide) hft) (by decide) hft) (by decide) hft
/-! draw -/
theorem xa_d51 {post : Int32 → SX → Prop} (N : Nat) (hN : N < 10)
    (hp : ∀ xs' ys' zs' ws', ra_cp xs xs' 10 N → ra_cp ys ys' 10 N → ra_cp zs zs' 10 N → ra_cp ws ws' 10 N → post (nI N) (nI (N + 1), xs', ys', zs', ws')) :
    wX_draw_51 post (nI N) xs ys zs ws := by
  unfold wX_draw_51
  refine xa_cp 10 N (by decide) (by omega) (by omega) (fun xs' ys' zs' ws' h0 h1 h2 h3 => ?_)
  refine nm_r (nI_1 N) ?_
  rw [nI_pred]
  exact hp xs' ys' zs' ws' h0 h1 h2 h3
theorem ya_drl {post : Int32 → SY → Prop} {d : Nat → Int32} (N : Nat) (hN : N < 10)
    (hp : ∀ g', (∀ m, m < 12 → g' (12 * N + m) = d m) → (∀ m, m < 12 * N → g' m = g m) → post (nI N) (nI (N + 1), d, g')) :
    ∀ n i a, i ≤ 12 → 12 - i < n → (∀ m, m < i → a (12 * N + m) = d m) → (∀ m, m < 12 * N → a m = g m) → wY_draw_57 post (nI N) (nI N) n (nI i) d a := by
  intro n
  induction n with
  | zero => intro i a h1 h2; omega
  | succ n ih =>
    intro i a h1 h2 ha hb
    by_cases e : i = 12
    · subst e
      exact br_t (by decide) (nm_r (nI_1 N) (hp a ha hb))
    · have e12 : ¬ (12 : Int32) ≤ nI i := nI_ge (b := 12) (by omega) (by decide)
      have e2 : 12 * nI N + nI i = nI (12 * N + i) := by
        show nI 12 * nI N + nI i = _
        rw [pk_mul, nI_add]
      refine br_f e12 ?_
      rw [e2, nI_clamp (n := 12 * N + i) (by omega), nI_clamp (n := i) (by omega)]
      refine ⟨vp_in_nI (by omega) (by decide), vp_in_nI (by omega) (by decide), nm_e (nm_r (nI_1 i) ?_)⟩
      refine ih (i + 1) _ (by omega) (by omega) (fun m hm => ?_) (fun m hm => ?_)
      · by_cases z : m = i
        · subst z
          exact pk_us
        · rw [pk_un (by omega)]
          exact ha m (by omega)
      · rw [pk_un (by omega)]
        exact hb m hm
/-! remove -/
theorem xa_rml {post : Int32 → SX → Prop} (N r : Nat) (hN : N < 10)
    (hp : ∀ xs' ys' zs' ws', ra_sh xs xs' r N → ra_sh ys ys' r N → ra_sh zs zs' r N → ra_sh ws ws' r N → post (nI N) (nI N, xs', ys', zs', ws')) :
    ∀ n q a0 a1 a2 a3, r ≤ q → q ≤ N → N - q < n → ra_sh xs a0 r q → ra_sh ys a1 r q → ra_sh zs a2 r q → ra_sh ws a3 r q → wX_remove_14 post n (nI (q + 1)) (nI (N + 1)) a0 a1 a2 a3 := by
  intro n
  induction n with
  | zero => intro q a0 a1 a2 a3 h1 h2 h3; omega
  | succ n ih =>
    intro q a0 a1 a2 a3 hr h1 h2 s0 s1 s2 s3
    by_cases e : q = N
    · subst e
      exact br_t (nI_le (Nat.le_refl _) (by omega)) (nm_r (nI_pred q) (hp a0 a1 a2 a3 s0 s1 s2 s3))
    · refine br_f (nI_ge (by omega) (by omega)) ?_
      rw [nI_pred]
      refine xa_cp (q + 1) q (by omega) (by omega) (by omega) (fun b0 b1 b2 b3 c0 c1 c2 c3 => ?_)
      refine nm_r (nI_1 (q + 1)) ?_
      exact ih (q + 1) b0 b1 b2 b3 (by omega) (by omega) (by omega) (ra_shS s0 hr c0) (ra_shS s1 hr c1) (ra_shS s2 hr c2) (ra_shS s3 hr c3)
theorem ya_rml {post : Int32 → SY → Prop} {d : Nat → Int32} (N r : Nat)
    (hp : ∀ g', (∀ m, 12 * r ≤ m → m < 108 → g' m = g (m + 12)) → (∀ m, m < 12 * r → g' m = g m) → post (nI N) (nI N, d, g')) :
    ∀ n i a, 12 * r ≤ i → i ≤ 108 → 108 - i < n → (∀ m, 12 * r ≤ m → m < i → a m = g (m + 12)) → (∀ m, (m < 12 * r ∨ i ≤ m) → a m = g m) → wY_remove_15 post (nI (N + 1)) n (nI i) d a := by
  intro n
  induction n with
  | zero => intro i a h0 h1 h2; omega
  | succ n ih =>
    intro i a h0 h1 h2 ha hb
    by_cases e : i = 108
    · subst e
      exact br_t (by decide) (nm_r (nI_pred N) (hp a ha (fun m hm => hb m (Or.inl hm))))
    · have e108 : ¬ (108 : Int32) ≤ nI i := nI_ge (b := 108) (by omega) (by decide)
      have e2 : nI i + 12 = nI (i + 12) := nI_add i 12
      refine br_f e108 ?_
      rw [e2, nI_clamp (n := i + 12) (by omega), nI_clamp (n := i) (by omega)]
      refine ⟨vp_in_nI (by omega) (by decide), vp_in_nI (by omega) (by decide), nm_e (nm_r (nI_1 i) ?_)⟩
      refine ih (i + 1) _ (by omega) (by omega) (by omega) (fun m hm hm2 => ?_) (fun m hm => ?_)
      · by_cases z : m = i
        · subst z
          rw [pk_us]
          exact hb _ (Or.inr (by omega))
        · rw [pk_un z]
          exact ha m hm (by omega)
      · rw [pk_un (by omega)]
        exact hb m (by omega)
end
/-! the words for an owner -/
theorem ra_an_i {e : Int32} {o : Option Nat} {r : Nat} (hr : r < 2 ^ 31) (he : ¬ nI r = e) (hb : ∀ b, o = some b → b < 2 ^ 31) : ra_an e o = nI r ↔ o = some r := by
  cases o with
  | none => exact ⟨fun h => absurd h.symm he, fun h => nomatch h⟩
  | some b =>
    show nI b = nI r ↔ _
    rw [nI_eq (hb b rfl) hr]
    exact ⟨fun h => by rw [h], fun h => by cases h; rfl⟩
theorem ra_ow_l {g : Nat → Int32} {px py : Int32} {N : Nat} (hN : N ≤ 10) (b : Nat) (h : ra_ow g px py N = some b) : b < 2 ^ 31 := by
  have := (ra_ow_b h).1
  omega
theorem ra_an_2 {o : Option Nat} (hb : ∀ b, o = some b → b < 2 ^ 31) : ra_an (-2) o = -2 ↔ ¬ o.isSome = true := by
  cases o with
  | none => exact ⟨(fun _ h => nomatch h), fun _ => rfl⟩
  | some b => exact ⟨fun h => absurd h (ra_nm2 (hb b rfl)), fun h => absurd rfl h⟩
theorem ra_an_1 {o : Option Nat} (hb : ∀ b, o = some b → b < 2 ^ 31) : ra_an (-1) o < 0 ↔ ¬ o.isSome = true := by
  cases o with
  | none => exact ⟨(fun _ h => nomatch h), fun _ => by decide⟩
  | some b => exact ⟨fun h => absurd h (nI_pos (hb b rfl)), fun h => absurd rfl h⟩
theorem ra_outer (W : Nat → Nat → Nat → Prop) (f : Nat → Nat) (hx : ∀ n, W (n + 1) 16 (f 256)) (hs : ∀ n j, j < 16 → W n (j + 1) (f (16 * (j + 1))) → W (n + 1) j (f (16 * j))) : W 17 0 (f 0) := by
  have H : ∀ d j, j + d = 16 → W (d + 1) j (f (16 * j)) := by
    intro d
    induction d with
    | zero =>
      intro j hj
      have e : j = 16 := by omega
      subst e
      exact hx 0
    | succ d ih =>
      intro j hj
      exact hs (d + 1) j (by omega) (ih (j + 1) (by omega))
  exact H 16 0 rfl
theorem ra_rem16 {a : Nat} (h : a < 256) : nI a - nI a / 16 * 16 = nI (a % 16) := pk_rem (d := 16) (by omega) (by decide) (by decide)
theorem ra_div16 {a : Nat} (h : a < 256) : nI a / 16 = nI (a / 16) := pk_div (d := 16) (by omega) (by decide) (by decide)
section
variable {post : Int32 → Prop} {xs ys zs ws d g : Nat → Int32}
theorem xa_owned {N r : Nat} (hN : N ≤ 10) (hr : r < N) (al : ra_al xs ys zs ws g N) (hp : post (nI (ra_ct (fun a => decide (ra_po g N a = some r)) 256))) :
    wX_owned_14 post (nI r) (nI N) xs ys zs ws 257 0 0 := by
  refine ra_loop (fun n a q => wX_owned_14 post (nI r) (nI N) xs ys zs ws n (nI q) (nI a)) _ _ 256 (ra_ct_s (fun a => decide (ra_po g N a = some r))) (fun n => ?_) (fun n a q ha h1 h0 => ?_) 257 0 (by decide) (by decide)
  · exact br_t (by decide) hp
  · have e256 : ¬ (256 : Int32) ≤ nI a := nI_ge (b := 256) ha (by decide)
    have n16 : ¬ (16 : Int32) = 0 := by decide
    refine br_f e256 ⟨n16, n16, ?_⟩
    rw [ra_rem16 ha, ra_div16 ha]
    refine xa_ow hN al ?_
    have an := ra_an_i (e := -2) (o := ra_po g N a) (r := r) (by omega) (ra_nm2 (by omega)) (fun b h => ra_ow_l hN b h)
    refine br_c (fun z => nm_r (nI_1 q) (nm_r (nI_1 a) (h1 (decide_eq_true (an.mp z))))) (fun z => nm_r (nI_1 a) (h0 (fun y => z (an.mpr (of_decide_eq_true y)))))
theorem xa_lit {N : Nat} (hN : N ≤ 10) (al : ra_al xs ys zs ws g N) (hp : post (nI (ra_ct (fun a => (ra_po g N a).isSome) 256))) :
    wX_lit_4 post (nI N) xs ys zs ws 257 0 0 := by
  refine ra_loop (fun n a q => wX_lit_4 post (nI N) xs ys zs ws n (nI q) (nI a)) _ _ 256 (ra_ct_s (fun a => (ra_po g N a).isSome)) (fun n => ?_) (fun n a q ha h1 h0 => ?_) 257 0 (by decide) (by decide)
  · exact br_t (by decide) hp
  · have e256 : ¬ (256 : Int32) ≤ nI a := nI_ge (b := 256) ha (by decide)
    have n16 : ¬ (16 : Int32) = 0 := by decide
    refine br_f e256 ⟨n16, n16, ?_⟩
    rw [ra_rem16 ha, ra_div16 ha]
    refine xa_ow hN al ?_
    have an := ra_an_2 (o := ra_po g N a) (fun b h => ra_ow_l hN b h)
    refine br_c (fun z => nm_r (nI_1 a) (h0 (an.mp z))) (fun z => nm_r (nI_1 q) (nm_r (nI_1 a) (h1 (Decidable.of_not_not (fun y => z (an.mpr y))))))
theorem xa_covered {N r : Nat} (hN : N ≤ 10) (hr : r < N) (al : ra_al xs ys zs ws g N) (hp : post (nI (ra_ct (ra_pc g r) 256))) :
    wX_covered_14 post (nI r) (nI N) xs ys zs ws 257 0 0 := by
  refine ra_loop (fun n a q => wX_covered_14 post (nI r) (nI N) xs ys zs ws n (nI q) (nI a)) _ _ 256 (ra_ct_s (ra_pc g r)) (fun n => ?_) (fun n a q ha h1 h0 => ?_) 257 0 (by decide) (by decide)
  · exact br_t (by decide) hp
  · have e256 : ¬ (256 : Int32) ≤ nI a := nI_ge (b := 256) ha (by decide)
    have n16 : ¬ (16 : Int32) = 0 := by decide
    refine br_f e256 ⟨n16, n16, ?_⟩
    rw [ra_rem16 ha, ra_div16 ha]
    refine xa_sd r (12 * r) (by omega) (al r hr).1 (fun z => ?_) (fun z => ?_)
    · exact br_f (ra_tp_m1 z) (nm_r (nI_1 q) (nm_r (nI_1 a) (h1 z)))
    · exact br_t rfl (nm_r (nI_1 a) (h0 z))
/-! the reference counts by rows -/
theorem ya_owned {N r : Nat} (hN : N ≤ 10) (hr : r < N) (ok : ∀ t, t < N → ra_ok g (12 * t)) (hp : post (nI (ra_ct (fun a => decide (ra_po g N a = some r)) 256))) :
    wY_owned_14 post (nI r) (nI N) d g 17 0 0 := by
  refine ra_outer (fun n j q => wY_owned_14 post (nI r) (nI N) d g n (nI q) (nI j)) (ra_ct (fun a => decide (ra_po g N a = some r))) (fun n => ?_) (fun n j hj hn => ?_)
  · exact br_t (by decide) hp
  · have e16 : ¬ (16 : Int32) ≤ nI j := nI_ge (b := 16) hj (by decide)
    refine br_f e16 ⟨17, ?_⟩
    refine ra_loop (fun n' i q => wY_owned_23 post (wY_owned_14 post (nI r) (nI N) d g n) (nI r) (nI j) (nI N) d g n' (nI q) (nI i)) (fun i => ra_ct (fun a => decide (ra_po g N a = some r)) (16 * j + i))
      (fun i => decide (ra_po g N (16 * j + i) = some r)) 16 (fun a => ra_ct_s (fun a => decide (ra_po g N a = some r)) (16 * j + a)) (fun n' => ?_) (fun n' i q hi h1 h0 => ?_) 17 0 (by decide) (by decide)
    · exact br_t (by decide) (nm_r (nI_1 j) hn)
    · have f16 : ¬ (16 : Int32) ≤ nI i := nI_ge (b := 16) hi (by decide)
      refine br_f f16 ?_
      refine ya_ow hN ok ?_
      have an := ra_an_i (e := -1) (o := ra_ow g (ra_px i) (ra_px j) N) (r := r) (by omega) (ra_nm1 (by omega)) (fun b h => ra_ow_l hN b h)
      have pe := ra_po_e g N (j := j) hi
      refine br_c (fun z => nm_r (nI_1 q) (nm_r (nI_1 i) (h1 (decide_eq_true (pe.trans (an.mp z)))))) (fun z => nm_r (nI_1 i) (h0 (fun y => z (an.mpr (pe.symm.trans (of_decide_eq_true y))))))
theorem ya_lit {N : Nat} (hN : N ≤ 10) (ok : ∀ t, t < N → ra_ok g (12 * t)) (hp : post (nI (ra_ct (fun a => (ra_po g N a).isSome) 256))) :
    wY_lit_4 post (nI N) d g 17 0 0 := by
  refine ra_outer (fun n j q => wY_lit_4 post (nI N) d g n (nI q) (nI j)) (ra_ct (fun a => (ra_po g N a).isSome)) (fun n => ?_) (fun n j hj hn => ?_)
  · exact br_t (by decide) hp
  · have e16 : ¬ (16 : Int32) ≤ nI j := nI_ge (b := 16) hj (by decide)
    refine br_f e16 ⟨17, ?_⟩
    refine ra_loop (fun n' i q => wY_lit_12 post (wY_lit_4 post (nI N) d g n) (nI j) (nI N) d g n' (nI q) (nI i)) (fun i => ra_ct (fun a => (ra_po g N a).isSome) (16 * j + i))
      (fun i => (ra_po g N (16 * j + i)).isSome) 16 (fun a => ra_ct_s (fun a => (ra_po g N a).isSome) (16 * j + a)) (fun n' => ?_) (fun n' i q hi h1 h0 => ?_) 17 0 (by decide) (by decide)
    · exact br_t (by decide) (nm_r (nI_1 j) hn)
    · have f16 : ¬ (16 : Int32) ≤ nI i := nI_ge (b := 16) hi (by decide)
      refine br_f f16 ?_
      refine ya_ow hN ok ?_
      have an := ra_an_1 (o := ra_ow g (ra_px i) (ra_px j) N) (fun b h => ra_ow_l hN b h)
      have pe := ra_po_e g N (j := j) hi
      rw [pe] at h1 h0
      refine br_c (fun z => nm_r (nI_1 i) (h0 (an.mp z))) (fun z => nm_r (nI_1 q) (nm_r (nI_1 i) (h1 (Decidable.of_not_not (fun y => z (an.mpr y))))))
theorem ya_covered {N r : Nat} (hN : N ≤ 10) (hr : r < N) (ok : ∀ t, t < N → ra_ok g (12 * t)) (hp : post (nI (ra_ct (ra_pc g r) 256))) :
    wY_covered_14 post (nI r) (nI N) d g 17 0 0 := by
  refine ra_outer (fun n j q => wY_covered_14 post (nI r) (nI N) d g n (nI q) (nI j)) (ra_ct (ra_pc g r)) (fun n => ?_) (fun n j hj hn => ?_)
  · exact br_t (by decide) hp
  · have e16 : ¬ (16 : Int32) ≤ nI j := nI_ge (b := 16) hj (by decide)
    refine br_f e16 ⟨17, ?_⟩
    refine ra_loop (fun n' i q => wY_covered_23 post (wY_covered_14 post (nI r) (nI N) d g n) (nI r) (nI j) (nI N) d g n' (nI q) (nI i)) (fun i => ra_ct (ra_pc g r) (16 * j + i))
      (fun i => ra_pc g r (16 * j + i)) 16 (fun a => ra_ct_s (ra_pc g r) (16 * j + a)) (fun n' => ?_) (fun n' i q hi h1 h0 => ?_) 17 0 (by decide) (by decide)
    · exact br_t (by decide) (nm_r (nI_1 j) hn)
    · have f16 : ¬ (16 : Int32) ≤ nI i := nI_ge (b := 16) hi (by decide)
      have pe := ra_pc_e g r (j := j) hi
      rw [pe] at h1 h0
      refine br_f f16 ?_
      refine ya_cov r (by omega) (ok r hr) (fun z => ?_) (fun z => ?_)
      · exact br_f (by decide) (nm_r (nI_1 q) (nm_r (nI_1 i) (h1 z)))
      · exact br_t rfl (nm_r (nI_1 i) (h0 z))
end
/-! firstIn, lastIn: one answer for both walks -/
theorem xy_first {xs ys zs ws d g : Nat → Int32} {N r j : Nat} (hN : N ≤ 10) (hr : r < N) (al : ra_al xs ys zs ws g N) : ∀ f i : Nat, i + f = 16 →
    ∃ a : Int32, (∀ post : Int32 → Prop, post a → wX_firstIn_22 post (nI r) (nI j) (nI N) xs ys zs ws (f + 1) (nI i)) ∧ (∀ post : Int32 → Prop, post a → wY_firstIn_23 post (nI r) (nI j) (nI N) d g (f + 1) (nI i)) := by
  intro f
  induction f with
  | zero =>
    intro i hi
    have e : (16 : Int32) ≤ nI i := nI_le (a := 16) (by omega) (by omega)
    exact ⟨-3, fun _ hp => br_t e hp, fun _ hp => br_t e hp⟩
  | succ f ih =>
    intro i hi
    have e : ¬ (16 : Int32) ≤ nI i := nI_ge (b := 16) (by omega) (by decide)
    by_cases z : ra_cb g (12 * r) (2 * nI i - 15) (2 * nI j - 15) = true
    · refine ⟨nI i, fun post hp => br_f e ?_, fun post hp => br_f e ?_⟩
      · exact xa_sd r (12 * r) (by omega) (al r hr).1 (fun _ => br_f (ra_tp_m1 z) hp) (fun y => absurd z y)
      · exact ya_cov r (by omega) (al r hr).2 (fun _ => br_f (by decide) hp) (fun y => absurd z y)
    · obtain ⟨a, hX, hY⟩ := ih (i + 1) (by omega)
      refine ⟨a, fun post hp => br_f e ?_, fun post hp => br_f e ?_⟩
      · exact xa_sd r (12 * r) (by omega) (al r hr).1 (fun y => absurd y z) (fun _ => br_t rfl (nm_r (nI_1 i) (hX post hp)))
      · exact ya_cov r (by omega) (al r hr).2 (fun y => absurd y z) (fun _ => br_t rfl (nm_r (nI_1 i) (hY post hp)))
theorem xy_last {xs ys zs ws d g : Nat → Int32} {N r j : Nat} (hN : N ≤ 10) (hr : r < N) (al : ra_al xs ys zs ws g N) : ∀ i : Nat, i ≤ 16 →
    ∃ a : Int32, (∀ post : Int32 → Prop, post a → wX_lastIn_23 post (nI r) (nI j) (nI N) xs ys zs ws (i + 1) (nI i + (-1))) ∧ (∀ post : Int32 → Prop, post a → wY_lastIn_24 post (nI r) (nI j) (nI N) d g (i + 1) (nI i + (-1))) := by
  intro i
  induction i with
  | zero =>
    intro hi
    have e : nI 0 + (-1) < 0 := by decide
    exact ⟨-3, fun _ hp => br_t e hp, fun _ hp => br_t e hp⟩
  | succ i ih =>
    intro hi
    have e : ¬ nI i < 0 := nI_pos (by omega)
    rw [pk_m1]
    by_cases z : ra_cb g (12 * r) (2 * nI i - 15) (2 * nI j - 15) = true
    · refine ⟨nI i, fun post hp => br_f e ?_, fun post hp => br_f e ?_⟩
      · exact xa_sd r (12 * r) (by omega) (al r hr).1 (fun _ => br_f (ra_tp_m1 z) hp) (fun y => absurd z y)
      · exact ya_cov r (by omega) (al r hr).2 (fun _ => br_f (by decide) hp) (fun y => absurd z y)
    · obtain ⟨a, hX, hY⟩ := ih (by omega)
      refine ⟨a, fun post hp => br_f e ?_, fun post hp => br_f e ?_⟩
      · exact xa_sd r (12 * r) (by omega) (al r hr).1 (fun y => absurd y z) (fun _ => br_t rfl (nm_e (hX post hp)))
      · exact ya_cov r (by omega) (al r hr).2 (fun y => absurd y z) (fun _ => br_t rfl (nm_e (hY post hp)))
end
section
/-! the relation, and what is owed -/
def i_Rel (_ : Nat) (u : SX) (v : SY) : Prop :=
  ∃ (n : Nat) (xs ys zs ws d g : Nat → Int32), u = (nI n, xs, ys, zs, ws) ∧ v = (nI n, d, g) ∧ n ≤ 10 ∧ ra_tq xs ys zs ws d 10 0 ∧ ra_ok d 0 ∧ ra_al xs ys zs ws g n
theorem i_up {k : Nat} {u : SX} {v : SY} (h : i_Rel k u v) : i_Rel (k + 4) u v := h
theorem i_vc0 : wpX_init (fun u => wpY_init (fun v => i_Rel 0 u v)) :=
  ⟨0, _, _, _, _, _, _, rfl, rfl, by decide, fun _ _ => ⟨rfl, rfl, rfl, rfl⟩, fun _ _ => ra_0z, fun t ht => by omega⟩
/-! corners and numbers -/
theorem xa_co {post : Int32 → Prop} {k : Nat} (h : k < 3) (hp : post 1) : wpX_isCorner post (nI k) := br_f (nI_pos (by omega)) (br_f (nI_ge (b := 3) h (by decide)) hp)
theorem xa_co_n {post : Int32 → Prop} {x : Int32} (h : x < 0 ∨ nI 3 ≤ x) (hp : post 0) : wpX_isCorner post x := by
  refine br_c (fun _ => hp) (fun z => ?_)
  rcases h with h | h
  · exact absurd h z
  · exact br_t h hp
theorem ya_co {post : Int32 → Prop} {v : SY} {k : Nat} (h : k < 3) (hp : post 0) : wpY_badCorner post v (nI k) := br_f (nI_pos (by omega)) (br_t (nI_le (b := 2) (by omega) (by decide)) hp)
theorem ya_co_n {post : Int32 → Prop} {v : SY} {x : Int32} (h : x < 0 ∨ nI 3 ≤ x) (hp : post 1) : wpY_badCorner post v x := by
  refine br_c (fun _ => hp) (fun z => ?_)
  rcases h with h | h
  · exact absurd h z
  · refine br_f (fun w => ?_) hp
    obtain ⟨m, hm, rfl⟩ := nI_of z
    rw [nI_leI (by decide) hm] at h
    have w' : nI m ≤ nI 2 := w
    rw [nI_leI hm (by decide)] at w'
    omega
theorem xa_al {post : Int32 → Prop} {x : Int32} (h : ra_sm x) (hp : post 1) : wpX_isAllowed post x := br_f (Int32.not_lt.mpr h.1) (br_f (Int32.not_lt.mpr h.2) hp)
theorem xa_al_n {post : Int32 → Prop} {x : Int32} (h : ¬ ra_sm x) (hp : post 0) : wpX_isAllowed post x :=
  br_c (fun _ => hp) (fun z => br_c (fun _ => hp) (fun y => absurd ⟨Int32.not_lt.mp z, Int32.not_lt.mp y⟩ h))
theorem ya_wi {post : Int32 → Prop} {v : SY} {x : Int32} (h : ra_sm x) (hp : post 0) : wpY_wide post v x := br_f (Int32.not_lt.mpr h.1) (br_t h.2 hp)
theorem ya_wi_n {post : Int32 → Prop} {v : SY} {x : Int32} (h : ¬ ra_sm x) (hp : post 1) : wpY_wide post v x :=
  br_c (fun _ => hp) (fun z => br_c (fun y => absurd ⟨Int32.not_lt.mp z, y⟩ h) (fun _ => hp))
theorem ra_n0 : ¬ (1 : Int32) = 0 := by decide
theorem i_vc_place {k : Nat} {u : SX} {v : SY} (I : i_Rel k u v) (hk : k + 4 ≤ 2048) (v1 : Int32) (v2 : Int32) (v3 : Int32) : wpX_place (fun r u' => wpY_place (fun r' v' => r' = r ∧ i_Rel (k + 4) u' v') v v1 v2 v3) u v1 v2 v3 := by
  have I0 := I
  obtain ⟨n, xs, ys, zs, ws, d, g, rfl, rfl, hn, hd, ho, al⟩ := I
  unfold wpX_place wpY_place
  dsimp only
  rcases pk_ix v1 (n := 3) (by decide) with h | h | ⟨m, hm, rfl⟩
  · refine xa_co_n (Or.inl h) (br_t rfl ?_)
    exact ya_co_n (Or.inl h) (br_f ra_n0 ⟨rfl, I0⟩)
  · refine xa_co_n (Or.inr h) (br_t rfl ?_)
    exact ya_co_n (Or.inr h) (br_f ra_n0 ⟨rfl, I0⟩)
  · refine xa_co hm (br_f ra_n0 ?_)
    by_cases s2 : ra_sm v2
    · refine xa_al s2 (br_f ra_n0 ?_)
      by_cases s3 : ra_sm v3
      · refine xa_al s3 (br_f ra_n0 ?_)
        have e : 30 + nI m = nI (30 + m) := nI_add 30 m
        have e4 : 4 * nI m = nI (4 * m) := pk_mul 4 m
        have i30 : vp_in (nI (30 + m)) 33 := vp_in_nI (by omega) (by decide)
        rw [e, e4, nI_1, nI_clamp (n := 30 + m) (by omega), nI_clamp (n := 4 * m) (by omega), nI_clamp (n := 4 * m + 1) (by omega)]
        refine ⟨i30, nm_e ⟨i30, nm_e ?_⟩⟩
        refine ya_co hm (br_t rfl ?_)
        refine ya_wi s2 (br_t rfl ?_)
        refine ya_wi s3 (br_t rfl ?_)
        refine ⟨vp_in_nI (by omega) (by decide), nm_e ⟨vp_in_nI (by omega) (by decide), nm_e ⟨rfl, ?_⟩⟩⟩
        exact ⟨n, _, _, _, _, _, _, rfl, rfl, hn, ra_place hd, ra_okU (ra_okU ho s2) s3,
          ra_alU hn al (fun q hq => pk_un (by omega)) (fun q hq => pk_un (by omega)) (fun q hq => rfl) (fun q hq => rfl)⟩
      · refine xa_al_n s3 (br_t rfl ?_)
        refine ya_co hm (br_t rfl ?_)
        refine ya_wi s2 (br_t rfl ?_)
        exact ya_wi_n s3 (br_f ra_n0 ⟨rfl, I0⟩)
    · refine xa_al_n s2 (br_t rfl ?_)
      refine ya_co hm (br_t rfl ?_)
      exact ya_wi_n s2 (br_f ra_n0 ⟨rfl, I0⟩)
theorem i_vc_depth {k : Nat} {u : SX} {v : SY} (I : i_Rel k u v) (hk : k + 4 ≤ 2048) (v1 : Int32) (v2 : Int32) (v3 : Int32) : wpX_depth (fun r u' => wpY_depth (fun r' v' => r' = r ∧ i_Rel (k + 4) u' v') v v1 v2 v3) u v1 v2 v3 := by
  have I0 := I
  obtain ⟨n, xs, ys, zs, ws, d, g, rfl, rfl, hn, hd, ho, al⟩ := I
  unfold wpX_depth wpY_depth
  dsimp only
  rcases pk_ix v1 (n := 3) (by decide) with h | h | ⟨m, hm, rfl⟩
  · refine xa_co_n (Or.inl h) (br_t rfl ?_)
    exact ya_co_n (Or.inl h) (br_f ra_n0 ⟨rfl, I0⟩)
  · refine xa_co_n (Or.inr h) (br_t rfl ?_)
    exact ya_co_n (Or.inr h) (br_f ra_n0 ⟨rfl, I0⟩)
  · refine xa_co hm (br_f ra_n0 ?_)
    by_cases s2 : ra_sm v2
    · refine xa_al s2 (br_f ra_n0 ?_)
      by_cases s3 : ra_sm v3
      · refine xa_al s3 (br_f ra_n0 ?_)
        have e : 30 + nI m = nI (30 + m) := nI_add 30 m
        have e4 : 4 * nI m = nI (4 * m) := pk_mul 4 m
        have e42 : nI (4 * m) + 2 = nI (4 * m + 2) := nI_add (4 * m) 2
        have e43 : nI (4 * m) + 3 = nI (4 * m + 3) := nI_add (4 * m) 3
        have i30 : vp_in (nI (30 + m)) 33 := vp_in_nI (by omega) (by decide)
        rw [e, e4, e42, e43, nI_clamp (n := 30 + m) (by omega), nI_clamp (n := 4 * m + 2) (by omega), nI_clamp (n := 4 * m + 3) (by omega)]
        refine ⟨i30, nm_e ⟨i30, nm_e ?_⟩⟩
        refine ya_co hm (br_t rfl ?_)
        refine ya_wi s2 (br_t rfl ?_)
        refine ya_wi s3 (br_t rfl ?_)
        refine ⟨vp_in_nI (by omega) (by decide), nm_e ⟨vp_in_nI (by omega) (by decide), nm_e ⟨rfl, ?_⟩⟩⟩
        exact ⟨n, _, _, _, _, _, _, rfl, rfl, hn, ra_depth hd, ra_okU (ra_okU ho s2) s3,
          ra_alU hn al (fun q hq => rfl) (fun q hq => rfl) (fun q hq => pk_un (by omega)) (fun q hq => pk_un (by omega))⟩
      · refine xa_al_n s3 (br_t rfl ?_)
        refine ya_co hm (br_t rfl ?_)
        refine ya_wi s2 (br_t rfl ?_)
        exact ya_wi_n s3 (br_f ra_n0 ⟨rfl, I0⟩)
    · refine xa_al_n s2 (br_t rfl ?_)
      refine ya_co hm (br_t rfl ?_)
      exact ya_wi_n s2 (br_f ra_n0 ⟨rfl, I0⟩)
/-! the draft's volume -/
theorem xa_V {post : Int32 → Prop} {c : Int32} {xs ys zs ws d : Nat → Int32} (h : ra_tq xs ys zs ws d 10 0) (hp : post (ra_V d 0)) : wpX_volumeOf post (c, xs, ys, zs, ws) 10 := xa_vol 10 0 (by decide) h hp
theorem ya_V {post : Int32 → Prop} {c : Int32} {d g : Nat → Int32} (hp : post (ra_V d 0)) : wpY_volume post (c, d, g) := nm_e (nm_e (nm_e hp))
theorem i_vc_volume {k : Nat} {u : SX} {v : SY} (I : i_Rel k u v) (hk : k + 4 ≤ 2048) : wpX_volume (fun r => wpY_volume (fun r' => r' = r ∧ i_Rel (k + 4) u v) v) u := by
  have I0 := I
  obtain ⟨n, xs, ys, zs, ws, d, g, rfl, rfl, hn, hd, ho, al⟩ := I
  unfold wpX_volume
  dsimp only
  refine xa_V hd ?_
  exact ya_V ⟨rfl, I0⟩
theorem i_vc_drawn {k : Nat} {u : SX} {v : SY} (I : i_Rel k u v) (hk : k + 4 ≤ 2048) : wpX_drawn (fun r => wpY_drawn (fun r' => r' = r ∧ i_Rel (k + 4) u v) v) u := by
  have I0 := I
  obtain ⟨n, xs, ys, zs, ws, d, g, rfl, rfl, hn, hd, ho, al⟩ := I
  exact ⟨rfl, I0⟩
/-! draw -/
theorem xy_draw {k n : Nat} {xs ys zs ws d g : Nat → Int32} (hn : n < 10) (hd : ra_tq xs ys zs ws d 10 0) (ho : ra_ok d 0) (al : ra_al xs ys zs ws g n) {Y : (Int32 → SY → Prop) → Prop}
    (hY : ∀ post : Int32 → SY → Prop, (∃ n57 : Nat, wY_draw_57 post (nI n) (nI n) n57 0 d g) → Y post) :
    wX_draw_51 (fun r u' => Y (fun r' v' => r' = r ∧ i_Rel (k + 4) u' v')) (nI n) xs ys zs ws := by
  refine xa_d51 n hn (fun xs' ys' zs' ws' c0 c1 c2 c3 => ?_)
  refine hY _ ⟨13, ?_⟩
  refine ya_drl (g := g) n hn (fun g' e0 e1 => ⟨rfl, ?_⟩) 13 0 g (by decide) (by decide) (fun m hm => by omega) (fun m hm => rfl)
  obtain ⟨a, b⟩ := ra_draw hn hd ho al c0 c1 c2 c3 e0 e1
  exact ⟨n + 1, xs', ys', zs', ws', d, g', rfl, rfl, by omega, a, ho, b⟩
theorem i_vc_draw {k : Nat} {u : SX} {v : SY} (I : i_Rel k u v) (hk : k + 4 ≤ 2048) (v1 : Int32) : wpX_draw (fun r u' => wpY_draw (fun r' v' => r' = r ∧ i_Rel (k + 4) u' v') v v1) u v1 := by
  have I0 := I
  obtain ⟨n, xs, ys, zs, ws, d, g, rfl, rfl, hn, hd, ho, al⟩ := I
  by_cases h0 : v1 < 0
  · exact br_t h0 (br_t h0 ⟨rfl, I0⟩)
  by_cases h2 : v1 ≤ 2
  · refine br_f h0 (br_t h2 ?_)
    by_cases h10 : nI n < 10
    · have n10 : n < 10 := by
        have h' : nI n < nI 10 := h10
        rwa [nI_ltI (by omega) (by decide)] at h'
      refine br_t h10 ?_
      refine xa_V hd ?_
      by_cases s1 : v1 = 1
      · have s2 : ¬ v1 = 2 := by
          rw [s1]
          decide
        refine br_t s1 ?_
        by_cases z : ra_V d 0 ≤ 0
        · refine br_t z ?_
          exact br_f h0 (br_t h2 (br_t h10 (br_t s1 (ya_V (br_f (Int32.not_lt.mpr z) ⟨rfl, I0⟩)))))
        · refine br_f z (br_f s2 ?_)
          refine xy_draw (Y := fun post => wpY_draw post (nI n, d, g) v1) n10 hd ho al (fun post h => ?_)
          exact br_f h0 (br_t h2 (br_t h10 (br_t s1 (ya_V (br_t (Int32.not_le.mp z) (br_f s2 h))))))
      · refine br_f s1 ?_
        by_cases s2 : v1 = 2
        · refine br_t s2 ?_
          by_cases z : ra_V d 0 < 0
          · refine br_t z ?_
            refine xy_draw (Y := fun post => wpY_draw post (nI n, d, g) v1) n10 hd ho al (fun post h => ?_)
            exact br_f h0 (br_t h2 (br_t h10 (br_f s1 (br_t s2 (ya_V (br_t z h))))))
          · refine br_f z ?_
            exact br_f h0 (br_t h2 (br_t h10 (br_f s1 (br_t s2 (ya_V (br_f z ⟨rfl, I0⟩))))))
        · refine br_f s2 ?_
          refine xy_draw (Y := fun post => wpY_draw post (nI n, d, g) v1) n10 hd ho al (fun post h => ?_)
          exact br_f h0 (br_t h2 (br_t h10 (br_f s1 (br_f s2 h))))
    · exact br_f h10 (br_f h0 (br_t h2 (br_f h10 ⟨rfl, I0⟩)))
  · exact br_f h0 (br_f h2 (br_f h0 (br_f h2 ⟨rfl, I0⟩)))
theorem i_vc_remove {k : Nat} {u : SX} {v : SY} (I : i_Rel k u v) (hk : k + 4 ≤ 2048) (v1 : Int32) : wpX_remove (fun r u' => wpY_remove (fun r' v' => r' = r ∧ i_Rel (k + 4) u' v') v v1) u v1 := by
  have I0 := I
  obtain ⟨n, xs, ys, zs, ws, d, g, rfl, rfl, hn, hd, ho, al⟩ := I
  unfold wpX_remove wpY_remove
  dsimp only
  rcases pk_ix v1 (n := n) (by omega) with h | h | ⟨r, hr, rfl⟩
  · exact xa_dr_n (Or.inl h) (br_t rfl (ya_mi_n (Or.inl h) (br_f ra_n0 ⟨rfl, I0⟩)))
  · exact xa_dr_n (Or.inr h) (br_t rfl (ya_mi_n (Or.inr h) (br_f ra_n0 ⟨rfl, I0⟩)))
  · obtain ⟨N, rfl⟩ : ∃ N, n = N + 1 := ⟨n - 1, by omega⟩
    refine xa_dr hn hr (br_f ra_n0 (nm_r (nI_1 r) ⟨11, ?_⟩))
    refine xa_rml N r (by omega) (fun xs' ys' zs' ws' c0 c1 c2 c3 => ?_) 11 r xs ys zs ws (Nat.le_refl r) (by omega) (by omega) (ra_sh0 xs r) (ra_sh0 ys r) (ra_sh0 zs r) (ra_sh0 ws r)
    refine ya_mi hn hr (br_t rfl (nm_r (pk_mul 12 r) ⟨109, ?_⟩))
    refine ya_rml (g := g) N r (fun g' e0 e1 => ⟨rfl, ?_⟩) 109 (12 * r) g (Nat.le_refl _) (by omega) (by omega) (fun m hm hm2 => by omega) (fun m hm => rfl)
    obtain ⟨a, b⟩ := ra_remove hn hr hd al c0 c1 c2 c3 e0 e1
    exact ⟨N, xs', ys', zs', ws', d, g', rfl, rfl, by omega, a, ho, b⟩
end
section
/-! the questions -/
theorem i_vc_owner {k : Nat} {u : SX} {v : SY} (I : i_Rel k u v) (hk : k + 4 ≤ 2048) (v1 : Int32) (v2 : Int32) : wpX_owner (fun r => wpY_owner (fun r' => r' = r ∧ i_Rel (k + 4) u v) v v1 v2) u v1 v2 := by
  have I0 := I
  obtain ⟨n, xs, ys, zs, ws, d, g, rfl, rfl, hn, hd, ho, al⟩ := I
  have ok : ∀ t, t < n → ra_ok g (12 * t) := fun t ht => (al t ht).2
  unfold wpX_owner wpY_owner
  dsimp only
  rcases pk_ix v1 (n := 16) (by decide) with h | h | ⟨i, hi, rfl⟩
  · exact xa_pi_n0 (Or.inl h) (br_t rfl (ya_bp_n (Or.inl h) (br_f ra_n0 ⟨rfl, I0⟩)))
  · exact xa_pi_n0 (Or.inr h) (br_t rfl (ya_bp_n (Or.inr h) (br_f ra_n0 ⟨rfl, I0⟩)))
  · rcases pk_ix v2 (n := 16) (by decide) with h | h | ⟨j, hj, rfl⟩
    · exact xa_pi_n1 hi (Or.inl h) (br_t rfl (ya_bp hi (br_t rfl (ya_bp_n (Or.inl h) (br_f ra_n0 ⟨rfl, I0⟩)))))
    · exact xa_pi_n1 hi (Or.inr h) (br_t rfl (ya_bp hi (br_t rfl (ya_bp_n (Or.inr h) (br_f ra_n0 ⟨rfl, I0⟩)))))
    · refine xa_pi hi hj (br_f ra_n0 ?_)
      refine xa_ow hn al ?_
      refine ya_bp hi (br_t rfl ?_)
      refine ya_bp hj (br_t rfl ?_)
      refine ya_ow hn ok ?_
      cases e : ra_ow g (2 * nI i - 15) (2 * nI j - 15) n with
      | none => exact br_f (by decide) ⟨rfl, I0⟩
      | some b => exact br_t (nI_pos' (ra_ow_l hn b e)) ⟨rfl, I0⟩
theorem i_vc_owned {k : Nat} {u : SX} {v : SY} (I : i_Rel k u v) (hk : k + 4 ≤ 2048) (v1 : Int32) : wpX_owned (fun r => wpY_owned (fun r' => r' = r ∧ i_Rel (k + 4) u v) v v1) u v1 := by
  have I0 := I
  obtain ⟨n, xs, ys, zs, ws, d, g, rfl, rfl, hn, hd, ho, al⟩ := I
  have ok : ∀ t, t < n → ra_ok g (12 * t) := fun t ht => (al t ht).2
  unfold wpX_owned wpY_owned
  dsimp only
  rcases pk_ix v1 (n := n) (by omega) with h | h | ⟨r, hr, rfl⟩
  · exact xa_dr_n (Or.inl h) (br_t rfl (ya_mi_n (Or.inl h) (br_f ra_n0 ⟨rfl, I0⟩)))
  · exact xa_dr_n (Or.inr h) (br_t rfl (ya_mi_n (Or.inr h) (br_f ra_n0 ⟨rfl, I0⟩)))
  · refine xa_dr hn hr (br_f ra_n0 ⟨257, ?_⟩)
    refine xa_owned hn hr al ?_
    refine ya_mi hn hr (br_t rfl ⟨17, ?_⟩)
    exact ya_owned hn hr ok ⟨rfl, I0⟩
theorem i_vc_covered {k : Nat} {u : SX} {v : SY} (I : i_Rel k u v) (hk : k + 4 ≤ 2048) (v1 : Int32) : wpX_covered (fun r => wpY_covered (fun r' => r' = r ∧ i_Rel (k + 4) u v) v v1) u v1 := by
  have I0 := I
  obtain ⟨n, xs, ys, zs, ws, d, g, rfl, rfl, hn, hd, ho, al⟩ := I
  have ok : ∀ t, t < n → ra_ok g (12 * t) := fun t ht => (al t ht).2
  unfold wpX_covered wpY_covered
  dsimp only
  rcases pk_ix v1 (n := n) (by omega) with h | h | ⟨r, hr, rfl⟩
  · exact xa_dr_n (Or.inl h) (br_t rfl (ya_mi_n (Or.inl h) (br_f ra_n0 ⟨rfl, I0⟩)))
  · exact xa_dr_n (Or.inr h) (br_t rfl (ya_mi_n (Or.inr h) (br_f ra_n0 ⟨rfl, I0⟩)))
  · refine xa_dr hn hr (br_f ra_n0 ⟨257, ?_⟩)
    refine xa_covered hn hr al ?_
    refine ya_mi hn hr (br_t rfl ⟨17, ?_⟩)
    exact ya_covered hn hr ok ⟨rfl, I0⟩
theorem i_vc_covers {k : Nat} {u : SX} {v : SY} (I : i_Rel k u v) (hk : k + 4 ≤ 2048) (v1 : Int32) (v2 : Int32) (v3 : Int32) : wpX_covers (fun r => wpY_covers (fun r' => r' = r ∧ i_Rel (k + 4) u v) v v1 v2 v3) u v1 v2 v3 := by
  have I0 := I
  obtain ⟨n, xs, ys, zs, ws, d, g, rfl, rfl, hn, hd, ho, al⟩ := I
  have ok : ∀ t, t < n → ra_ok g (12 * t) := fun t ht => (al t ht).2
  unfold wpX_covers wpY_covers
  dsimp only
  rcases pk_ix v1 (n := n) (by omega) with h | h | ⟨r, hr, rfl⟩
  · exact xa_dr_n (Or.inl h) (br_t rfl (ya_mi_n (Or.inl h) (br_f ra_n0 ⟨rfl, I0⟩)))
  · exact xa_dr_n (Or.inr h) (br_t rfl (ya_mi_n (Or.inr h) (br_f ra_n0 ⟨rfl, I0⟩)))
  · refine xa_dr hn hr (br_f ra_n0 ?_)
    rcases pk_ix v2 (n := 16) (by decide) with h | h | ⟨i, hi, rfl⟩
    · exact xa_pi_n0 (Or.inl h) (br_t rfl (ya_mi hn hr (br_t rfl (ya_bp_n (Or.inl h) (br_f ra_n0 ⟨rfl, I0⟩)))))
    · exact xa_pi_n0 (Or.inr h) (br_t rfl (ya_mi hn hr (br_t rfl (ya_bp_n (Or.inr h) (br_f ra_n0 ⟨rfl, I0⟩)))))
    · rcases pk_ix v3 (n := 16) (by decide) with h | h | ⟨j, hj, rfl⟩
      · exact xa_pi_n1 hi (Or.inl h) (br_t rfl (ya_mi hn hr (br_t rfl (ya_bp hi (br_t rfl (ya_bp_n (Or.inl h) (br_f ra_n0 ⟨rfl, I0⟩)))))))
      · exact xa_pi_n1 hi (Or.inr h) (br_t rfl (ya_mi hn hr (br_t rfl (ya_bp hi (br_t rfl (ya_bp_n (Or.inr h) (br_f ra_n0 ⟨rfl, I0⟩)))))))
      · refine xa_pi hi hj (br_f ra_n0 ?_)
        refine xa_sd r (12 * r) (by omega) (al r hr).1 (fun z => br_f (ra_tp_m1 z) ?_) (fun z => br_t rfl ?_)
        · refine ya_mi hn hr (br_t rfl (ya_bp hi (br_t rfl (ya_bp hj (br_t rfl ?_)))))
          exact ya_cov r (by omega) (ok r hr) (fun _ => br_f ra_n0 ⟨rfl, I0⟩) (fun y => absurd z y)
        · refine ya_mi hn hr (br_t rfl (ya_bp hi (br_t rfl (ya_bp hj (br_t rfl ?_)))))
          exact ya_cov r (by omega) (ok r hr) (fun y => absurd y z) (fun _ => br_t rfl ⟨rfl, I0⟩)
theorem i_vc_lit {k : Nat} {u : SX} {v : SY} (I : i_Rel k u v) (hk : k + 4 ≤ 2048) : wpX_lit (fun r => wpY_lit (fun r' => r' = r ∧ i_Rel (k + 4) u v) v) u := by
  have I0 := I
  obtain ⟨n, xs, ys, zs, ws, d, g, rfl, rfl, hn, hd, ho, al⟩ := I
  have ok : ∀ t, t < n → ra_ok g (12 * t) := fun t ht => (al t ht).2
  unfold wpX_lit wpY_lit
  dsimp only
  refine ⟨257, ?_⟩
  refine xa_lit hn al ?_
  refine ⟨17, ?_⟩
  exact ya_lit hn ok ⟨rfl, I0⟩
theorem i_vc_firstIn {k : Nat} {u : SX} {v : SY} (I : i_Rel k u v) (hk : k + 4 ≤ 2048) (v1 : Int32) (v2 : Int32) : wpX_firstIn (fun r => wpY_firstIn (fun r' => r' = r ∧ i_Rel (k + 4) u v) v v1 v2) u v1 v2 := by
  have I0 := I
  obtain ⟨n, xs, ys, zs, ws, d, g, rfl, rfl, hn, hd, ho, al⟩ := I
  unfold wpX_firstIn wpY_firstIn
  dsimp only
  rcases pk_ix v1 (n := n) (by omega) with h | h | ⟨r, hr, rfl⟩
  · exact xa_dr_n (Or.inl h) (br_t rfl (ya_mi_n (Or.inl h) (br_f ra_n0 ⟨rfl, I0⟩)))
  · exact xa_dr_n (Or.inr h) (br_t rfl (ya_mi_n (Or.inr h) (br_f ra_n0 ⟨rfl, I0⟩)))
  · refine xa_dr hn hr (br_f ra_n0 ?_)
    rcases pk_ix v2 (n := 16) (by decide) with h | h | ⟨j, hj, rfl⟩
    · exact xa_wi_n (Or.inl h) (br_t rfl (ya_mi hn hr (br_t rfl (ya_bp_n (Or.inl h) (br_f ra_n0 ⟨rfl, I0⟩)))))
    · exact xa_wi_n (Or.inr h) (br_t rfl (ya_mi hn hr (br_t rfl (ya_bp_n (Or.inr h) (br_f ra_n0 ⟨rfl, I0⟩)))))
    · obtain ⟨a, hX, hY⟩ := xy_first (d := d) (j := j) hn hr al 16 0 rfl
      refine xa_wi hj (br_f ra_n0 ⟨17, ?_⟩)
      refine hX _ ?_
      refine ya_mi hn hr (br_t rfl (ya_bp hj (br_t rfl ⟨17, ?_⟩)))
      exact hY _ ⟨rfl, I0⟩
theorem i_vc_lastIn {k : Nat} {u : SX} {v : SY} (I : i_Rel k u v) (hk : k + 4 ≤ 2048) (v1 : Int32) (v2 : Int32) : wpX_lastIn (fun r => wpY_lastIn (fun r' => r' = r ∧ i_Rel (k + 4) u v) v v1 v2) u v1 v2 := by
  have I0 := I
  obtain ⟨n, xs, ys, zs, ws, d, g, rfl, rfl, hn, hd, ho, al⟩ := I
  unfold wpX_lastIn wpY_lastIn
  dsimp only
  rcases pk_ix v1 (n := n) (by omega) with h | h | ⟨r, hr, rfl⟩
  · exact xa_dr_n (Or.inl h) (br_t rfl (ya_mi_n (Or.inl h) (br_f ra_n0 ⟨rfl, I0⟩)))
  · exact xa_dr_n (Or.inr h) (br_t rfl (ya_mi_n (Or.inr h) (br_f ra_n0 ⟨rfl, I0⟩)))
  · refine xa_dr hn hr (br_f ra_n0 ?_)
    rcases pk_ix v2 (n := 16) (by decide) with h | h | ⟨j, hj, rfl⟩
    · exact xa_wi_n (Or.inl h) (br_t rfl (ya_mi hn hr (br_t rfl (ya_bp_n (Or.inl h) (br_f ra_n0 ⟨rfl, I0⟩)))))
    · exact xa_wi_n (Or.inr h) (br_t rfl (ya_mi hn hr (br_t rfl (ya_bp_n (Or.inr h) (br_f ra_n0 ⟨rfl, I0⟩)))))
    · obtain ⟨a, hX, hY⟩ := xy_last (d := d) (j := j) hn hr al 16 (by decide)
      have e : nI 16 + (-1) = 15 := by decide
      rw [e] at hX hY
      refine xa_wi hj (br_f ra_n0 ⟨17, ?_⟩)
      refine hX _ ?_
      refine ya_mi hn hr (br_t rfl (ya_bp hj (br_t rfl ⟨17, ?_⟩)))
      exact hY _ ⟨rfl, I0⟩
theorem i_vc_nearer {k : Nat} {u : SX} {v : SY} (I : i_Rel k u v) (hk : k + 4 ≤ 2048) (v1 : Int32) (v2 : Int32) (v3 : Int32) : wpX_nearer (fun r => wpY_nearer (fun r' => r' = r ∧ i_Rel (k + 4) u v) v v1 v2 v3) u v1 v2 v3 := by
  have I0 := I
  obtain ⟨n, xs, ys, zs, ws, d, g, rfl, rfl, hn, hd, ho, al⟩ := I
  have ok : ∀ t, t < n → ra_ok g (12 * t) := fun t ht => (al t ht).2
  have n16 : ¬ (16 : Int32) = 0 := by decide
  unfold wpX_nearer
  dsimp only
  rcases pk_ix v1 (n := n) (by omega) with h | h | ⟨a, ha, rfl⟩
  · refine xa_dr_n (Or.inl h) (br_t rfl ?_)
    unfold wpY_nearer
    dsimp only
    exact ya_mi_n (Or.inl h) (br_f ra_n0 ⟨rfl, I0⟩)
  · refine xa_dr_n (Or.inr h) (br_t rfl ?_)
    unfold wpY_nearer
    dsimp only
    exact ya_mi_n (Or.inr h) (br_f ra_n0 ⟨rfl, I0⟩)
  · refine xa_dr hn ha (br_f ra_n0 ?_)
    rcases pk_ix v2 (n := n) (by omega) with h | h | ⟨b, hb, rfl⟩
    · refine xa_dr_n (Or.inl h) (br_t rfl ?_)
      unfold wpY_nearer
      dsimp only
      exact ya_mi hn ha (br_t rfl (ya_mi_n (Or.inl h) (br_f ra_n0 ⟨rfl, I0⟩)))
    · refine xa_dr_n (Or.inr h) (br_t rfl ?_)
      unfold wpY_nearer
      dsimp only
      exact ya_mi hn ha (br_t rfl (ya_mi_n (Or.inr h) (br_f ra_n0 ⟨rfl, I0⟩)))
    · refine xa_dr hn hb (br_f ra_n0 ?_)
      rcases pk_ix v3 (n := 256) (by decide) with h | h | ⟨q, hq, rfl⟩
      · refine br_t h ?_
        unfold wpY_nearer
        dsimp only
        exact ya_mi hn ha (br_t rfl (ya_mi hn hb (br_t rfl (br_t h ⟨rfl, I0⟩))))
      · have g0 : ¬ v3 < 0 := Int32.not_lt.mpr (Int32.le_trans (nI_pos' (by decide)) h)
        have g1 : ¬ v3 < 256 := Int32.not_lt.mpr h
        have g2 : ¬ v3 ≤ 255 := by
          obtain ⟨m, hm, rfl⟩ := nI_of g0
          rw [nI_leI (by decide) hm] at h
          exact nI_ge (a := 255) (by omega) hm
        refine br_f g0 (br_f g1 ?_)
        unfold wpY_nearer
        dsimp only
        exact ya_mi hn ha (br_t rfl (ya_mi hn hb (br_t rfl (br_f g0 (br_f g2 ⟨rfl, I0⟩)))))
      · have g0 : ¬ nI q < 0 := nI_pos (by omega)
        have g1 : nI q < 256 := nI_lt (b := 256) hq (by decide)
        have g2 : nI q ≤ 255 := nI_le (b := 255) (by omega) (by decide)
        rw [ra_rem16 hq, ra_div16 hq]
        have Y : ∀ post : Int32 → Prop, wpY_covering (fun r_17 => (r_17 = 0 → post (-3)) ∧ (¬ r_17 = 0 → wpY_covering (fun r_22 => (r_22 = 0 → post (-3)) ∧ (¬ r_22 = 0 →
            wpY_compare (fun r_27 => (0 ≤ r_27 → (r_27 ≤ 0 → post 0) ∧ (¬ r_27 ≤ 0 → post 2)) ∧ (¬ 0 ≤ r_27 → post 1)) (nI n, d, g) (nI a) (nI b) (nI (q % 16)) (nI (q / 16))))
            (nI n, d, g) (nI b) (nI (q % 16)) (nI (q / 16)))) (nI n, d, g) (nI a) (nI (q % 16)) (nI (q / 16)) → wpY_nearer post (nI n, d, g) (nI a) (nI b) (nI q) := by
          intro post h
          unfold wpY_nearer
          dsimp only
          refine ya_mi hn ha (br_t rfl (ya_mi hn hb (br_t rfl (br_f g0 (br_t g2 ⟨n16, ?_⟩)))))
          exact nm_r (ra_rem16 hq) ⟨n16, nm_r (ra_div16 hq) h⟩
        refine br_f g0 (br_t g1 ⟨n16, n16, ?_⟩)
        refine xa_sd a (12 * a) (by omega) (al a ha).1 (fun za => ⟨n16, n16, ?_⟩) (fun za => ⟨n16, n16, ?_⟩)
        · refine xa_sd b (12 * b) (by omega) (al b hb).1 (fun zb => ?_) (fun zb => ?_)
          · refine br_f (ra_tp_m1 za) (br_f (ra_tp_m1 zb) ?_)
            refine xa_siz a (12 * a) (by omega) (al a ha).1 ?_
            refine xa_siz b (12 * b) (by omega) (al b hb).1 ?_
            refine xa_ls (ok a ha) (ok b hb) za zb (fun l => br_f ra_n0 ?_) (fun l => br_t rfl ?_)
            · refine Y _ ?_
              refine ya_cov a (by omega) (ok a ha) (fun _ => br_f ra_n0 ?_) (fun y => absurd za y)
              refine ya_cov b (by omega) (ok b hb) (fun _ => br_f ra_n0 ?_) (fun y => absurd zb y)
              exact ya_cmp a b (by omega) (by omega) (ok a ha) (ok b hb) za zb (fun _ => br_f (by decide) ⟨rfl, I0⟩) (fun y _ => absurd l y) (fun y _ => absurd l y)
            · refine xa_ls (ok b hb) (ok a ha) zb za (fun l2 => br_f ra_n0 ?_) (fun l2 => br_t rfl ?_)
              · refine Y _ ?_
                refine ya_cov a (by omega) (ok a ha) (fun _ => br_f ra_n0 ?_) (fun y => absurd za y)
                refine ya_cov b (by omega) (ok b hb) (fun _ => br_f ra_n0 ?_) (fun y => absurd zb y)
                exact ya_cmp a b (by omega) (by omega) (ok a ha) (ok b hb) za zb (fun y => absurd y l) (fun _ _ => br_t (by decide) (br_f (by decide) ⟨rfl, I0⟩)) (fun _ y => absurd l2 y)
              · refine Y _ ?_
                refine ya_cov a (by omega) (ok a ha) (fun _ => br_f ra_n0 ?_) (fun y => absurd za y)
                refine ya_cov b (by omega) (ok b hb) (fun _ => br_f ra_n0 ?_) (fun y => absurd zb y)
                exact ya_cmp a b (by omega) (by omega) (ok a ha) (ok b hb) za zb (fun y => absurd y l) (fun _ y => absurd y l2) (fun _ _ => br_t (by decide) (br_t (by decide) ⟨rfl, I0⟩))
          · refine br_f (ra_tp_m1 za) (br_t rfl ?_)
            refine Y _ ?_
            refine ya_cov a (by omega) (ok a ha) (fun _ => br_f ra_n0 ?_) (fun y => absurd za y)
            exact ya_cov b (by omega) (ok b hb) (fun y => absurd y zb) (fun _ => br_t rfl ⟨rfl, I0⟩)
        · refine xa_sd b (12 * b) (by omega) (al b hb).1 (fun zb => ?_) (fun zb => ?_)
          · refine br_t rfl ?_
            refine Y _ ?_
            exact ya_cov a (by omega) (ok a ha) (fun y => absurd y za) (fun _ => br_t rfl ⟨rfl, I0⟩)
          · refine br_t rfl ?_
            refine Y _ ?_
            exact ya_cov a (by omega) (ok a ha) (fun y => absurd y za) (fun _ => br_t rfl ⟨rfl, I0⟩)
end
