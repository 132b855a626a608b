/-! the picture: volume, weights, depth, covering, owner, as pure functions of the reference's array g from place b on -/
def ra_sm (x : Int32) : Prop := (-20 : Int32) ≤ x ∧ x ≤ 20
theorem ra_sm_abs {x : Int32} (h : ra_sm x) : x.toInt.natAbs ≤ 20 := by
  obtain ⟨a, b⟩ := h
  rw [Int32.le_iff_toInt_le] at a b
  have h1 : (-20 : Int32).toInt = -20 := by decide
  have h2 : (20 : Int32).toInt = 20 := by decide
  rw [h1] at a
  rw [h2] at b
  omega
def ra_dt (x0 y0 w0 x1 y1 w1 x2 y2 w2 : Int32) : Int32 := x0 * (y1 * w2 - y2 * w1) - y0 * (x1 * w2 - x2 * w1) + w0 * (x1 * y2 - x2 * y1)
def ra_di (x0 y0 w0 x1 y1 w1 x2 y2 w2 : Int) : Int := x0 * (y1 * w2 - y2 * w1) - y0 * (x1 * w2 - x2 * w1) + w0 * (x1 * y2 - x2 * y1)
theorem ra_prod {a b : Int} {m n : Nat} (ha : a.natAbs ≤ m) (hb : b.natAbs ≤ n) : (a * b).natAbs ≤ m * n := by
  rw [Int.natAbs_mul]
  exact Nat.mul_le_mul ha hb
theorem ra_2x2 {a b c d : Int} (ha : a.natAbs ≤ 20) (hb : b.natAbs ≤ 20) (hc : c.natAbs ≤ 20) (hd : d.natAbs ≤ 20) : (a * b - c * d).natAbs ≤ 800 :=
  Nat.le_trans (Nat.le_trans (Int.natAbs_sub_le _ _) (Nat.add_le_add (ra_prod ha hb) (ra_prod hc hd))) (by decide)
theorem ra_di_b {x0 y0 w0 x1 y1 w1 x2 y2 w2 : Int} (h0 : x0.natAbs ≤ 20) (h1 : y0.natAbs ≤ 20) (h2 : w0.natAbs ≤ 20) (h3 : x1.natAbs ≤ 20) (h4 : y1.natAbs ≤ 20)
    (h5 : w1.natAbs ≤ 20) (h6 : x2.natAbs ≤ 20) (h7 : y2.natAbs ≤ 20) (h8 : w2.natAbs ≤ 20) : (ra_di x0 y0 w0 x1 y1 w1 x2 y2 w2).natAbs ≤ 48000 :=
  Nat.le_trans (Nat.le_trans (Int.natAbs_add_le _ _) (Nat.add_le_add (Nat.le_trans (Int.natAbs_sub_le _ _)
    (Nat.add_le_add (ra_prod h0 (ra_2x2 h4 h8 h7 h5)) (ra_prod h1 (ra_2x2 h3 h8 h6 h5)))) (ra_prod h2 (ra_2x2 h3 h7 h6 h4)))) (by decide)
theorem ra_dt_of (x0 y0 w0 x1 y1 w1 x2 y2 w2 : Int32) : ra_dt x0 y0 w0 x1 y1 w1 x2 y2 w2
    = Int32.ofInt (ra_di x0.toInt y0.toInt w0.toInt x1.toInt y1.toInt w1.toInt x2.toInt y2.toInt w2.toInt) := by
  unfold ra_dt ra_di
  simp only [Int32.ofInt_add, Int32.ofInt_sub, Int32.ofInt_mul, Int32.ofInt_toInt]
theorem ra_dt_b {x0 y0 w0 x1 y1 w1 x2 y2 w2 : Int32} (h0 : ra_sm x0) (h1 : ra_sm y0) (h2 : ra_sm w0) (h3 : ra_sm x1) (h4 : ra_sm y1)
    (h5 : ra_sm w1) (h6 : ra_sm x2) (h7 : ra_sm y2) (h8 : ra_sm w2) : (ra_dt x0 y0 w0 x1 y1 w1 x2 y2 w2).toInt.natAbs ≤ 48000 := by
  have h := ra_di_b (ra_sm_abs h0) (ra_sm_abs h1) (ra_sm_abs h2) (ra_sm_abs h3) (ra_sm_abs h4) (ra_sm_abs h5) (ra_sm_abs h6) (ra_sm_abs h7) (ra_sm_abs h8)
  rw [ra_dt_of]
  generalize ra_di x0.toInt y0.toInt w0.toInt x1.toInt y1.toInt w1.toInt x2.toInt y2.toInt w2.toInt = d at h ⊢
  rw [Int32.toInt_ofInt_of_le (by omega) (by omega)]
  exact h
/-- v turned by the sign of s -/
def ra_sg (s v : Int32) : Int32 := if s < 0 then -v else v
theorem ra_sg_n {s : Int32} (v : Int32) (h : s < 0) : ra_sg s v = -v := if_pos h
theorem ra_sg_p {s : Int32} (v : Int32) (h : ¬ s < 0) : ra_sg s v = v := if_neg h
theorem ra_neg_t {v : Int32} (h : v.toInt.natAbs ≤ 48000) : (-v).toInt = -v.toInt := by
  have e : -v = Int32.ofInt (-v.toInt) := by rw [Int32.ofInt_neg, Int32.ofInt_toInt]
  rw [e]
  exact Int32.toInt_ofInt_of_le (by omega) (by omega)
theorem ra_0t : (0 : Int32).toInt = 0 := by decide
theorem ra_ab {v : Int32} (h : v.toInt.natAbs ≤ 48000) : 0 ≤ (ra_sg v v).toInt ∧ (ra_sg v v).toInt ≤ 48000 ∧ ((ra_sg v v).toInt = 0 ↔ v = 0) := by
  have z : v = 0 ↔ v.toInt = 0 := by rw [← Int32.toInt_inj, ra_0t]
  by_cases c : v < 0
  · rw [ra_sg_n _ c, ra_neg_t h, z]
    rw [Int32.lt_iff_toInt_lt, ra_0t] at c
    omega
  · rw [ra_sg_p _ c, z]
    rw [Int32.lt_iff_toInt_lt, ra_0t] at c
    omega
theorem ra_16 {x : Int32} (h0 : 0 ≤ x.toInt) (h : x.toInt ≤ 48000) : (16 * x).toInt = 16 * x.toInt := by
  have e : 16 * x = Int32.ofInt (16 * x.toInt) := by
    rw [Int32.ofInt_mul, Int32.ofInt_toInt]
    rfl
  rw [e]
  exact Int32.toInt_ofInt_of_le (by omega) (by omega)
theorem ra_bot0 {v : Int32} (h : v.toInt.natAbs ≤ 48000) : 16 * ra_sg v v = 0 ↔ v = 0 := by
  obtain ⟨a, b, c⟩ := ra_ab h
  rw [← c, ← Int32.toInt_inj, ra_16 a b, ra_0t]
  omega
/-! turning the rows round; signs -/
theorem ra_rot (a b c d e f g h i : Int32) : ra_dt a b c d e f g h i = ra_dt g h i a b c d e f := by
  unfold ra_dt
  grind
theorem ra_m1 (x : Int32) : (-1) * x = -x := by grind
theorem ra_16n (x : Int32) : 16 * (-1) * x = 16 * -x := by grind
theorem ra_16p (x : Int32) : 16 * 1 * x = 16 * x := by grind
/-! products of longs -/
theorem ra_lm {x y : Int32} (hx0 : 0 ≤ x.toInt) (hx : x.toInt ≤ 768000) (hy0 : 0 ≤ y.toInt) (hy : y.toInt ≤ 768000) : (x.toInt64 * y.toInt64).toInt = x.toInt * y.toInt := by
  have e : x.toInt64 * y.toInt64 = Int64.ofInt (x.toInt * y.toInt) := by
    rw [Int64.ofInt_mul, Int64.ofInt_int32ToInt, Int64.ofInt_int32ToInt]
  have h0 : 0 ≤ x.toInt * y.toInt := Int.mul_nonneg hx0 hy0
  have h1 : x.toInt * y.toInt ≤ 768000 * 768000 := Int.mul_le_mul hx hy hy0 (by decide)
  rw [e]
  generalize x.toInt * y.toInt = p at h0 h1 ⊢
  exact Int64.toInt_ofInt_of_le (by omega) (by omega)
theorem ra_lx {a s b r : Int32} (a0 : 0 ≤ a.toInt) (a1 : a.toInt ≤ 768000) (b0 : 0 ≤ b.toInt) (b1 : b.toInt ≤ 768000) (s0 : 0 ≤ s.toInt) (s1 : s.toInt ≤ 48000)
    (r0 : 0 ≤ r.toInt) (r1 : r.toInt ≤ 48000) : a.toInt64 * r.toInt64 < b.toInt64 * s.toInt64 ↔ a.toInt * r.toInt < b.toInt * s.toInt := by
  rw [Int64.lt_iff_toInt_lt, ra_lm a0 a1 r0 (by omega), ra_lm b0 b1 s0 (by omega)]
theorem ra_ly {a s b r : Int32} (a0 : 0 ≤ a.toInt) (a1 : a.toInt ≤ 768000) (b0 : 0 ≤ b.toInt) (b1 : b.toInt ≤ 768000) (s0 : 0 ≤ s.toInt) (s1 : s.toInt ≤ 48000)
    (r0 : 0 ≤ r.toInt) (r1 : r.toInt ≤ 48000) : a.toInt64 * (16 * r).toInt64 < b.toInt64 * (16 * s).toInt64 ↔ a.toInt * r.toInt < b.toInt * s.toInt := by
  have er := ra_16 r0 r1
  have es := ra_16 s0 s1
  rw [Int64.lt_iff_toInt_lt, ra_lm a0 a1 (by omega) (by omega), ra_lm b0 b1 (by omega) (by omega), er, es, Int.mul_left_comm, Int.mul_left_comm b.toInt]
  generalize a.toInt * r.toInt = p
  generalize b.toInt * s.toInt = q
  omega
/-! the triangle from place b on -/
def ra_V (g : Nat → Int32) (b : Nat) : Int32 := ra_dt (g b) (g (b + 1)) (g (b + 3)) (g (b + 4)) (g (b + 5)) (g (b + 7)) (g (b + 8)) (g (b + 9)) (g (b + 11))
def ra_e0 (g : Nat → Int32) (b : Nat) (px py : Int32) : Int32 := ra_sg (ra_V g b) (ra_dt px py 16 (g (b + 4)) (g (b + 5)) (g (b + 7)) (g (b + 8)) (g (b + 9)) (g (b + 11)))
def ra_e1 (g : Nat → Int32) (b : Nat) (px py : Int32) : Int32 := ra_sg (ra_V g b) (ra_dt (g b) (g (b + 1)) (g (b + 3)) px py 16 (g (b + 8)) (g (b + 9)) (g (b + 11)))
def ra_e2 (g : Nat → Int32) (b : Nat) (px py : Int32) : Int32 := ra_sg (ra_V g b) (ra_dt (g b) (g (b + 1)) (g (b + 3)) (g (b + 4)) (g (b + 5)) (g (b + 7)) px py 16)
def ra_tp (g : Nat → Int32) (b : Nat) (px py : Int32) : Int32 := 0 + ra_e0 g b px py * g (b + 2) + ra_e1 g b px py * g (b + 6) + ra_e2 g b px py * g (b + 10)
def ra_sz (g : Nat → Int32) (b : Nat) : Int32 := ra_sg (ra_V g b) (ra_V g b)
def ra_cb (g : Nat → Int32) (b : Nat) (px py : Int32) : Bool :=
  decide (¬ ra_V g b = 0 ∧ ¬ ra_e0 g b px py < 0 ∧ ¬ ra_e1 g b px py < 0 ∧ ¬ ra_e2 g b px py < 0 ∧ ¬ ra_tp g b px py < 0 ∧ ra_tp g b px py ≤ 16 * ra_sz g b)
def ra_lb (g : Nat → Int32) (b c : Nat) (px py : Int32) : Bool :=
  decide ((ra_tp g b px py).toInt * (ra_sz g c).toInt < (ra_tp g c px py).toInt * (ra_sz g b).toInt)
/-- twelve small numbers from place b on -/
def ra_ok (g : Nat → Int32) (b : Nat) : Prop := ∀ m, m < 12 → ra_sm (g (b + m))
theorem ra_V_b {g : Nat → Int32} {b : Nat} (h : ra_ok g b) : (ra_V g b).toInt.natAbs ≤ 48000 :=
  ra_dt_b (h 0 (by decide)) (h 1 (by decide)) (h 3 (by decide)) (h 4 (by decide)) (h 5 (by decide)) (h 7 (by decide)) (h 8 (by decide)) (h 9 (by decide)) (h 11 (by decide))
theorem ra_sz_b {g : Nat → Int32} {b : Nat} (h : ra_ok g b) : 0 ≤ (ra_sz g b).toInt ∧ (ra_sz g b).toInt ≤ 48000 := ⟨(ra_ab (ra_V_b h)).1, (ra_ab (ra_V_b h)).2.1⟩
theorem ra_bz {g : Nat → Int32} {b : Nat} (h : ra_ok g b) : 16 * ra_sz g b = 0 ↔ ra_V g b = 0 := ra_bot0 (ra_V_b h)
theorem ra_tp_b {g : Nat → Int32} {b : Nat} {px py : Int32} (h : ra_ok g b) (c : ra_cb g b px py = true) : 0 ≤ (ra_tp g b px py).toInt ∧ (ra_tp g b px py).toInt ≤ 768000 := by
  obtain ⟨s0, s1⟩ := ra_sz_b h
  obtain ⟨-, -, -, -, t0, t1⟩ := of_decide_eq_true c
  rw [Int32.lt_iff_toInt_lt, ra_0t] at t0
  rw [Int32.le_iff_toInt_le, ra_16 s0 s1] at t1
  omega
theorem ra_tp_m1 {g : Nat → Int32} {b : Nat} {px py : Int32} (c : ra_cb g b px py = true) : ¬ ra_tp g b px py = -1 := by
  obtain ⟨-, -, -, -, t0, -⟩ := of_decide_eq_true c
  intro e
  rw [e] at t0
  exact t0 (by decide)
/-! the owner -/
def ra_ow (g : Nat → Int32) (px py : Int32) : Nat → Option Nat
  | 0 => none
  | t + 1 => if ra_cb g (12 * t) px py = true then
      (match ra_ow g px py t with
        | none => some t
        | some b => if ra_lb g (12 * t) (12 * b) px py = true then some t else some b)
      else ra_ow g px py t
theorem ra_ow_n {g : Nat → Int32} {px py : Int32} {t : Nat} (h : ¬ ra_cb g (12 * t) px py = true) : ra_ow g px py (t + 1) = ra_ow g px py t := if_neg h
theorem ra_ow_0 {g : Nat → Int32} {px py : Int32} {t : Nat} (h : ra_cb g (12 * t) px py = true) (e : ra_ow g px py t = none) : ra_ow g px py (t + 1) = some t := by
  simp only [ra_ow, h, e, if_true]
theorem ra_ow_1 {g : Nat → Int32} {px py : Int32} {t b : Nat} (h : ra_cb g (12 * t) px py = true) (e : ra_ow g px py t = some b) (l : ra_lb g (12 * t) (12 * b) px py = true) :
    ra_ow g px py (t + 1) = some t := by
  simp only [ra_ow, h, e, l, if_true]
theorem ra_ow_2 {g : Nat → Int32} {px py : Int32} {t b : Nat} (h : ra_cb g (12 * t) px py = true) (e : ra_ow g px py t = some b) (l : ¬ ra_lb g (12 * t) (12 * b) px py = true) :
    ra_ow g px py (t + 1) = some b := by
  simp only [ra_ow, h, e, l, if_true, if_false]
  try rfl
theorem ra_ow_b {g : Nat → Int32} {px py : Int32} : ∀ {t b : Nat}, ra_ow g px py t = some b → b < t ∧ ra_cb g (12 * b) px py = true := by
  intro t
  induction t with
  | zero => intro b h; exact nomatch h
  | succ t ih =>
    intro b h
    by_cases c : ra_cb g (12 * t) px py = true
    · cases e : ra_ow g px py t with
      | none =>
        rw [ra_ow_0 c e] at h
        cases h
        exact ⟨by omega, c⟩
      | some a =>
        by_cases l : ra_lb g (12 * t) (12 * a) px py = true
        · rw [ra_ow_1 c e l] at h
          cases h
          exact ⟨by omega, c⟩
        · rw [ra_ow_2 c e l] at h
          cases h
          have := ih e
          exact ⟨by omega, this.2⟩
    · rw [ra_ow_n c] at h
      have := ih h
      exact ⟨by omega, this.2⟩
/-! counting -/
def ra_ct (p : Nat → Bool) : Nat → Nat
  | 0 => 0
  | n + 1 => if p n = true then ra_ct p n + 1 else ra_ct p n
theorem ra_ct_t {p : Nat → Bool} {n : Nat} (h : p n = true) : ra_ct p (n + 1) = ra_ct p n + 1 := if_pos h
theorem ra_ct_f {p : Nat → Bool} {n : Nat} (h : ¬ p n = true) : ra_ct p (n + 1) = ra_ct p n := if_neg h
/-! pixels -/
def ra_px (m : Nat) : Int32 := 2 * nI m - 15
def ra_po (g : Nat → Int32) (n a : Nat) : Option Nat := ra_ow g (ra_px (a % 16)) (ra_px (a / 16)) n
def ra_pc (g : Nat → Int32) (t a : Nat) : Bool := ra_cb g (12 * t) (ra_px (a % 16)) (ra_px (a / 16))
theorem ra_po_e (g : Nat → Int32) (n : Nat) {i j : Nat} (hi : i < 16) : ra_po g n (16 * j + i) = ra_ow g (ra_px i) (ra_px j) n := by
  unfold ra_po
  rw [show (16 * j + i) % 16 = i by omega, show (16 * j + i) / 16 = j by omega]
theorem ra_pc_e (g : Nat → Int32) (t : Nat) {i j : Nat} (hi : i < 16) : ra_pc g t (16 * j + i) = ra_cb g (12 * t) (ra_px i) (ra_px j) := by
  unfold ra_pc
  rw [show (16 * j + i) % 16 = i by omega, show (16 * j + i) / 16 = j by omega]
/-- the answers' words for an owner: nobody is e -/
def ra_an (e : Int32) : Option Nat → Int32
  | none => e
  | some b => nI b
/-! loops that count -/
theorem ra_loop (W : Nat → Nat → Nat → Prop) (f : Nat → Nat) (p : Nat → Bool) (E : Nat) (hf : ∀ a, f (a + 1) = if p a = true then f a + 1 else f a) (hx : ∀ n, W (n + 1) E (f E))
    (hs : ∀ n a c, a < E → (p a = true → W n (a + 1) (c + 1)) → (¬ p a = true → W n (a + 1) c) → W (n + 1) a c) : ∀ n a, a ≤ E → E - a < n → W n a (f a) := by
  intro n
  induction n with
  | zero => intro a h1 h2; omega
  | succ n ih =>
    intro a h1 h2
    by_cases e : a = E
    · subst e
      exact hx n
    · have h := ih (a + 1) (by omega) (by omega)
      rw [hf a] at h
      refine hs n a (f a) (by omega) (fun z => ?_) (fun z => ?_)
      · rwa [if_pos z] at h
      · rwa [if_neg z] at h
theorem ra_ct_s (p : Nat → Bool) (a : Nat) : ra_ct p (a + 1) = if p a = true then ra_ct p a + 1 else ra_ct p a := rfl
/-- what the owner's loops hold when t triangles have been looked at -/
def ra_iv (g : Nat → Int32) (px py : Int32) (t : Nat) (B D S : Int32) : Prop :=
  (ra_ow g px py t = none ∧ B = -2) ∨ ∃ b, ra_ow g px py t = some b ∧ B = nI b ∧ D = ra_tp g (12 * b) px py ∧ S = ra_sz g (12 * b)
def ra_jv (g : Nat → Int32) (px py : Int32) (t : Nat) (B : Int32) : Prop :=
  (ra_ow g px py t = none ∧ B = -1) ∨ ∃ b, ra_ow g px py t = some b ∧ B = nI b
theorem ra_lb_x {g : Nat → Int32} {b c : Nat} {px py : Int32} (hb : ra_ok g b) (hc : ra_ok g c) (cb : ra_cb g b px py = true) (cc : ra_cb g c px py = true) :
    (ra_tp g b px py).toInt64 * (ra_sz g c).toInt64 < (ra_tp g c px py).toInt64 * (ra_sz g b).toInt64 ↔ ra_lb g b c px py = true := by
  unfold ra_lb
  rw [decide_eq_true_iff]
  exact ra_lx (ra_tp_b hb cb).1 (ra_tp_b hb cb).2 (ra_tp_b hc cc).1 (ra_tp_b hc cc).2 (ra_sz_b hb).1 (ra_sz_b hb).2 (ra_sz_b hc).1 (ra_sz_b hc).2
theorem ra_lb_y {g : Nat → Int32} {b c : Nat} {px py : Int32} (hb : ra_ok g b) (hc : ra_ok g c) (cb : ra_cb g b px py = true) (cc : ra_cb g c px py = true) :
    (ra_tp g b px py).toInt64 * (16 * ra_sz g c).toInt64 < (ra_tp g c px py).toInt64 * (16 * ra_sz g b).toInt64 ↔ ra_lb g b c px py = true := by
  unfold ra_lb
  rw [decide_eq_true_iff]
  exact ra_ly (ra_tp_b hb cb).1 (ra_tp_b hb cb).2 (ra_tp_b hc cc).1 (ra_tp_b hc cc).2 (ra_sz_b hb).1 (ra_sz_b hb).2 (ra_sz_b hc).1 (ra_sz_b hc).2
