section
theorem pk_us {f : Nat → Int32} {k : Nat} {x : Int32} : upd f k x k = x := if_pos rfl
theorem pk_un {f : Nat → Int32} {k j : Nat} {x : Int32} (h : j ≠ k) : upd f k x j = f j := if_neg h
theorem pk_sub {a b : Nat} (h : b ≤ a) : nI a - nI b = nI (a - b) := by
  obtain ⟨c, rfl⟩ : ∃ c, a = c + b := ⟨a - b, by omega⟩
  rw [← nI_add, Int32.add_sub_cancel, Nat.add_sub_cancel]
theorem pk_m1 (n : Nat) : nI (n + 1) + (-1) = nI n := by
  rw [← nI_1, Int32.add_assoc, show (1 : Int32) + (-1) = 0 from rfl, Int32.add_zero]
theorem pk_mul (a b : Nat) : nI a * nI b = nI (a * b) := (Int32.ofNat_mul a b).symm
theorem pk_div {a d : Nat} (ha : a < 2 ^ 31) (h0 : 0 < d) (hd : d < 2 ^ 31) : nI a / nI d = nI (a / d) := by
  apply Int32.toInt_inj.mp
  rw [lg_idiv_nonneg (by rw [nI_toInt ha]; omega) (by rw [nI_toInt hd]; omega), nI_toInt ha, nI_toInt hd, nI_toInt (Nat.lt_of_le_of_lt (Nat.div_le_self a d) ha)]
  first | rfl | exact (Int.natCast_ediv _ _).symm
theorem pk_rem {a d : Nat} (ha : a < 2 ^ 31) (h0 : 0 < d) (hd : d < 2 ^ 31) : nI a - nI a / nI d * nI d = nI (a % d) := by
  rw [pk_div ha h0 hd, pk_mul, pk_sub (Nat.div_mul_le_self a d)]
  exact congrArg nI (by have := Nat.div_add_mod' a d; omega)
theorem pk_sub_toInt {a b : Nat} (ha : a < 2 ^ 30) (hb : b < 2 ^ 30) : (nI a - nI b).toInt = (a : Int) - b := by
  rw [Int32.toInt_sub, nI_toInt (by omega), nI_toInt (by omega)]
  exact Int.bmod_eq_of_le (by omega) (by omega)
theorem pk_sneg {a b : Nat} (hb : b < 2 ^ 30) (h : a < b) : nI a - nI b < 0 := by
  rw [Int32.lt_iff_toInt_lt, pk_sub_toInt (by omega) hb, show (0 : Int32).toInt = 0 from by decide]
  omega
theorem pk_ix (x : Int32) {n : Nat} (hn : n < 2 ^ 31) : x < 0 ∨ nI n ≤ x ∨ ∃ j : Nat, j < n ∧ x = nI j := by
  by_cases h : x < 0
  · exact Or.inl h
  · obtain ⟨j, hj, rfl⟩ := nI_of h
    by_cases h2 : j < n
    · exact Or.inr (Or.inr ⟨j, h2, rfl⟩)
    · exact Or.inr (Or.inl (nI_le (by omega) hj))
theorem pk_le {x y : Int32} {A B : Prop} (a b : Nat) (f : a ≤ b → A) (g : b < a → B) (hx : x = nI a := by rfl) (hy : y = nI b := by rfl) (ha : a < 2 ^ 31 := by omega) (hb : b < 2 ^ 31 := by omega) : (x ≤ y → A) ∧ (¬ x ≤ y → B) := by
  subst hx hy
  rw [nI_leI ha hb]
  exact ⟨f, fun z => g (by omega)⟩
theorem pk_lt {x y : Int32} {A B : Prop} (a b : Nat) (f : a < b → A) (g : b ≤ a → B) (hx : x = nI a := by rfl) (hy : y = nI b := by rfl) (ha : a < 2 ^ 31 := by omega) (hb : b < 2 ^ 31 := by omega) : (x < y → A) ∧ (¬ x < y → B) := by
  subst hx hy
  rw [nI_ltI ha hb]
  exact ⟨f, fun z => g (by omega)⟩
theorem pk_eq {x y : Int32} {A B : Prop} (a b : Nat) (f : a = b → A) (g : a ≠ b → B) (hx : x = nI a := by rfl) (hy : y = nI b := by rfl) (ha : a < 2 ^ 31 := by omega) (hb : b < 2 ^ 31 := by omega) : (x = y → A) ∧ (¬ x = y → B) := by
  subst hx hy
  rw [nI_eq ha hb]
  exact ⟨f, g⟩
theorem pk_in {x : Int32} (n N : Nat) (h : n < N) (hx : x = nI n := by rfl) (hN : N < 2 ^ 31 := by omega) : vp_in x N := by
  subst hx
  exact vp_in_nI h hN
theorem pk_cl {x : Int32} (n : Nat) (hx : x = nI n := by rfl) (h : n < 2 ^ 31 := by omega) : x.toNatClampNeg = n := by
  subst hx
  exact nI_clamp h
/-! counts, the picture of an occurrence, the couples -/
noncomputable def td_cn (f : Nat → Prop) : Nat → Nat
  | 0 => 0
  | n + 1 => td_cn f n + @ite Nat (f n) (Classical.propDecidable (f n)) 1 0
theorem td_cn_t {f : Nat → Prop} {n : Nat} (h : f n) : td_cn f (n + 1) = td_cn f n + 1 :=
  congrArg (td_cn f n + ·) (if_pos h)
theorem td_cn_f {f : Nat → Prop} {n : Nat} (h : ¬ f n) : td_cn f (n + 1) = td_cn f n :=
  congrArg (td_cn f n + ·) (if_neg h)
theorem td_cn_flat {f : Nat → Prop} {m : Nat} : ∀ n, m ≤ n → (∀ k, m ≤ k → k < n → ¬ f k) → td_cn f n = td_cn f m := by
  intro n
  induction n with
  | zero =>
    intro h _
    obtain rfl : m = 0 := by omega
    rfl
  | succ n ih =>
    intro h hf
    by_cases e : m = n + 1
    · rw [e]
    · rw [td_cn_f (hf n (by omega) (by omega))]
      exact ih (by omega) (fun k h1 h2 => hf k h1 (by omega))
theorem td_cn_0 {f : Nat → Prop} (n : Nat) (h : ∀ k, k < n → ¬ f k) : td_cn f n = 0 :=
  td_cn_flat n (Nat.zero_le n) (fun k _ h2 => h k h2)
noncomputable def td_S (G : Nat → Nat → Prop) (m : Nat) : Nat → Nat
  | 0 => 0
  | n + 1 => td_S G m n + td_cn (G n) m
theorem td_S_s (G : Nat → Nat → Prop) (m n : Nat) : td_S G m (n + 1) = td_S G m n + td_cn (G n) m := rfl
theorem td_S_f {G : Nat → Nat → Prop} {m n : Nat} (h : ∀ t, ¬ G n t) : td_S G m (n + 1) = td_S G m n := by
  rw [td_S_s, td_cn_0 m (fun t _ => h t)]
  rfl
theorem td_S_flat {G : Nat → Nat → Prop} {e m : Nat} : ∀ n, m ≤ n → (∀ k, m ≤ k → k < n → ∀ t, ¬ G k t) → td_S G e n = td_S G e m := by
  intro n
  induction n with
  | zero =>
    intro h _
    obtain rfl : m = 0 := by omega
    rfl
  | succ n ih =>
    intro h hf
    by_cases e : m = n + 1
    · rw [e]
    · rw [td_S_f (hf n (by omega) (by omega))]
      exact ih (by omega) (fun k h1 h2 => hf k h1 (by omega))
/-- the sizes: the text's, and the three patterns' -/
def td_Z (w h : Nat) (A B : Nat → Nat) (WW HH : Nat → Int32) : Prop :=
  4 ≤ w ∧ w ≤ 12 ∧ 4 ≤ h ∧ h ≤ 12 ∧ ∀ p, p < 3 → 1 ≤ A p ∧ A p ≤ 4 ∧ 1 ≤ B p ∧ B p ≤ 4 ∧ WW p = nI (A p) ∧ HH p = nI (B p)
/-- pattern p occurs at (x, y) -/
def td_M (w h : Nat) (A B : Nat → Nat) (T P : Nat → Int32) (p x y : Nat) : Prop :=
  x + A p ≤ w ∧ y + B p ≤ h ∧ ∀ i, i < B p → ∀ j, j < A p → T (16 * (y + i) + (x + j)) = P (16 * p + 4 * i + j)
/-- pattern p fits at (x, y), for ints -/
def td_F (w h : Nat) (A B : Nat → Nat) (p : Nat) (x y : Int32) : Prop :=
  ∃ c d : Nat, x = nI c ∧ y = nI d ∧ c + A p ≤ w ∧ d + B p ≤ h
/-- the same as td_M, for ints -/
def td_I (w h : Nat) (A B : Nat → Nat) (T P : Nat → Int32) (p : Nat) (x y : Int32) : Prop :=
  ∃ c d : Nat, x = nI c ∧ y = nI d ∧ td_M w h A B T P p c d
theorem td_I_n {w h : Nat} {A B : Nat → Nat} {T P : Nat → Int32} {p c d : Nat} (hw : w ≤ 12) (hh : h ≤ 12) (hc : c < 2 ^ 31) (hd : d < 2 ^ 31) : td_I w h A B T P p (nI c) (nI d) ↔ td_M w h A B T P p c d := by
  constructor
  · intro ⟨c', d', e1, e2, m⟩
    have m1 := m.1
    have m2 := m.2.1
    rw [nI_eq hc (by omega)] at e1
    rw [nI_eq hd (by omega)] at e2
    rw [e1, e2]
    exact m
  · exact fun m => ⟨c, d, rfl, rfl, m⟩
theorem td_I_F {w h : Nat} {A B : Nat → Nat} {T P : Nat → Int32} {p : Nat} {x y : Int32} (m : td_I w h A B T P p x y) : td_F w h A B p x y := by
  obtain ⟨c, d, e1, e2, m⟩ := m
  exact ⟨c, d, e1, e2, m.1, m.2.1⟩
theorem td_F_x {w h : Nat} {A B : Nat → Nat} {p : Nat} {x y : Int32} (hw : w ≤ 12) (m : x < 0) : ¬ td_F w h A B p x y := by
  intro ⟨c, d, e1, _, h1, _⟩
  exact nI_pos (n := c) (by omega) (e1 ▸ m)
theorem td_F_y {w h : Nat} {A B : Nat → Nat} {p : Nat} {x y : Int32} (hh : h ≤ 12) (m : y < 0) : ¬ td_F w h A B p x y := by
  intro ⟨c, d, _, e1, _, h1⟩
  exact nI_pos (n := d) (by omega) (e1 ▸ m)
theorem td_F_n {w h : Nat} {A B : Nat → Nat} {p c d : Nat} (hw : w ≤ 12) (hh : h ≤ 12) (hc : c < 2 ^ 31) (hd : d < 2 ^ 31) : td_F w h A B p (nI c) (nI d) ↔ c + A p ≤ w ∧ d + B p ≤ h := by
  constructor
  · intro ⟨c', d', e1, e2, m1, m2⟩
    rw [nI_eq hc (by omega)] at e1
    rw [nI_eq hd (by omega)] at e2
    rw [e1, e2]
    exact ⟨m1, m2⟩
  · exact fun m => ⟨c, d, rfl, rfl, m.1, m.2⟩
/-- an occurrence at the place number k -/
def td_O (w h : Nat) (A B : Nat → Nat) (T P : Nat → Int32) (p k : Nat) : Prop := td_M w h A B T P p (k % 16) (k / 16)
theorem td_O_n {w h : Nat} {A B : Nat → Nat} {T P : Nat → Int32} {p x y : Nat} (hx : x < 16) : td_O w h A B T P p (16 * y + x) ↔ td_M w h A B T P p x y := by
  have e1 : (16 * y + x) % 16 = x := by omega
  have e2 : (16 * y + x) / 16 = y := by omega
  unfold td_O
  rw [e1, e2]
theorem td_O_out {w h : Nat} {A B : Nat → Nat} {T P : Nat → Int32} {p k : Nat} (ha : 1 ≤ A p) (hb : 1 ≤ B p) (h1 : w ≤ k % 16 ∨ h ≤ k / 16) : ¬ td_O w h A B T P p k := by
  intro m
  have m1 := m.1
  have m2 := m.2.1
  omega
/-- k and t are places of a couple of overlapping occurrences, k the lesser -/
def td_G (w h : Nat) (A B : Nat → Nat) (T P : Nat → Int32) (p k t : Nat) : Prop :=
  k < t ∧ (t % 16 < k % 16 + A p ∧ k % 16 < t % 16 + A p ∧ t / 16 < k / 16 + B p) ∧ td_O w h A B T P p k ∧ td_O w h A B T P p t
/-- a place is covered by pattern p -/
def td_C (w h : Nat) (A B : Nat → Nat) (T P : Nat → Int32) (p : Nat) (x y : Int32) : Prop :=
  ∃ i, i < B p ∧ ∃ j, j < A p ∧ td_I w h A B T P p (x - nI j) (y - nI i)
/-- the place k is covered -/
def td_V (w h : Nat) (A B : Nat → Nat) (T P : Nat → Int32) (k : Nat) : Prop :=
  k % 16 < w ∧ k / 16 < h ∧ ∃ p, p < 3 ∧ td_C w h A B T P p (nI (k % 16)) (nI (k / 16))
/-! the couples row by row: r is the column's offset plus the width -/
theorem td_G_0 {w h : Nat} {A B : Nat → Nat} {T P : Nat → Int32} {p k : Nat} : td_cn (td_G w h A B T P p k) (k + 1) = 0 :=
  td_cn_0 _ (fun t ht g => by have := g.1; omega)
theorem td_G_neg {w h : Nat} {A B : Nat → Nat} {T P : Nat → Int32} {p x y e r : Nat} (hr : x + r < A p) : td_cn (td_G w h A B T P p (16 * y + x)) (16 * (y + e) + (x + (r + 1) - A p)) = td_cn (td_G w h A B T P p (16 * y + x)) (16 * (y + e) + (x + r - A p)) := by
  have e1 : x + (r + 1) - A p = x + r - A p := by omega
  rw [e1]
theorem td_G_hit {w h : Nat} {A B : Nat → Nat} {T P : Nat → Int32} {p x y e r : Nat} (hw : w ≤ 12) (hM : td_M w h A B T P p x y) (he : e < B p) (h0 : e = 0 → A p < r) (h1 : 1 ≤ r) (h2 : r < 2 * A p) (h3 : A p ≤ x + r) : td_G w h A B T P p (16 * y + x) (16 * (y + e) + (x + r - A p)) ↔ td_M w h A B T P p (x + r - A p) (y + e) := by
  have hx := hM.1
  have hlt : x + r - A p < 16 := by omega
  rw [← td_O_n (y := y + e) hlt]
  constructor
  · exact fun g => g.2.2.2
  · intro o
    refine ⟨by omega, ⟨by omega, by omega, by omega⟩, (td_O_n (by omega)).mpr hM, o⟩
theorem td_G_row {w h : Nat} {A B : Nat → Nat} {T P : Nat → Int32} {p x y e : Nat} (hw : w ≤ 12) (ha : 1 ≤ A p) (hx : x + A p ≤ w) : td_cn (td_G w h A B T P p (16 * y + x)) (16 * (y + (e + 1)) + (x + 1 - A p)) = td_cn (td_G w h A B T P p (16 * y + x)) (16 * (y + e) + (x + 2 * A p - A p)) := by
  refine td_cn_flat _ (by omega) (fun k h1 h2 g => ?_)
  have g2 := g.2.1
  omega
theorem td_G_end {w h : Nat} {A B : Nat → Nat} {T P : Nat → Int32} {p x y : Nat} (hw : w ≤ 12) (hh : h ≤ 12) (ha : 1 ≤ A p) (hx : x + A p ≤ w) (hy : y + B p ≤ h) : td_cn (td_G w h A B T P p (16 * y + x)) 192 = td_cn (td_G w h A B T P p (16 * y + x)) (16 * (y + B p) + (x + 1 - A p)) := by
  by_cases c : 16 * (y + B p) + (x + 1 - A p) ≤ 192
  · refine td_cn_flat _ c (fun k h1 h2 g => ?_)
    have g2 := g.2.1
    omega
  · refine (td_cn_flat _ (by omega) (fun k h1 h2 g => ?_)).symm
    have g2 := g.2.1
    omega
end
section
/-! numbers and branches -/
theorem td_br1 {A B : Prop} (b : B) : ((1 : Int32) = 0 → A) ∧ (¬ (1 : Int32) = 0 → B) := br_f (by decide) b
theorem td_br0 {A B : Prop} (a : A) : ((0 : Int32) = 0 → A) ∧ (¬ (0 : Int32) = 0 → B) := br_t rfl a
theorem td_e0 (c d : Nat) : (16 : Int32) * nI d + nI c = nI (16 * d + c) := by
  rw [← nI_add, ← pk_mul]
  rfl
theorem td_e1 (c d i j : Nat) : (16 : Int32) * (nI d + nI i) + nI c + nI j = nI (16 * (d + i) + (c + j)) := by
  rw [nI_add d i, td_e0, nI_add]
  exact congrArg nI (by omega)
theorem td_e2 (p i j : Nat) : (16 : Int32) * nI p + (4 : Int32) * nI i + nI j = nI (16 * p + 4 * i + j) := by
  rw [← nI_add, ← nI_add, ← pk_mul, ← pk_mul]
  rfl
theorem td_e3 (p i j : Nat) : nI p * (16 : Int32) + nI i * (4 : Int32) + nI j = nI (16 * p + 4 * i + j) := by
  rw [← td_e2, Int32.mul_comm (nI p), Int32.mul_comm (nI i)]
theorem td_ZW {w h : Nat} {A B : Nat → Nat} {WW HH : Nat → Int32} {p : Nat} (Z : td_Z w h A B WW HH) (hp : p < 3) : WW (nI p).toNatClampNeg = nI (A p) := by
  rw [nI_clamp (by omega)]
  exact (Z.2.2.2.2 p hp).2.2.2.2.1
theorem td_ZH {w h : Nat} {A B : Nat → Nat} {WW HH : Nat → Int32} {p : Nat} (Z : td_Z w h A B WW HH) (hp : p < 3) : HH (nI p).toNatClampNeg = nI (B p) := by
  rw [nI_clamp (by omega)]
  exact (Z.2.2.2.2 p hp).2.2.2.2.2
theorem td_Zn {w h : Nat} {A B : Nat → Nat} {WW HH : Nat → Int32} {p : Nat} (Z : td_Z w h A B WW HH) (hp : p < 3) : 4 ≤ w ∧ w ≤ 12 ∧ 4 ≤ h ∧ h ≤ 12 ∧ 1 ≤ A p ∧ A p ≤ 4 ∧ 1 ≤ B p ∧ B p ≤ 4 := by
  obtain ⟨a, b, c, d, f⟩ := Z
  obtain ⟨f1, f2, f3, f4, _⟩ := f p hp
  exact ⟨a, b, c, d, f1, f2, f3, f4⟩
theorem td_Wle {w h : Nat} {A B : Nat → Nat} {WW HH : Nat → Int32} {p j : Nat} (Z : td_Z w h A B WW HH) (hp : p < 3) (hj : j < 2 ^ 31) (h1 : A p ≤ j) : WW (nI p).toNatClampNeg ≤ nI j := by
  rw [td_ZW Z hp]
  exact nI_le h1 hj
theorem td_Wgt {w h : Nat} {A B : Nat → Nat} {WW HH : Nat → Int32} {p j : Nat} (Z : td_Z w h A B WW HH) (hp : p < 3) (h1 : j < A p) : ¬ WW (nI p).toNatClampNeg ≤ nI j := by
  have z := td_Zn Z hp
  rw [td_ZW Z hp]
  exact nI_ge h1 (by omega)
theorem td_Hle {w h : Nat} {A B : Nat → Nat} {WW HH : Nat → Int32} {p j : Nat} (Z : td_Z w h A B WW HH) (hp : p < 3) (hj : j < 2 ^ 31) (h1 : B p ≤ j) : HH (nI p).toNatClampNeg ≤ nI j := by
  rw [td_ZH Z hp]
  exact nI_le h1 hj
theorem td_Hgt {w h : Nat} {A B : Nat → Nat} {WW HH : Nat → Int32} {p j : Nat} (Z : td_Z w h A B WW HH) (hp : p < 3) (h1 : j < B p) : ¬ HH (nI p).toNatClampNeg ≤ nI j := by
  have z := td_Zn Z hp
  rw [td_ZH Z hp]
  exact nI_ge h1 (by omega)
/-! the small questions: a number of a pattern, a letter, a place in the text -/
def td_L (v : Int32) : Prop := ∃ p : Nat, p < 3 ∧ v = nI p
def td_In (w h : Nat) (x y : Int32) : Prop := ∃ c d : Nat, c < w ∧ d < h ∧ x = nI c ∧ y = nI d
theorem td_L_neg {v : Int32} (n : v < 0) : ¬ td_L v := by
  intro ⟨p, hp, e⟩
  exact nI_pos (n := p) (by omega) (e ▸ n)
theorem td_L_ge {j : Nat} (hj : j < 2 ^ 31) (g : 3 ≤ j) : ¬ td_L (nI j) := by
  intro ⟨p, hp, e⟩
  rw [nI_eq hj (by omega)] at e
  omega
theorem td_xp {post : Int32 → Prop} {v : Int32} (t : td_L v → post 1) (f : ¬ td_L v → post 0) : wpX_isPattern post v := by
  by_cases n : v < 0
  · exact br_t n (f (td_L_neg n))
  · obtain ⟨j, hj, rfl⟩ := nI_of n
    exact br_f n (pk_le 3 j (fun c => f (td_L_ge hj c)) (fun c => t ⟨j, c, rfl⟩))
theorem td_xl {post : Int32 → Prop} {v : Int32} (t : td_L v → post 1) (f : ¬ td_L v → post 0) : wpX_isLetter post v := by
  by_cases n : v < 0
  · exact br_t n (f (td_L_neg n))
  · obtain ⟨j, hj, rfl⟩ := nI_of n
    exact br_f n (pk_le 3 j (fun c => f (td_L_ge hj c)) (fun c => t ⟨j, c, rfl⟩))
theorem td_yp {post : Int32 → Prop} {v : Int32} {s : SY} (t : td_L v → post 1) (f : ¬ td_L v → post 0) : wpY_isPattern post s v := by
  obtain ⟨s1, s2, s3, s4, s5, s6⟩ := s
  by_cases n : v < 0
  · exact br_t n (f (td_L_neg n))
  · obtain ⟨j, hj, rfl⟩ := nI_of n
    exact br_f n (pk_lt 2 j (fun c => f (td_L_ge hj c)) (fun c => t ⟨j, by omega, rfl⟩))
theorem td_yl {post : Int32 → Prop} {v : Int32} {s : SY} (t : td_L v → post 1) (f : ¬ td_L v → post 0) : wpY_isLetter post s v := by
  obtain ⟨s1, s2, s3, s4, s5, s6⟩ := s
  by_cases n : v < 0
  · exact br_t n (f (td_L_neg n))
  · obtain ⟨j, hj, rfl⟩ := nI_of n
    exact br_f n (pk_lt 2 j (fun c => f (td_L_ge hj c)) (fun c => t ⟨j, by omega, rfl⟩))
theorem td_In_x {w h : Nat} {x y : Int32} (hw : w ≤ 12) (n : x < 0) : ¬ td_In w h x y := by
  intro ⟨c, d, h1, _, e, _⟩
  exact nI_pos (n := c) (by omega) (e ▸ n)
theorem td_In_y {w h : Nat} {x y : Int32} (hh : h ≤ 12) (n : y < 0) : ¬ td_In w h x y := by
  intro ⟨c, d, _, h1, _, e⟩
  exact nI_pos (n := d) (by omega) (e ▸ n)
theorem td_In_n {w h c d : Nat} (hw : w ≤ 12) (hh : h ≤ 12) (hc : c < 2 ^ 31) (hd : d < 2 ^ 31) : td_In w h (nI c) (nI d) ↔ c < w ∧ d < h := by
  constructor
  · intro ⟨c', d', h1, h2, e1, e2⟩
    rw [nI_eq hc (by omega)] at e1
    rw [nI_eq hd (by omega)] at e2
    rw [e1, e2]
    exact ⟨h1, h2⟩
  · exact fun m => ⟨c, d, m.1, m.2, rfl, rfl⟩
theorem td_In_c {w h c : Nat} {y : Int32} (hw : w ≤ 12) (hc : c < 2 ^ 31) (g : w ≤ c) : ¬ td_In w h (nI c) y := by
  intro ⟨c', d', h1, h2, e1, e2⟩
  rw [nI_eq hc (by omega)] at e1
  omega
theorem td_xin {post : Int32 → Prop} {w h : Nat} {T WW HH P : Nat → Int32} {x y : Int32} (hw : w ≤ 12) (hh : h ≤ 12) (t : td_In w h x y → post 1) (f : ¬ td_In w h x y → post 0) : wpX_isInText post (nI w, nI h, T, WW, HH, P) x y := by
  by_cases n : x < 0
  · exact br_t n (f (td_In_x hw n))
  · obtain ⟨c, hc, rfl⟩ := nI_of n
    refine br_f n (pk_le w c (fun g => f (td_In_c hw hc g)) (fun g => ?_))
    by_cases m : y < 0
    · exact br_t m (f (td_In_y hh m))
    · obtain ⟨d, hd, rfl⟩ := nI_of m
      exact br_f m (pk_le h d (fun g2 => f (fun z => by have := ((td_In_n hw hh hc hd).mp z).2; omega)) (fun g2 => t ⟨c, d, g, g2, rfl, rfl⟩))
theorem td_yin {post : Int32 → Prop} {w h : Nat} {T WW HH P : Nat → Int32} {x y : Int32} (hw : w ≤ 12) (hh : h ≤ 12) (t : td_In w h x y → post 1) (f : ¬ td_In w h x y → post 0) : wpY_inText post (nI w, nI h, T, P, WW, HH) x y := by
  by_cases n : x < 0
  · exact br_t n (f (td_In_x hw n))
  · obtain ⟨c, hc, rfl⟩ := nI_of n
    refine br_f n (pk_le w c (fun g => f (td_In_c hw hc g)) (fun g => ?_))
    by_cases m : y < 0
    · exact br_t m (f (td_In_y hh m))
    · obtain ⟨d, hd, rfl⟩ := nI_of m
      exact br_f m (pk_le h d (fun g2 => f (fun z => by have := ((td_In_n hw hh hc hd).mp z).2; omega)) (fun g2 => t ⟨c, d, g, g2, rfl, rfl⟩))
theorem td_xpn {post : Int32 → Prop} {x y : Int32} {c d : Nat} (hx : x = nI c) (hy : y = nI d) (p : post (nI (16 * d + c))) : wpX_placeNumber post x y := by
  subst hx hy
  unfold wpX_placeNumber
  rw [td_e0]
  exact p
theorem td_xpc {post : Int32 → Prop} {p i j : Nat} (h : post (nI (16 * p + 4 * i + j))) : wpX_patternCell post (nI p) (nI j) (nI i) := by
  unfold wpX_patternCell
  rw [td_e3]
  exact h
/-! a pattern fits -/
theorem td_F_big {w h : Nat} {A B : Nat → Nat} {p c : Nat} {y : Int32} (hw : w ≤ 12) (hc : c < 2 ^ 31) (g : w < c + A p) : ¬ td_F w h A B p (nI c) y := by
  intro ⟨c', d', e1, e2, m1, m2⟩
  rw [nI_eq hc (by omega)] at e1
  omega
theorem td_xf {post : Int32 → Prop} {w h : Nat} {A B : Nat → Nat} {T WW HH P : Nat → Int32} {p : Nat} {x y : Int32} (Z : td_Z w h A B WW HH) (hp : p < 3) (t : td_F w h A B p x y → post 1) (f : ¬ td_F w h A B p x y → post 0) : wpX_fits post (nI w, nI h, T, WW, HH, P) (nI p) x y := by
  obtain ⟨w1, w2, h1, h2, a1, a2, b1, b2⟩ := td_Zn Z hp
  have hin : vp_in (nI p) 3 := vp_in_nI hp (by omega)
  have eW : nI w - WW (nI p).toNatClampNeg = nI (w - A p) := by rw [td_ZW Z hp]; exact pk_sub (by omega)
  have eH : nI h - HH (nI p).toNatClampNeg = nI (h - B p) := by rw [td_ZH Z hp]; exact pk_sub (by omega)
  by_cases n : x < 0
  · exact br_t n (f (td_F_x w2 n))
  · obtain ⟨c, hc, rfl⟩ := nI_of n
    refine br_f n ⟨hin, pk_lt (w - A p) c (fun g => f (td_F_big w2 hc (by omega))) (fun g => ?_) eW⟩
    by_cases m : y < 0
    · exact br_t m (f (td_F_y h2 m))
    · obtain ⟨d, hd, rfl⟩ := nI_of m
      exact br_f m ⟨hin, pk_lt (h - B p) d (fun g2 => f (fun z => by have := ((td_F_n w2 h2 hc hd).mp z).2; omega)) (fun g2 => t ⟨c, d, rfl, rfl, by omega, by omega⟩) eH⟩
theorem td_yf {post : Int32 → Prop} {w h : Nat} {A B : Nat → Nat} {T WW HH P : Nat → Int32} {p : Nat} {x y : Int32} (Z : td_Z w h A B WW HH) (hp : p < 3) (t : td_F w h A B p x y → post 1) (f : ¬ td_F w h A B p x y → post 0) : wpY_fits post (nI w, nI h, T, P, WW, HH) (nI p) x y := by
  obtain ⟨w1, w2, h1, h2, a1, a2, b1, b2⟩ := td_Zn Z hp
  have hin : vp_in (nI p) 3 := vp_in_nI hp (by omega)
  have eW : nI w - WW (nI p).toNatClampNeg = nI (w - A p) := by rw [td_ZW Z hp]; exact pk_sub (by omega)
  have eH : nI h - HH (nI p).toNatClampNeg = nI (h - B p) := by rw [td_ZH Z hp]; exact pk_sub (by omega)
  unfold wpY_fits
  dsimp only
  refine td_yp (fun _ => td_br1 ?_) (fun z => absurd ⟨p, hp, rfl⟩ z)
  refine td_yin w2 h2 (fun q => td_br1 ?_) (fun q => td_br0 (f ?_))
  · obtain ⟨c, d, hc, hd, rfl, rfl⟩ := q
    exact ⟨hin, pk_lt (w - A p) c (fun g => f (td_F_big w2 (by omega) (by omega))) (fun g => ⟨hin, pk_lt (h - B p) d (fun g2 => f (fun z => by have := ((td_F_n w2 h2 (by omega) (by omega)).mp z).2; omega)) (fun g2 => t ⟨c, d, rfl, rfl, by omega, by omega⟩) eH⟩) eW⟩
  · intro ⟨c, d, e1, e2, m1, m2⟩
    exact q ⟨c, d, by omega, by omega, e1, e2⟩
theorem td_yf0 {post : Int32 → Prop} {s : SY} {v x y : Int32} (n : ¬ td_L v) (f : post 0) : wpY_fits post s v x y := by
  obtain ⟨s1, s2, s3, s4, s5, s6⟩ := s
  unfold wpY_fits
  dsimp only
  exact td_yp (fun z => absurd z n) (fun _ => td_br0 f)
end
section
/-! does pattern p occur at a place: both sides against td_M -/
theorem td_xm29 {post : Int32 → Prop} {J : Int32 → Prop} {w h : Nat} {A B : Nat → Nat} {T WW HH P : Nat → Int32} {p c d i : Nat} (Z : td_Z w h A B WW HH) (hp : p < 3) (hc : c + A p ≤ w) (hd : d + B p ≤ h) (hi : i < B p)
    (t : (∀ j, j < A p → T (16 * (d + i) + (c + j)) = P (16 * p + 4 * i + j)) → J (nI (i + 1)))
    (f : (¬ ∀ j, j < A p → T (16 * (d + i) + (c + j)) = P (16 * p + 4 * i + j)) → post 0) :
    ∀ e j, j + e = A p → (∀ j', j' < j → T (16 * (d + i) + (c + j')) = P (16 * p + 4 * i + j')) → wX_matchesAt_29 post J (nI p) (nI c) (nI d) (nI i) (nI w) (nI h) T WW HH P (e + 1) (nI j) := by
  obtain ⟨w1, w2, h1, h2, a1, a2, b1, b2⟩ := td_Zn Z hp
  have hin : vp_in (nI p) 3 := vp_in_nI hp (by omega)
  intro e
  induction e with
  | zero =>
    intro j hj hall
    exact And.intro hin (br_t (td_Wle Z hp (by omega) (by omega)) (nm_r (nI_1 i) (t (fun j' h' => hall j' (by omega)))))
  | succ e ih =>
    intro j hj hall
    refine And.intro hin (br_f (td_Wgt Z hp (by omega)) ?_)
    refine td_xpn (nI_add c j) (nI_add d i) ⟨vp_in_nI (by omega) (by omega), td_xpc ⟨vp_in_nI (by omega) (by omega), ?_⟩⟩
    rw [nI_clamp (by omega), nI_clamp (by omega)]
    by_cases q : T (16 * (d + i) + (c + j)) = P (16 * p + 4 * i + j)
    · refine br_t q (nm_r (nI_1 j) (ih (j + 1) (by omega) (fun j' h' => ?_)))
      by_cases e2 : j' = j
      · rw [e2]; exact q
      · exact hall j' (by omega)
    · exact br_f q (f (fun z => q (z j (by omega))))
theorem td_xm15 {post : Int32 → Prop} {w h : Nat} {A B : Nat → Nat} {T WW HH P : Nat → Int32} {p c d : Nat} (Z : td_Z w h A B WW HH) (hp : p < 3) (hc : c + A p ≤ w) (hd : d + B p ≤ h)
    (t : td_M w h A B T P p c d → post 1) (f : ¬ td_M w h A B T P p c d → post 0) :
    ∀ e i, i + e = B p → (∀ i', i' < i → ∀ j, j < A p → T (16 * (d + i') + (c + j)) = P (16 * p + 4 * i' + j)) → wX_matchesAt_15 post (nI p) (nI c) (nI d) (nI w) (nI h) T WW HH P (e + 1) (nI i) := by
  obtain ⟨w1, w2, h1, h2, a1, a2, b1, b2⟩ := td_Zn Z hp
  have hin : vp_in (nI p) 3 := vp_in_nI hp (by omega)
  intro e
  induction e with
  | zero =>
    intro i hi hall
    exact And.intro hin (br_t (td_Hle Z hp (by omega) (by omega)) (t ⟨hc, hd, fun i' h' => hall i' (by omega)⟩))
  | succ e ih =>
    intro i hi hall
    refine And.intro hin (br_f (td_Hgt Z hp (by omega)) ⟨A p + 1, td_xm29 Z hp hc hd (by omega) (fun q => ?_) (fun q => f (fun m => q (m.2.2 i (by omega)))) (A p) 0 (by omega) (fun j' h' => by omega)⟩)
    refine ih (i + 1) (by omega) (fun i' h' => ?_)
    by_cases e2 : i' = i
    · rw [e2]; exact q
    · exact hall i' (by omega)
theorem td_xm {post : Int32 → Prop} {w h : Nat} {A B : Nat → Nat} {T WW HH P : Nat → Int32} {p : Nat} {x y : Int32} (Z : td_Z w h A B WW HH) (hp : p < 3)
    (t : td_I w h A B T P p x y → post 1) (f : ¬ td_I w h A B T P p x y → post 0) : wpX_matchesAt post (nI w, nI h, T, WW, HH, P) (nI p) x y := by
  obtain ⟨w1, w2, h1, h2, a1, a2, b1, b2⟩ := td_Zn Z hp
  unfold wpX_matchesAt
  dsimp only
  refine td_xf Z hp (fun q => td_br1 ?_) (fun q => td_br0 (f (fun z => q (td_I_F z))))
  obtain ⟨c, d, rfl, rfl, hc, hd⟩ := q
  have ee := td_I_n (A := A) (B := B) (T := T) (P := P) (p := p) (c := c) (d := d) w2 h2 (by omega) (by omega)
  rw [ee] at t f
  exact ⟨B p + 1, td_xm15 Z hp hc hd t f (B p) 0 (by omega) (fun i' h' => by omega)⟩
theorem td_ym29 {post : Int32 → Prop} {J : Int32 → Prop} {w h : Nat} {A B : Nat → Nat} {T WW HH P : Nat → Int32} {p c d i : Nat} (Z : td_Z w h A B WW HH) (hp : p < 3) (hc : c + A p ≤ w) (hd : d + B p ≤ h) (hi : i < B p)
    (t : (∀ j, j < A p → T (16 * (d + i) + (c + j)) = P (16 * p + 4 * i + j)) → J (nI (i + 1)))
    (f : (¬ ∀ j, j < A p → T (16 * (d + i) + (c + j)) = P (16 * p + 4 * i + j)) → post 0) :
    ∀ e j, j + e = A p → (∀ j', j' < j → T (16 * (d + i) + (c + j')) = P (16 * p + 4 * i + j')) → wY_occurs_29 post J (nI p) (nI c) (nI d) (nI i) (nI w) (nI h) T P WW HH (e + 1) (nI j) := by
  obtain ⟨w1, w2, h1, h2, a1, a2, b1, b2⟩ := td_Zn Z hp
  have hin : vp_in (nI p) 3 := vp_in_nI hp (by omega)
  intro e
  induction e with
  | zero =>
    intro j hj hall
    exact And.intro hin (br_t (td_Wle Z hp (by omega) (by omega)) (nm_r (nI_1 i) (t (fun j' h' => hall j' (by omega)))))
  | succ e ih =>
    intro j hj hall
    refine And.intro hin (br_f (td_Wgt Z hp (by omega)) ?_)
    rw [td_e1, td_e2, nI_clamp (by omega), nI_clamp (by omega)]
    refine ⟨vp_in_nI (by omega) (by omega), vp_in_nI (by omega) (by omega), ?_⟩
    by_cases q : T (16 * (d + i) + (c + j)) = P (16 * p + 4 * i + j)
    · refine br_t q (nm_r (nI_1 j) (ih (j + 1) (by omega) (fun j' h' => ?_)))
      by_cases e2 : j' = j
      · rw [e2]; exact q
      · exact hall j' (by omega)
    · exact br_f q (f (fun z => q (z j (by omega))))
theorem td_ym15 {post : Int32 → Prop} {w h : Nat} {A B : Nat → Nat} {T WW HH P : Nat → Int32} {p c d : Nat} (Z : td_Z w h A B WW HH) (hp : p < 3) (hc : c + A p ≤ w) (hd : d + B p ≤ h)
    (t : td_M w h A B T P p c d → post 1) (f : ¬ td_M w h A B T P p c d → post 0) :
    ∀ e i, i + e = B p → (∀ i', i' < i → ∀ j, j < A p → T (16 * (d + i') + (c + j)) = P (16 * p + 4 * i' + j)) → wY_occurs_15 post (nI p) (nI c) (nI d) (nI w) (nI h) T P WW HH (e + 1) (nI i) := by
  obtain ⟨w1, w2, h1, h2, a1, a2, b1, b2⟩ := td_Zn Z hp
  have hin : vp_in (nI p) 3 := vp_in_nI hp (by omega)
  intro e
  induction e with
  | zero =>
    intro i hi hall
    exact And.intro hin (br_t (td_Hle Z hp (by omega) (by omega)) (t ⟨hc, hd, fun i' h' => hall i' (by omega)⟩))
  | succ e ih =>
    intro i hi hall
    refine And.intro hin (br_f (td_Hgt Z hp (by omega)) ⟨A p + 1, td_ym29 Z hp hc hd (by omega) (fun q => ?_) (fun q => f (fun m => q (m.2.2 i (by omega)))) (A p) 0 (by omega) (fun j' h' => by omega)⟩)
    refine ih (i + 1) (by omega) (fun i' h' => ?_)
    by_cases e2 : i' = i
    · rw [e2]; exact q
    · exact hall i' (by omega)
theorem td_ym {post : Int32 → Prop} {w h : Nat} {A B : Nat → Nat} {T WW HH P : Nat → Int32} {p : Nat} {x y : Int32} (Z : td_Z w h A B WW HH) (hp : p < 3)
    (t : td_I w h A B T P p x y → post 1) (f : ¬ td_I w h A B T P p x y → post 0) : wpY_occurs post (nI w, nI h, T, P, WW, HH) (nI p) x y := by
  obtain ⟨w1, w2, h1, h2, a1, a2, b1, b2⟩ := td_Zn Z hp
  unfold wpY_occurs
  dsimp only
  refine td_yf Z hp (fun q => td_br1 ?_) (fun q => td_br0 (f (fun z => q (td_I_F z))))
  obtain ⟨c, d, rfl, rfl, hc, hd⟩ := q
  have ee := td_I_n (A := A) (B := B) (T := T) (P := P) (p := p) (c := c) (d := d) w2 h2 (by omega) (by omega)
  rw [ee] at t f
  exact ⟨B p + 1, td_ym15 Z hp hc hd t f (B p) 0 (by omega) (fun i' h' => by omega)⟩
theorem td_ym0 {post : Int32 → Prop} {s : SY} {v x y : Int32} (n : ¬ td_L v) (f : post 0) : wpY_occurs post s v x y := by
  obtain ⟨s1, s2, s3, s4, s5, s6⟩ := s
  unfold wpY_occurs
  dsimp only
  exact td_yf0 n (td_br0 f)
/-! at the place number k, as the reference asks it -/
theorem td_r16 {k : Nat} (hk : k < 2 ^ 31) : nI k - nI k / 16 * 16 = nI (k % 16) := pk_rem (d := 16) hk (by decide) (by decide)
theorem td_d16 {k : Nat} (hk : k < 2 ^ 31) : nI k / 16 = nI (k / 16) := pk_div (d := 16) hk (by decide) (by decide)
theorem td_yO {post : Int32 → Prop} {w h : Nat} {A B : Nat → Nat} {T WW HH P : Nat → Int32} {p k : Nat} (Z : td_Z w h A B WW HH) (hp : p < 3) (hk : k < 2 ^ 31)
    (t : td_O w h A B T P p k → post 1) (f : ¬ td_O w h A B T P p k → post 0) : wpY_occurs post (nI w, nI h, T, P, WW, HH) (nI p) (nI k - nI k / 16 * 16) (nI k / 16) := by
  obtain ⟨w1, w2, h1, h2, a1, a2, b1, b2⟩ := td_Zn Z hp
  rw [td_r16 hk, td_d16 hk]
  have ee := td_I_n (A := A) (B := B) (T := T) (P := P) (p := p) (c := k % 16) (d := k / 16) w2 h2 (by omega) (by omega)
  exact td_ym Z hp (fun z => t (ee.mp z)) (fun z => f (fun o => z (ee.mpr o)))
theorem td_xO {post : Int32 → Prop} {w h : Nat} {A B : Nat → Nat} {T WW HH P : Nat → Int32} {p x y : Nat} (Z : td_Z w h A B WW HH) (hp : p < 3) (hx : x < 16) (hy : y < 16)
    (t : td_O w h A B T P p (16 * y + x) → post 1) (f : ¬ td_O w h A B T P p (16 * y + x) → post 0) : wpX_matchesAt post (nI w, nI h, T, WW, HH, P) (nI p) (nI x) (nI y) := by
  obtain ⟨w1, w2, h1, h2, a1, a2, b1, b2⟩ := td_Zn Z hp
  have ee := td_I_n (A := A) (B := B) (T := T) (P := P) (p := p) (c := x) (d := y) w2 h2 (by omega) (by omega)
  have oo := td_O_n (w := w) (h := h) (A := A) (B := B) (T := T) (P := P) (p := p) (y := y) hx
  exact td_xm Z hp (fun z => t (oo.mpr (ee.mp z))) (fun z => f (fun o => z (ee.mpr (oo.mp o))))
/-! is a place covered by pattern p -/
theorem td_xc17 {post : Int32 → Prop} {J : Int32 → Prop} {w h : Nat} {A B : Nat → Nat} {T WW HH P : Nat → Int32} {p i : Nat} {x y : Int32} (Z : td_Z w h A B WW HH) (hp : p < 3) (hi : i < B p)
    (t : (∃ j, j < A p ∧ td_I w h A B T P p (x - nI j) (y - nI i)) → post 1)
    (f : (¬ ∃ j, j < A p ∧ td_I w h A B T P p (x - nI j) (y - nI i)) → J (nI (i + 1))) :
    ∀ e j, j + e = A p → (∀ j', j' < j → ¬ td_I w h A B T P p (x - nI j') (y - nI i)) → wX_isCoveredBy_17 post J (nI p) x y (nI i) (nI w) (nI h) T WW HH P (e + 1) (nI j) := by
  obtain ⟨w1, w2, h1, h2, a1, a2, b1, b2⟩ := td_Zn Z hp
  have hin : vp_in (nI p) 3 := vp_in_nI hp (by omega)
  intro e
  induction e with
  | zero =>
    intro j hj hall
    exact And.intro hin (br_t (td_Wle Z hp (by omega) (by omega)) (nm_r (nI_1 i) (f (fun ⟨j', h', m⟩ => hall j' (by omega) m))))
  | succ e ih =>
    intro j hj hall
    refine And.intro hin (br_f (td_Wgt Z hp (by omega)) ?_)
    refine td_xm Z hp (fun m => td_br1 (t ⟨j, by omega, m⟩)) (fun m => td_br0 (nm_r (nI_1 j) (ih (j + 1) (by omega) (fun j' h' => ?_))))
    by_cases e2 : j' = j
    · rw [e2]; exact m
    · exact hall j' (by omega)
theorem td_xc3 {post : Int32 → Prop} {w h : Nat} {A B : Nat → Nat} {T WW HH P : Nat → Int32} {p : Nat} {x y : Int32} (Z : td_Z w h A B WW HH) (hp : p < 3)
    (t : td_C w h A B T P p x y → post 1) (f : ¬ td_C w h A B T P p x y → post 0) :
    ∀ e i, i + e = B p → (∀ i', i' < i → ¬ ∃ j, j < A p ∧ td_I w h A B T P p (x - nI j) (y - nI i')) → wX_isCoveredBy_3 post (nI p) x y (nI w) (nI h) T WW HH P (e + 1) (nI i) := by
  obtain ⟨w1, w2, h1, h2, a1, a2, b1, b2⟩ := td_Zn Z hp
  have hin : vp_in (nI p) 3 := vp_in_nI hp (by omega)
  intro e
  induction e with
  | zero =>
    intro i hi hall
    exact And.intro hin (br_t (td_Hle Z hp (by omega) (by omega)) (f (fun ⟨i', h', m⟩ => hall i' (by omega) m)))
  | succ e ih =>
    intro i hi hall
    refine And.intro hin (br_f (td_Hgt Z hp (by omega)) ⟨A p + 1, td_xc17 Z hp (by omega) (fun q => t ⟨i, by omega, q⟩) (fun q => ?_) (A p) 0 (by omega) (fun j' h' => by omega)⟩)
    refine ih (i + 1) (by omega) (fun i' h' => ?_)
    by_cases e2 : i' = i
    · rw [e2]; exact q
    · exact hall i' (by omega)
theorem td_xc {post : Int32 → Prop} {w h : Nat} {A B : Nat → Nat} {T WW HH P : Nat → Int32} {p : Nat} {x y : Int32} (Z : td_Z w h A B WW HH) (hp : p < 3)
    (t : td_C w h A B T P p x y → post 1) (f : ¬ td_C w h A B T P p x y → post 0) : wpX_isCoveredBy post (nI w, nI h, T, WW, HH, P) (nI p) x y :=
  ⟨B p + 1, td_xc3 Z hp t f (B p) 0 (by omega) (fun i' h' => by omega)⟩
theorem td_yc17 {post : Int32 → Prop} {J : Int32 → Prop} {w h : Nat} {A B : Nat → Nat} {T WW HH P : Nat → Int32} {p i : Nat} {x y : Int32} (Z : td_Z w h A B WW HH) (hp : p < 3) (hi : i < B p)
    (t : (∃ j, j < A p ∧ td_I w h A B T P p (x - nI j) (y - nI i)) → post 1)
    (f : (¬ ∃ j, j < A p ∧ td_I w h A B T P p (x - nI j) (y - nI i)) → J (nI (i + 1))) :
    ∀ e j, j + e = A p → (∀ j', j' < j → ¬ td_I w h A B T P p (x - nI j') (y - nI i)) → wY_coveredBy_17 post J (nI p) x y (nI i) (nI w) (nI h) T P WW HH (e + 1) (nI j) := by
  obtain ⟨w1, w2, h1, h2, a1, a2, b1, b2⟩ := td_Zn Z hp
  have hin : vp_in (nI p) 3 := vp_in_nI hp (by omega)
  intro e
  induction e with
  | zero =>
    intro j hj hall
    exact And.intro hin (br_t (td_Wle Z hp (by omega) (by omega)) (nm_r (nI_1 i) (f (fun ⟨j', h', m⟩ => hall j' (by omega) m))))
  | succ e ih =>
    intro j hj hall
    refine And.intro hin (br_f (td_Wgt Z hp (by omega)) ?_)
    refine td_ym Z hp (fun m => td_br1 (t ⟨j, by omega, m⟩)) (fun m => td_br0 (nm_r (nI_1 j) (ih (j + 1) (by omega) (fun j' h' => ?_))))
    by_cases e2 : j' = j
    · rw [e2]; exact m
    · exact hall j' (by omega)
theorem td_yc3 {post : Int32 → Prop} {w h : Nat} {A B : Nat → Nat} {T WW HH P : Nat → Int32} {p : Nat} {x y : Int32} (Z : td_Z w h A B WW HH) (hp : p < 3)
    (t : td_C w h A B T P p x y → post 1) (f : ¬ td_C w h A B T P p x y → post 0) :
    ∀ e i, i + e = B p → (∀ i', i' < i → ¬ ∃ j, j < A p ∧ td_I w h A B T P p (x - nI j) (y - nI i')) → wY_coveredBy_3 post (nI p) x y (nI w) (nI h) T P WW HH (e + 1) (nI i) := by
  obtain ⟨w1, w2, h1, h2, a1, a2, b1, b2⟩ := td_Zn Z hp
  have hin : vp_in (nI p) 3 := vp_in_nI hp (by omega)
  intro e
  induction e with
  | zero =>
    intro i hi hall
    exact And.intro hin (br_t (td_Hle Z hp (by omega) (by omega)) (f (fun ⟨i', h', m⟩ => hall i' (by omega) m)))
  | succ e ih =>
    intro i hi hall
    refine And.intro hin (br_f (td_Hgt Z hp (by omega)) ⟨A p + 1, td_yc17 Z hp (by omega) (fun q => t ⟨i, by omega, q⟩) (fun q => ?_) (A p) 0 (by omega) (fun j' h' => by omega)⟩)
    refine ih (i + 1) (by omega) (fun i' h' => ?_)
    by_cases e2 : i' = i
    · rw [e2]; exact q
    · exact hall i' (by omega)
theorem td_yc {post : Int32 → Prop} {w h : Nat} {A B : Nat → Nat} {T WW HH P : Nat → Int32} {p : Nat} {x y : Int32} (Z : td_Z w h A B WW HH) (hp : p < 3)
    (t : td_C w h A B T P p x y → post 1) (f : ¬ td_C w h A B T P p x y → post 0) : wpY_coveredBy post (nI w, nI h, T, P, WW, HH) (nI p) x y :=
  ⟨B p + 1, td_yc3 Z hp t f (B p) 0 (by omega) (fun i' h' => by omega)⟩
theorem td_xi2 {post : Int32 → Prop} {w h : Nat} {A B : Nat → Nat} {T WW HH P : Nat → Int32} {x y : Int32} (Z : td_Z w h A B WW HH)
    (t : (∃ p, p < 3 ∧ td_C w h A B T P p x y) → post 1) (f : (¬ ∃ p, p < 3 ∧ td_C w h A B T P p x y) → post 0) :
    ∀ e p, p + e = 3 → (∀ p', p' < p → ¬ td_C w h A B T P p' x y) → wX_isCovered_2 post x y (nI w) (nI h) T WW HH P (e + 1) (nI p) := by
  intro e
  induction e with
  | zero =>
    intro p hp hall
    exact br_t (nI_le (a := 3) (by omega) (by omega)) (f (fun ⟨p', h', m⟩ => hall p' (by omega) m))
  | succ e ih =>
    intro p hp hall
    refine br_f (nI_ge (b := 3) (by omega) (by omega)) ?_
    refine td_xc Z (by omega) (fun m => td_br1 (t ⟨p, by omega, m⟩)) (fun m => td_br0 (nm_r (nI_1 p) (ih (p + 1) (by omega) (fun p' h' => ?_))))
    by_cases e2 : p' = p
    · rw [e2]; exact m
    · exact hall p' (by omega)
theorem td_xi {post : Int32 → Prop} {w h : Nat} {A B : Nat → Nat} {T WW HH P : Nat → Int32} {x y : Int32} (Z : td_Z w h A B WW HH)
    (t : (∃ p, p < 3 ∧ td_C w h A B T P p x y) → post 1) (f : (¬ ∃ p, p < 3 ∧ td_C w h A B T P p x y) → post 0) : wpX_isCovered post (nI w, nI h, T, WW, HH, P) x y :=
  ⟨4, td_xi2 Z t f 3 0 (by omega) (fun p' h' => by omega)⟩
end
section
/-! occurrences: both sides count td_O below 192 -/
theorem td_rowend {w h : Nat} {A B : Nat → Nat} {T P : Nat → Int32} {p x y : Nat} (hw : w ≤ 12) (ha : 1 ≤ A p) (hb : 1 ≤ B p) (hx : x = w) : td_cn (td_O w h A B T P p) (16 * y + x) = td_cn (td_O w h A B T P p) (16 * (y + 1)) :=
  (td_cn_flat _ (by omega) (fun k h1 h2 => td_O_out ha hb (by omega))).symm
theorem td_textend {w h : Nat} {A B : Nat → Nat} {T P : Nat → Int32} {p y : Nat} (hh : h ≤ 12) (ha : 1 ≤ A p) (hb : 1 ≤ B p) (hy : y = h) : td_cn (td_O w h A B T P p) (16 * y) = td_cn (td_O w h A B T P p) 192 :=
  (td_cn_flat _ (by omega) (fun k h1 h2 => td_O_out ha hb (by omega))).symm
theorem td_xo24 {post : Int32 → Prop} {J : Int32 → Int32 → Prop} {w h : Nat} {A B : Nat → Nat} {T WW HH P : Nat → Int32} {p y : Nat} (Z : td_Z w h A B WW HH) (hp : p < 3) (hy : y < h)
    (f : J (nI (td_cn (td_O w h A B T P p) (16 * (y + 1)))) (nI (y + 1))) :
    ∀ e x, x + e = w → wX_occurrences_24 post J (nI p) (nI y) (nI w) (nI h) T WW HH P (e + 1) (nI (td_cn (td_O w h A B T P p) (16 * y + x))) (nI x) := by
  obtain ⟨w1, w2, h1, h2, a1, a2, b1, b2⟩ := td_Zn Z hp
  intro e
  induction e with
  | zero =>
    intro x hx
    rw [td_rowend (p := p) w2 a1 b1 (by omega)]
    exact br_t (nI_le (by omega) (by omega)) (nm_r (nI_1 y) f)
  | succ e ih =>
    intro x hx
    have i2 := ih (x + 1) (by omega)
    refine br_f (nI_ge (by omega) (by omega)) (td_xO Z hp (by omega) (by omega) (fun m => td_br1 ?_) (fun m => td_br0 ?_))
    · rw [show 16 * y + (x + 1) = 16 * y + x + 1 from rfl, td_cn_t m] at i2
      exact nm_r (nI_1 _) (nm_r (nI_1 x) i2)
    · rw [show 16 * y + (x + 1) = 16 * y + x + 1 from rfl, td_cn_f m] at i2
      exact nm_r (nI_1 x) i2
theorem td_xo13 {post : Int32 → Prop} {w h : Nat} {A B : Nat → Nat} {T WW HH P : Nat → Int32} {p : Nat} (Z : td_Z w h A B WW HH) (hp : p < 3)
    (f : post (nI (td_cn (td_O w h A B T P p) 192))) :
    ∀ e y, y + e = h → wX_occurrences_13 post (nI p) (nI w) (nI h) T WW HH P (e + 1) (nI (td_cn (td_O w h A B T P p) (16 * y))) (nI y) := by
  obtain ⟨w1, w2, h1, h2, a1, a2, b1, b2⟩ := td_Zn Z hp
  intro e
  induction e with
  | zero =>
    intro y hy
    rw [td_textend (p := p) h2 a1 b1 (by omega)]
    exact br_t (nI_le (by omega) (by omega)) f
  | succ e ih =>
    intro y hy
    exact br_f (nI_ge (by omega) (by omega)) ⟨w + 1, td_xo24 Z hp (by omega) (ih (y + 1) (by omega)) w 0 (by omega)⟩
theorem td_xocc {post : Int32 → Prop} {w h : Nat} {A B : Nat → Nat} {T WW HH P : Nat → Int32} {p : Nat} (Z : td_Z w h A B WW HH) (hp : p < 3)
    (f : post (nI (td_cn (td_O w h A B T P p) 192))) : wpX_occurrences post (nI w, nI h, T, WW, HH, P) (nI p) := by
  unfold wpX_occurrences
  dsimp only
  exact td_xp (fun _ => td_br1 ⟨h + 1, td_xo13 Z hp f h 0 (by omega)⟩) (fun z => absurd ⟨p, hp, rfl⟩ z)
theorem td_yo14 {post : Int32 → Prop} {w h : Nat} {A B : Nat → Nat} {T WW HH P : Nat → Int32} {p : Nat} (Z : td_Z w h A B WW HH) (hp : p < 3)
    (f : post (nI (td_cn (td_O w h A B T P p) 192))) :
    ∀ e k, k + e = 192 → wY_occurrences_14 post (nI p) (nI w) (nI h) T P WW HH (e + 1) (nI (td_cn (td_O w h A B T P p) k)) (nI k) := by
  intro e
  induction e with
  | zero =>
    intro k hk
    obtain rfl : k = 192 := by omega
    exact br_t (nI_le (a := 192) (by omega) (by omega)) f
  | succ e ih =>
    intro k hk
    have i2 := ih (k + 1) (by omega)
    refine br_f (nI_ge (b := 192) (by omega) (by omega)) ⟨by decide, by decide, td_yO Z hp (by omega) (fun m => td_br1 ?_) (fun m => td_br0 ?_)⟩
    · rw [td_cn_t m] at i2
      exact nm_r (nI_1 _) (nm_r (nI_1 k) i2)
    · rw [td_cn_f m] at i2
      exact nm_r (nI_1 k) i2
theorem td_yocc {post : Int32 → Prop} {w h : Nat} {A B : Nat → Nat} {T WW HH P : Nat → Int32} {p : Nat} (Z : td_Z w h A B WW HH) (hp : p < 3)
    (f : post (nI (td_cn (td_O w h A B T P p) 192))) : wpY_occurrences post (nI w, nI h, T, P, WW, HH) (nI p) := by
  unfold wpY_occurrences
  dsimp only
  exact td_yp (fun _ => td_br1 ⟨193, td_yo14 Z hp f 192 0 (by omega)⟩) (fun z => absurd ⟨p, hp, rfl⟩ z)
/-! next: the first place from v on -/
def td_N (w h : Nat) (A B : Nat → Nat) (T P : Nat → Int32) (p : Nat) (v : Int32) (k : Nat) : Prop := ¬ nI k < v ∧ td_O w h A B T P p k
theorem td_xn22 {post : Int32 → Prop} {J : Int32 → Prop} {w h : Nat} {A B : Nat → Nat} {T WW HH P : Nat → Int32} {p y : Nat} {v : Int32} (Z : td_Z w h A B WW HH) (hp : p < 3) (hy : y < h)
    (t : ∀ k, k < 192 → td_N w h A B T P p v k → (∀ k', k' < k → ¬ td_N w h A B T P p v k') → post (nI k))
    (f : (∀ k', k' < 16 * (y + 1) → ¬ td_N w h A B T P p v k') → J (nI (y + 1))) :
    ∀ e x, x + e = w → (∀ k', k' < 16 * y + x → ¬ td_N w h A B T P p v k') → wX_next_22 post J (nI p) v (nI y) (nI w) (nI h) T WW HH P (e + 1) (nI x) := by
  obtain ⟨w1, w2, h1, h2, a1, a2, b1, b2⟩ := td_Zn Z hp
  intro e
  induction e with
  | zero =>
    intro x hx hall
    refine br_t (nI_le (by omega) (by omega)) (nm_r (nI_1 y) (f (fun k' h' => ?_)))
    by_cases c : k' < 16 * y + x
    · exact hall k' c
    · exact fun z => td_O_out a1 b1 (by omega) z.2
  | succ e ih =>
    intro x hx hall
    have go : ¬ td_N w h A B T P p v (16 * y + x) → ∀ k', k' < 16 * y + (x + 1) → ¬ td_N w h A B T P p v k' := by
      intro z k' h'
      by_cases c : k' < 16 * y + x
      · exact hall k' c
      · obtain rfl : k' = 16 * y + x := by omega
        exact z
    refine br_f (nI_ge (by omega) (by omega)) (td_xpn rfl rfl (br_c (fun c => nm_r (nI_1 x) (ih (x + 1) (by omega) (go (fun z => z.1 c)))) (fun c => ?_)))
    exact td_xO Z hp (by omega) (by omega) (fun m => td_br1 (t _ (by omega) ⟨c, m⟩ hall)) (fun m => td_br0 (nm_r (nI_1 x) (ih (x + 1) (by omega) (go (fun z => m z.2)))))
theorem td_xn11 {post : Int32 → Prop} {w h : Nat} {A B : Nat → Nat} {T WW HH P : Nat → Int32} {p : Nat} {v : Int32} (Z : td_Z w h A B WW HH) (hp : p < 3)
    (t : ∀ k, k < 192 → td_N w h A B T P p v k → (∀ k', k' < k → ¬ td_N w h A B T P p v k') → post (nI k))
    (f : (∀ k', k' < 192 → ¬ td_N w h A B T P p v k') → post (-2)) :
    ∀ e y, y + e = h → (∀ k', k' < 16 * y → ¬ td_N w h A B T P p v k') → wX_next_11 post (nI p) v (nI w) (nI h) T WW HH P (e + 1) (nI y) := by
  obtain ⟨w1, w2, h1, h2, a1, a2, b1, b2⟩ := td_Zn Z hp
  intro e
  induction e with
  | zero =>
    intro y hy hall
    refine br_t (nI_le (by omega) (by omega)) (f (fun k' h' => ?_))
    by_cases c : k' < 16 * y
    · exact hall k' c
    · exact fun z => td_O_out a1 b1 (by omega) z.2
  | succ e ih =>
    intro y hy hall
    exact br_f (nI_ge (by omega) (by omega)) ⟨w + 1, td_xn22 Z hp (by omega) t (ih (y + 1) (by omega)) w 0 (by omega) hall⟩
theorem td_xnext {post : Int32 → Prop} {w h : Nat} {A B : Nat → Nat} {T WW HH P : Nat → Int32} {p : Nat} {v : Int32} (Z : td_Z w h A B WW HH) (hp : p < 3)
    (t : ∀ k, k < 192 → td_N w h A B T P p v k → (∀ k', k' < k → ¬ td_N w h A B T P p v k') → post (nI k))
    (f : (∀ k', k' < 192 → ¬ td_N w h A B T P p v k') → post (-2)) : wpX_next post (nI w, nI h, T, WW, HH, P) (nI p) v := by
  unfold wpX_next
  dsimp only
  exact td_xp (fun _ => td_br1 ⟨h + 1, td_xn11 Z hp t f h 0 (by omega) (fun k' h' => by omega)⟩) (fun z => absurd ⟨p, hp, rfl⟩ z)
theorem td_yn12 {post : Int32 → Prop} {w h : Nat} {A B : Nat → Nat} {T WW HH P : Nat → Int32} {p : Nat} {v : Int32} (Z : td_Z w h A B WW HH) (hp : p < 3)
    (t : ∀ k, k < 192 → td_N w h A B T P p v k → (∀ k', k' < k → ¬ td_N w h A B T P p v k') → post (nI k))
    (f : (∀ k', k' < 192 → ¬ td_N w h A B T P p v k') → post (-2)) :
    ∀ e k, k + e = 192 → (∀ k', k' < k → ¬ td_N w h A B T P p v k') → wY_next_12 post (nI p) v (nI w) (nI h) T P WW HH (e + 1) (nI k) := by
  intro e
  induction e with
  | zero =>
    intro k hk hall
    obtain rfl : k = 192 := by omega
    exact br_t (nI_le (a := 192) (by omega) (by omega)) (f hall)
  | succ e ih =>
    intro k hk hall
    have go : ¬ td_N w h A B T P p v k → ∀ k', k' < k + 1 → ¬ td_N w h A B T P p v k' := by
      intro z k' h'
      by_cases c : k' < k
      · exact hall k' c
      · obtain rfl : k' = k := by omega
        exact z
    refine br_f (nI_ge (b := 192) (by omega) (by omega)) (br_c (fun c => nm_r (nI_1 k) (ih (k + 1) (by omega) (go (fun z => z.1 c)))) (fun c => ⟨by decide, by decide, ?_⟩))
    exact td_yO Z hp (by omega) (fun m => td_br1 (t _ (by omega) ⟨c, m⟩ hall)) (fun m => td_br0 (nm_r (nI_1 k) (ih (k + 1) (by omega) (go (fun z => m z.2)))))
theorem td_ynext {post : Int32 → Prop} {w h : Nat} {A B : Nat → Nat} {T WW HH P : Nat → Int32} {p : Nat} {v : Int32} (Z : td_Z w h A B WW HH) (hp : p < 3)
    (t : ∀ k, k < 192 → td_N w h A B T P p v k → (∀ k', k' < k → ¬ td_N w h A B T P p v k') → post (nI k))
    (f : (∀ k', k' < 192 → ¬ td_N w h A B T P p v k') → post (-2)) : wpY_next post (nI w, nI h, T, P, WW, HH) (nI p) v := by
  unfold wpY_next
  dsimp only
  exact td_yp (fun _ => td_br1 ⟨193, td_yn12 Z hp t f 192 0 (by omega) (fun k' h' => by omega)⟩) (fun z => absurd ⟨p, hp, rfl⟩ z)
/-! covered: both sides count td_V below 192 -/
theorem td_V_n {w h : Nat} {A B : Nat → Nat} {T P : Nat → Int32} {x y : Nat} (hw : w ≤ 12) (hx : x < w) (hy : y < h) : td_V w h A B T P (16 * y + x) ↔ ∃ p, p < 3 ∧ td_C w h A B T P p (nI x) (nI y) := by
  have e1 : (16 * y + x) % 16 = x := by omega
  have e2 : (16 * y + x) / 16 = y := by omega
  unfold td_V
  rw [e1, e2]
  exact ⟨fun z => z.2.2, fun z => ⟨hx, hy, z⟩⟩
theorem td_xv14 {post : Int32 → Prop} {J : Int32 → Int32 → Prop} {w h : Nat} {A B : Nat → Nat} {T WW HH P : Nat → Int32} {y : Nat} (Z : td_Z w h A B WW HH) (hy : y < h)
    (f : J (nI (td_cn (td_V w h A B T P) (16 * (y + 1)))) (nI (y + 1))) :
    ∀ e x, x + e = w → wX_covered_14 post J (nI y) (nI w) (nI h) T WW HH P (e + 1) (nI (td_cn (td_V w h A B T P) (16 * y + x))) (nI x) := by
  obtain ⟨w1, w2, h1, h2, _⟩ := td_Zn Z (p := 0) (by omega)
  intro e
  induction e with
  | zero =>
    intro x hx
    have e1 : td_cn (td_V w h A B T P) (16 * y + x) = td_cn (td_V w h A B T P) (16 * (y + 1)) :=
      (td_cn_flat _ (by omega) (fun k h1 h2 z => by have := z.1; omega)).symm
    rw [e1]
    exact br_t (nI_le (by omega) (by omega)) (nm_r (nI_1 y) f)
  | succ e ih =>
    intro x hx
    have i2 := ih (x + 1) (by omega)
    have vv := td_V_n (A := A) (B := B) (T := T) (P := P) w2 (x := x) (by omega) hy
    refine br_f (nI_ge (by omega) (by omega)) (td_xi Z (fun m => td_br1 ?_) (fun m => td_br0 ?_))
    · rw [show 16 * y + (x + 1) = 16 * y + x + 1 from rfl, td_cn_t (vv.mpr m)] at i2
      exact nm_r (nI_1 _) (nm_r (nI_1 x) i2)
    · rw [show 16 * y + (x + 1) = 16 * y + x + 1 from rfl, td_cn_f (fun z => m (vv.mp z))] at i2
      exact nm_r (nI_1 x) i2
theorem td_xv4 {post : Int32 → Prop} {w h : Nat} {A B : Nat → Nat} {T WW HH P : Nat → Int32} (Z : td_Z w h A B WW HH)
    (f : post (nI (td_cn (td_V w h A B T P) 192))) :
    ∀ e y, y + e = h → wX_covered_4 post (nI w) (nI h) T WW HH P (e + 1) (nI (td_cn (td_V w h A B T P) (16 * y))) (nI y) := by
  obtain ⟨w1, w2, h1, h2, _⟩ := td_Zn Z (p := 0) (by omega)
  intro e
  induction e with
  | zero =>
    intro y hy
    have e1 : td_cn (td_V w h A B T P) (16 * y) = td_cn (td_V w h A B T P) 192 :=
      (td_cn_flat _ (by omega) (fun k h1 h2 z => by have := z.2.1; omega)).symm
    rw [e1]
    exact br_t (nI_le (by omega) (by omega)) f
  | succ e ih =>
    intro y hy
    exact br_f (nI_ge (by omega) (by omega)) ⟨w + 1, td_xv14 Z (by omega) (ih (y + 1) (by omega)) w 0 (by omega)⟩
theorem td_xcov {post : Int32 → Prop} {w h : Nat} {A B : Nat → Nat} {T WW HH P : Nat → Int32} (Z : td_Z w h A B WW HH)
    (f : post (nI (td_cn (td_V w h A B T P) 192))) : wpX_covered post (nI w, nI h, T, WW, HH, P) :=
  ⟨h + 1, td_xv4 Z f h 0 (by omega)⟩
theorem td_yv4 {post : Int32 → Prop} {w h : Nat} {A B : Nat → Nat} {T WW HH P : Nat → Int32} (Z : td_Z w h A B WW HH)
    (f : post (nI (td_cn (td_V w h A B T P) 192))) :
    ∀ e k, k + e = 192 → wY_covered_4 post (nI w) (nI h) T P WW HH (e + 1) (nI (td_cn (td_V w h A B T P) k)) (nI k) := by
  obtain ⟨w1, w2, h1, h2, _⟩ := td_Zn Z (p := 0) (by omega)
  intro e
  induction e with
  | zero =>
    intro k hk
    obtain rfl : k = 192 := by omega
    exact br_t (nI_le (a := 192) (by omega) (by omega)) f
  | succ e ih =>
    intro k hk
    have i2 := ih (k + 1) (by omega)
    have yes : td_V w h A B T P k → ∀ x1 : Int32, x1 = nI (td_cn (td_V w h A B T P) k) + 1 → ∀ x2 : Int32, x2 = nI k + 1 → wY_covered_4 post (nI w) (nI h) T P WW HH (e + 1) x1 x2 := by
      intro m
      rw [td_cn_t m] at i2
      exact nm_r (nI_1 _) (nm_r (nI_1 k) i2)
    have no : ¬ td_V w h A B T P k → ∀ x2 : Int32, x2 = nI k + 1 → wY_covered_4 post (nI w) (nI h) T P WW HH (e + 1) (nI (td_cn (td_V w h A B T P) k)) x2 := by
      intro m
      rw [td_cn_f m] at i2
      exact nm_r (nI_1 k) i2
    have inn := td_In_n (c := k % 16) (d := k / 16) w2 h2 (by omega) (by omega)
    refine br_f (nI_ge (b := 192) (by omega) (by omega)) ⟨by decide, nm_r (td_r16 (by omega)) ⟨by decide, nm_r (td_d16 (by omega)) ?_⟩⟩
    refine td_yin w2 h2 (fun q => td_br1 ?_) (fun q => td_br0 (no (fun z => q (inn.mpr ⟨z.1, z.2.1⟩))))
    have q2 := inn.mp q
    refine td_yc (p := 0) Z (by omega) (fun m0 => td_br1 (yes ⟨q2.1, q2.2, 0, by omega, m0⟩)) (fun m0 => td_br0 ?_)
    refine td_yc (p := 1) Z (by omega) (fun m1 => td_br1 (yes ⟨q2.1, q2.2, 1, by omega, m1⟩)) (fun m1 => td_br0 ?_)
    refine td_yc (p := 2) Z (by omega) (fun m2 => td_br1 (yes ⟨q2.1, q2.2, 2, by omega, m2⟩)) (fun m2 => td_br0 (no ?_))
    intro ⟨_, _, p, hp, m⟩
    match p, hp, m with
    | 0, _, m => exact m0 m
    | 1, _, m => exact m1 m
    | 2, _, m => exact m2 m
theorem td_ycov {post : Int32 → Prop} {w h : Nat} {A B : Nat → Nat} {T WW HH P : Nat → Int32} (Z : td_Z w h A B WW HH)
    (f : post (nI (td_cn (td_V w h A B T P) 192))) : wpY_covered post (nI w, nI h, T, P, WW, HH) :=
  ⟨193, td_yv4 Z f 192 0 (by omega)⟩
end
section
/-! overlaps: both sides sum the couples of each place -/
theorem td_c1 {a b c : Nat} (ha : a < 100) (hb : b < 100) (hc : c < 100) : nI a ≤ nI b - nI c ↔ c + a ≤ b := by
  rw [Int32.le_iff_toInt_le, pk_sub_toInt (by omega) (by omega), nI_toInt (by omega)]
  omega
theorem td_c2 {a b c : Nat} (ha : a < 100) (hb : b < 100) (hc : c < 100) : nI a ≤ -(nI b - nI c) ↔ b + a ≤ c := by
  rw [Int32.neg_sub, td_c1 ha hc hb]
theorem td_c3 (x r a : Nat) : nI x + (nI r - nI a) = nI (x + r) - nI a := by
  rw [← nI_add, Int32.sub_eq_add_neg, Int32.sub_eq_add_neg, Int32.add_assoc]
theorem td_c4 (r a : Nat) : nI r - nI a + 1 = nI (r + 1) - nI a := by
  rw [← nI_1, Int32.sub_eq_add_neg, Int32.sub_eq_add_neg, Int32.add_assoc, Int32.add_assoc, Int32.add_comm (-nI a)]
theorem td_c5 (a : Nat) : (1 : Int32) = nI (a + 1) - nI a := by
  rw [pk_sub (by omega), Nat.add_sub_cancel_left]
  rfl
theorem td_xl40 {post : Int32 → Prop} {J : Int32 → Int32 → Prop} {w h : Nat} {A B : Nat → Nat} {T WW HH P : Nat → Int32} {p x y e : Nat} (Z : td_Z w h A B WW HH) (hp : p < 3) (hM : td_M w h A B T P p x y) (he : e < B p)
    (f : J (nI (td_cn (td_G w h A B T P p (16 * y + x)) (16 * (y + e) + (x + 2 * A p - A p)))) (nI (e + 1))) :
    ∀ n r, r + n = 2 * A p → 1 ≤ r → (e = 0 → A p < r) → wX_laterOverlapsWith_40 post J (nI p) (nI x) (nI y) (nI e) (nI w) (nI h) T WW HH P (n + 1) (nI (td_cn (td_G w h A B T P p (16 * y + x)) (16 * (y + e) + (x + r - A p)))) (nI r - nI (A p)) := by
  obtain ⟨w1, w2, h1, h2, a1, a2, b1, b2⟩ := td_Zn Z hp
  have hin : vp_in (nI p) 3 := vp_in_nI hp (by omega)
  have hx := hM.1
  have hy := hM.2.1
  intro n
  induction n with
  | zero =>
    intro r hr r1 r0
    obtain rfl : r = 2 * A p := by omega
    refine And.intro hin (br_t ?_ (nm_r (nI_1 e) f))
    rw [td_ZW Z hp, td_c1 (by omega) (by omega) (by omega)]
    omega
  | succ n ih =>
    intro r hr r1 r0
    have i2 := ih (r + 1) (by omega) (by omega) (by omega)
    refine And.intro hin (br_f ?_ ?_)
    · rw [td_ZW Z hp, td_c1 (by omega) (by omega) (by omega)]
      omega
    · rw [td_c3, nI_add]
      by_cases g : x + r < A p
      · rw [td_G_neg g] at i2
        exact td_xm Z hp (fun m => absurd (td_I_F m) (td_F_x w2 (pk_sneg (by omega) g))) (fun m => td_br0 (nm_r (td_c4 r (A p)) i2))
      · rw [pk_sub (a := x + r) (b := A p) (by omega)]
        have ee := td_I_n (A := A) (B := B) (T := T) (P := P) (p := p) (c := x + r - A p) (d := y + e) w2 h2 (by omega) (by omega)
        have gg := td_G_hit w2 hM he r0 r1 (by omega) (by omega)
        rw [show 16 * (y + e) + (x + (r + 1) - A p) = 16 * (y + e) + (x + r - A p) + 1 by omega] at i2
        refine td_xm Z hp (fun m => td_br1 ?_) (fun m => td_br0 ?_)
        · rw [td_cn_t (gg.mpr (ee.mp m))] at i2
          exact nm_r (nI_1 _) (nm_r (td_c4 r (A p)) i2)
        · rw [td_cn_f (fun z => m (ee.mpr (gg.mp z)))] at i2
          exact nm_r (td_c4 r (A p)) i2
theorem td_xl6 {post : Int32 → Prop} {w h : Nat} {A B : Nat → Nat} {T WW HH P : Nat → Int32} {p x y : Nat} (Z : td_Z w h A B WW HH) (hp : p < 3) (hM : td_M w h A B T P p x y)
    (f : post (nI (td_cn (td_G w h A B T P p (16 * y + x)) 192))) :
    ∀ n e c, e + n = B p → ((e = 0 ∧ c = 0) ∨ (0 < e ∧ c = td_cn (td_G w h A B T P p (16 * y + x)) (16 * (y + e) + (x + 1 - A p)))) → wX_laterOverlapsWith_6 post (nI p) (nI x) (nI y) (nI w) (nI h) T WW HH P (n + 1) (nI c) (nI e) := by
  obtain ⟨w1, w2, h1, h2, a1, a2, b1, b2⟩ := td_Zn Z hp
  have hin : vp_in (nI p) 3 := vp_in_nI hp (by omega)
  have hx := hM.1
  have hy := hM.2.1
  intro n
  induction n with
  | zero =>
    intro e c he hc
    obtain rfl : e = B p := by omega
    obtain rfl : c = td_cn (td_G w h A B T P p (16 * y + x)) (16 * (y + B p) + (x + 1 - A p)) := by
      rcases hc with hc | hc
      · omega
      · exact hc.2
    rw [td_G_end w2 h2 a1 hx hy] at f
    exact And.intro hin (br_t (td_Hle Z hp (by omega) (by omega)) f)
  | succ n ih =>
    intro e c he hc
    have i2 := ih (e + 1) _ (by omega) (Or.inr ⟨by omega, rfl⟩)
    rw [td_G_row w2 a1 hx] at i2
    refine And.intro hin (br_f (td_Hgt Z hp (by omega)) ?_)
    rcases hc with ⟨rfl, rfl⟩ | ⟨e0, rfl⟩
    · have l := td_xl40 (post := post) Z hp hM (by omega) i2 (A p - 1) (A p + 1) (by omega) (by omega) (by omega)
      rw [show 16 * (y + 0) + (x + (A p + 1) - A p) = 16 * y + x + 1 by omega, td_G_0, ← td_c5] at l
      exact br_t rfl ⟨_, l⟩
    · have l := td_xl40 (post := post) Z hp hM (by omega) i2 (2 * A p - 1) 1 (by omega) (by omega) (by omega)
      exact br_f (nI_ne0 e0 (by omega)) ⟨hin, nm_r (by rw [td_ZW Z hp]; rfl) ⟨_, l⟩⟩
theorem td_xlat {post : Int32 → Prop} {w h : Nat} {A B : Nat → Nat} {T WW HH P : Nat → Int32} {p x y : Nat} (Z : td_Z w h A B WW HH) (hp : p < 3) (hM : td_M w h A B T P p x y)
    (f : post (nI (td_cn (td_G w h A B T P p (16 * y + x)) 192))) : wpX_laterOverlapsWith post (nI w, nI h, T, WW, HH, P) (nI p) (nI x) (nI y) :=
  ⟨B p + 1, td_xl6 Z hp hM f (B p) 0 0 (by omega) (Or.inl ⟨rfl, rfl⟩)⟩
theorem td_xs24 {post : Int32 → Prop} {J : Int32 → Int32 → Prop} {w h : Nat} {A B : Nat → Nat} {T WW HH P : Nat → Int32} {p y : Nat} (Z : td_Z w h A B WW HH) (hp : p < 3) (hy : y < h)
    (f : J (nI (td_S (td_G w h A B T P p) 192 (16 * (y + 1)))) (nI (y + 1))) :
    ∀ e x, x + e = w → wX_overlaps_24 post J (nI p) (nI y) (nI w) (nI h) T WW HH P (e + 1) (nI (td_S (td_G w h A B T P p) 192 (16 * y + x))) (nI x) := by
  obtain ⟨w1, w2, h1, h2, a1, a2, b1, b2⟩ := td_Zn Z hp
  intro e
  induction e with
  | zero =>
    intro x hx
    have e1 : td_S (td_G w h A B T P p) 192 (16 * y + x) = td_S (td_G w h A B T P p) 192 (16 * (y + 1)) :=
      (td_S_flat _ (by omega) (fun k h1 h2 t g => td_O_out a1 b1 (by omega) g.2.2.1)).symm
    rw [e1]
    exact br_t (nI_le (by omega) (by omega)) (nm_r (nI_1 y) f)
  | succ e ih =>
    intro x hx
    have i2 := ih (x + 1) (by omega)
    refine br_f (nI_ge (by omega) (by omega)) (td_xO Z hp (by omega) (by omega) (fun m => td_br1 ?_) (fun m => td_br0 ?_))
    · rw [show 16 * y + (x + 1) = 16 * y + x + 1 from rfl, td_S_s] at i2
      exact td_xlat Z hp ((td_O_n (by omega)).mp m) (nm_r (nI_add _ _) (nm_r (nI_1 x) i2))
    · rw [show 16 * y + (x + 1) = 16 * y + x + 1 from rfl, td_S_f (fun t g => m g.2.2.1)] at i2
      exact nm_r (nI_1 x) i2
theorem td_xs13 {post : Int32 → Prop} {w h : Nat} {A B : Nat → Nat} {T WW HH P : Nat → Int32} {p : Nat} (Z : td_Z w h A B WW HH) (hp : p < 3)
    (f : post (nI (td_S (td_G w h A B T P p) 192 192))) :
    ∀ e y, y + e = h → wX_overlaps_13 post (nI p) (nI w) (nI h) T WW HH P (e + 1) (nI (td_S (td_G w h A B T P p) 192 (16 * y))) (nI y) := by
  obtain ⟨w1, w2, h1, h2, a1, a2, b1, b2⟩ := td_Zn Z hp
  intro e
  induction e with
  | zero =>
    intro y hy
    have e1 : td_S (td_G w h A B T P p) 192 (16 * y) = td_S (td_G w h A B T P p) 192 192 :=
      (td_S_flat _ (by omega) (fun k h1 h2 t g => td_O_out a1 b1 (by omega) g.2.2.1)).symm
    rw [e1]
    exact br_t (nI_le (by omega) (by omega)) f
  | succ e ih =>
    intro y hy
    exact br_f (nI_ge (by omega) (by omega)) ⟨w + 1, td_xs24 Z hp (by omega) (ih (y + 1) (by omega)) w 0 (by omega)⟩
theorem td_xover {post : Int32 → Prop} {w h : Nat} {A B : Nat → Nat} {T WW HH P : Nat → Int32} {p : Nat} (Z : td_Z w h A B WW HH) (hp : p < 3)
    (f : post (nI (td_S (td_G w h A B T P p) 192 192))) : wpX_overlaps post (nI w, nI h, T, WW, HH, P) (nI p) := by
  unfold wpX_overlaps
  dsimp only
  exact td_xp (fun _ => td_br1 ⟨h + 1, td_xs13 Z hp f h 0 (by omega)⟩) (fun z => absurd ⟨p, hp, rfl⟩ z)
theorem td_ys26 {post : Int32 → Prop} {J : Int32 → Int32 → Prop} {w h : Nat} {A B : Nat → Nat} {T WW HH P : Nat → Int32} {p k : Nat} (Z : td_Z w h A B WW HH) (hp : p < 3) (hk : k < 192)
    (f : J (nI (td_S (td_G w h A B T P p) 192 (k + 1))) (nI (k + 1))) :
    ∀ e t, t + e = 192 → k < t → wY_overlaps_26 post J (nI p) (nI k) (nI w) (nI h) T P WW HH (e + 1) (nI (td_S (td_G w h A B T P p) 192 k + td_cn (td_G w h A B T P p k) t)) (nI t) := by
  obtain ⟨w1, w2, h1, h2, a1, a2, b1, b2⟩ := td_Zn Z hp
  have hin : vp_in (nI p) 3 := vp_in_nI hp (by omega)
  intro e
  induction e with
  | zero =>
    intro t ht hkt
    obtain rfl : t = 192 := by omega
    exact br_t (nI_le (a := 192) (by omega) (by omega)) (nm_r (nI_1 k) f)
  | succ e ih =>
    intro t ht hkt
    have i2 := ih (t + 1) (by omega) (by omega)
    have yes : td_G w h A B T P p k t → ∀ x2 : Int32, x2 = nI (td_S (td_G w h A B T P p) 192 k + td_cn (td_G w h A B T P p k) t) + 1 → ∀ x4 : Int32, x4 = nI t + 1 → wY_overlaps_26 post J (nI p) (nI k) (nI w) (nI h) T P WW HH (e + 1) x2 x4 := by
      intro m
      rw [td_cn_t m] at i2
      exact nm_r (nI_1 _) (nm_r (nI_1 t) i2)
    have no : ¬ td_G w h A B T P p k t → ∀ x4 : Int32, x4 = nI t + 1 → wY_overlaps_26 post J (nI p) (nI k) (nI w) (nI h) T P WW HH (e + 1) (nI (td_S (td_G w h A B T P p) 192 k + td_cn (td_G w h A B T P p k) t)) x4 := by
      intro m
      rw [td_cn_f m] at i2
      exact nm_r (nI_1 t) i2
    refine br_f (nI_ge (b := 192) (by omega) (by omega)) ⟨by decide, by decide, nm_r (e' := nI (t % 16) - nI (k % 16)) (by rw [td_r16 (by omega), td_r16 (by omega)]) ⟨by decide, by decide, nm_r (e' := nI (t / 16) - nI (k / 16)) (by rw [td_d16 (by omega), td_d16 (by omega)]) ⟨hin, ?_⟩⟩⟩
    rw [td_ZW Z hp, td_ZH Z hp, td_c1 (by omega) (by omega) (by omega), td_c1 (by omega) (by omega) (by omega), td_c2 (by omega) (by omega) (by omega)]
    have out : ¬ td_G w h A B T P p k t → wY_overlaps_96 post J (wY_overlaps_26 post J (nI p) (nI k) (nI w) (nI h) T P WW HH (e + 1)) (nI p) (nI (td_S (td_G w h A B T P p) 192 k + td_cn (td_G w h A B T P p k) t)) (nI k) (nI t) (nI w) (nI h) T P WW HH :=
      fun m => td_br0 (no m)
    refine br_c (fun c => out (fun g => by have := g.2.1; omega)) (fun c1 => ⟨hin, br_c (fun c => out (fun g => by have := g.2.1; omega)) (fun c2 => ⟨hin, br_c (fun c => out (fun g => by have := g.2.1; omega)) (fun c3 => td_br1 ⟨by decide, by decide, ?_⟩)⟩)⟩)
    refine td_yO Z hp (by omega) (fun mk => td_br1 ⟨by decide, by decide, ?_⟩) (fun mk => td_br0 (no (fun g => mk g.2.2.1)))
    exact td_yO Z hp (by omega) (fun mt => td_br1 (yes ⟨hkt, ⟨by omega, by omega, by omega⟩, mk, mt⟩)) (fun mt => td_br0 (no (fun g => mt g.2.2.2)))
theorem td_ys14 {post : Int32 → Prop} {w h : Nat} {A B : Nat → Nat} {T WW HH P : Nat → Int32} {p : Nat} (Z : td_Z w h A B WW HH) (hp : p < 3)
    (f : post (nI (td_S (td_G w h A B T P p) 192 192))) :
    ∀ e k, k + e = 192 → wY_overlaps_14 post (nI p) (nI w) (nI h) T P WW HH (e + 1) (nI (td_S (td_G w h A B T P p) 192 k)) (nI k) := by
  intro e
  induction e with
  | zero =>
    intro k hk
    obtain rfl : k = 192 := by omega
    exact br_t (nI_le (a := 192) (by omega) (by omega)) f
  | succ e ih =>
    intro k hk
    have l := td_ys26 (post := post) (T := T) (P := P) Z hp (by omega) (ih (k + 1) (by omega)) e (k + 1) (by omega) (by omega)
    rw [td_G_0, Nat.add_zero] at l
    exact br_f (nI_ge (b := 192) (by omega) (by omega)) (nm_r (nI_1 k) ⟨_, l⟩)
theorem td_yover {post : Int32 → Prop} {w h : Nat} {A B : Nat → Nat} {T WW HH P : Nat → Int32} {p : Nat} (Z : td_Z w h A B WW HH) (hp : p < 3)
    (f : post (nI (td_S (td_G w h A B T P p) 192 192))) : wpY_overlaps post (nI w, nI h, T, P, WW, HH) (nI p) := by
  unfold wpY_overlaps
  dsimp only
  exact td_yp (fun _ => td_br1 ⟨193, td_ys14 Z hp f 192 0 (by omega)⟩) (fun z => absurd ⟨p, hp, rfl⟩ z)
end
section
/-! what changes the state: write, shape, paint, copy, stamp; and letter -/
theorem td_xwt {post : Int32 → SX → Prop} {w h : Nat} {T WW HH P : Nat → Int32} {c d : Nat} {v : Int32} (hw : w ≤ 12) (hh : h ≤ 12) (hc : c < w) (hd : d < h) (hv : td_L v)
    (f : post 1 (nI w, nI h, upd T (16 * d + c) v, WW, HH, P)) : wpX_write post (nI w, nI h, T, WW, HH, P) (nI c) (nI d) v := by
  unfold wpX_write
  dsimp only
  refine td_xin hw hh (fun _ => td_br1 ?_) (fun z => absurd ⟨c, d, hc, hd, rfl, rfl⟩ z)
  refine td_xl (fun _ => td_br1 ?_) (fun z => absurd hv z)
  exact td_xpn rfl rfl ⟨vp_in_nI (by omega) (by omega), nm_r (by rw [nI_clamp (by omega)]) f⟩
theorem td_xwf {post : Int32 → SX → Prop} {w h : Nat} {T WW HH P : Nat → Int32} {x y v : Int32} (hw : w ≤ 12) (hh : h ≤ 12) (q : ¬ (td_In w h x y ∧ td_L v))
    (f : post 0 (nI w, nI h, T, WW, HH, P)) : wpX_write post (nI w, nI h, T, WW, HH, P) x y v := by
  unfold wpX_write
  dsimp only
  refine td_xin hw hh (fun q1 => td_br1 ?_) (fun _ => td_br0 f)
  exact td_xl (fun q2 => absurd ⟨q1, q2⟩ q) (fun _ => td_br0 f)
theorem td_ywt {post : Int32 → SY → Prop} {w h : Nat} {T WW HH P : Nat → Int32} {c d : Nat} {v : Int32} (hw : w ≤ 12) (hh : h ≤ 12) (hc : c < w) (hd : d < h) (hv : td_L v)
    (f : post 1 (nI w, nI h, upd T (16 * d + c) v, P, WW, HH)) : wpY_write post (nI w, nI h, T, P, WW, HH) (nI c) (nI d) v := by
  unfold wpY_write
  dsimp only
  refine td_yin hw hh (fun _ => td_br1 ?_) (fun z => absurd ⟨c, d, hc, hd, rfl, rfl⟩ z)
  refine td_yl (fun _ => td_br1 ?_) (fun z => absurd hv z)
  rw [td_e0]
  exact ⟨vp_in_nI (by omega) (by omega), nm_r (by rw [nI_clamp (by omega)]) f⟩
theorem td_ywf {post : Int32 → SY → Prop} {w h : Nat} {T WW HH P : Nat → Int32} {x y v : Int32} (hw : w ≤ 12) (hh : h ≤ 12) (q : ¬ (td_In w h x y ∧ td_L v))
    (f : post 0 (nI w, nI h, T, P, WW, HH)) : wpY_write post (nI w, nI h, T, P, WW, HH) x y v := by
  unfold wpY_write
  dsimp only
  refine td_yin hw hh (fun q1 => td_br1 ?_) (fun _ => td_br0 f)
  exact td_yl (fun q2 => absurd ⟨q1, q2⟩ q) (fun _ => td_br0 f)
/-! letter -/
theorem td_xlt {post : Int32 → Prop} {w h : Nat} {T WW HH P : Nat → Int32} {c d : Nat} (hw : w ≤ 12) (hh : h ≤ 12) (hc : c < w) (hd : d < h)
    (f : post (T (16 * d + c))) : wpX_letter post (nI w, nI h, T, WW, HH, P) (nI c) (nI d) := by
  unfold wpX_letter
  dsimp only
  refine td_xin hw hh (fun _ => td_br1 ?_) (fun z => absurd ⟨c, d, hc, hd, rfl, rfl⟩ z)
  refine td_xpn rfl rfl ⟨vp_in_nI (by omega) (by omega), ?_⟩
  rw [nI_clamp (by omega)]
  exact f
theorem td_xlf {post : Int32 → Prop} {w h : Nat} {T WW HH P : Nat → Int32} {x y : Int32} (hw : w ≤ 12) (hh : h ≤ 12) (q : ¬ td_In w h x y)
    (f : post (-1)) : wpX_letter post (nI w, nI h, T, WW, HH, P) x y := by
  unfold wpX_letter
  dsimp only
  exact td_xin hw hh (fun q1 => absurd q1 q) (fun _ => td_br0 f)
theorem td_ylt {post : Int32 → Prop} {w h : Nat} {T WW HH P : Nat → Int32} {c d : Nat} (hw : w ≤ 12) (hh : h ≤ 12) (hc : c < w) (hd : d < h)
    (f : post (T (16 * d + c))) : wpY_letter post (nI w, nI h, T, P, WW, HH) (nI c) (nI d) := by
  unfold wpY_letter
  dsimp only
  refine td_yin hw hh (fun _ => td_br1 ?_) (fun z => absurd ⟨c, d, hc, hd, rfl, rfl⟩ z)
  rw [td_e0, nI_clamp (by omega)]
  exact ⟨vp_in_nI (by omega) (by omega), f⟩
theorem td_ylf {post : Int32 → Prop} {w h : Nat} {T WW HH P : Nat → Int32} {x y : Int32} (hw : w ≤ 12) (hh : h ≤ 12) (q : ¬ td_In w h x y)
    (f : post (-1)) : wpY_letter post (nI w, nI h, T, P, WW, HH) x y := by
  unfold wpY_letter
  dsimp only
  exact td_yin hw hh (fun q1 => absurd q1 q) (fun _ => td_br0 f)
/-! shape -/
def td_Sd (v : Int32) : Prop := ∃ c : Nat, 1 ≤ c ∧ c ≤ 4 ∧ v = nI c
theorem td_Sd_n {j : Nat} (hj : j < 2 ^ 31) : td_Sd (nI j) ↔ 1 ≤ j ∧ j ≤ 4 := by
  constructor
  · intro ⟨c, h1, h2, e⟩
    rw [nI_eq hj (by omega)] at e
    omega
  · exact fun z => ⟨j, z.1, z.2, rfl⟩
theorem td_Sd_neg {v : Int32} (n : v < 0) : ¬ td_Sd v := by
  intro ⟨p, _, hp, e⟩
  exact nI_pos (n := p) (by omega) (e ▸ n)
theorem td_sda {Q R : Prop} {v : Int32} (t : td_Sd v → R) (f : ¬ td_Sd v → Q) : (v < 1 → Q) ∧ (¬ v < 1 → ((4 < v → Q) ∧ (¬ 4 < v → R))) := by
  by_cases n : v < 0
  · exact br_t (Int32.lt_trans n (by decide)) (f (td_Sd_neg n))
  · obtain ⟨j, hj, rfl⟩ := nI_of n
    exact pk_lt j 1 (fun c => f (fun z => by have := (td_Sd_n hj).mp z; omega)) (fun c => pk_lt 4 j (fun c2 => f (fun z => by have := (td_Sd_n hj).mp z; omega)) (fun c2 => t ((td_Sd_n hj).mpr ⟨c, c2⟩)))
theorem td_sdb {Q R : Prop} {v : Int32} (t : td_Sd v → R) (f : ¬ td_Sd v → Q) : (v < 1 → Q) ∧ (¬ v < 1 → ((v ≤ 4 → R) ∧ (¬ v ≤ 4 → Q))) := by
  by_cases n : v < 0
  · exact br_t (Int32.lt_trans n (by decide)) (f (td_Sd_neg n))
  · obtain ⟨j, hj, rfl⟩ := nI_of n
    exact pk_lt j 1 (fun c => f (fun z => by have := (td_Sd_n hj).mp z; omega)) (fun c => pk_le j 4 (fun c2 => t ((td_Sd_n hj).mpr ⟨c, c2⟩)) (fun c2 => f (fun z => by have := (td_Sd_n hj).mp z; omega)))
theorem td_xsd {post : Int32 → Prop} {v : Int32} (t : td_Sd v → post 1) (f : ¬ td_Sd v → post 0) : wpX_isPatternSide post v := td_sda t f
def td_zr (P : Nat → Int32) (p : Nat) : Nat → Nat → Int32
  | 0 => P
  | n + 1 => upd (td_zr P p n) (16 * p + n) 0
theorem td_e4 (p k : Nat) : nI p * (16 : Int32) + nI k = nI (16 * p + k) := by
  rw [← td_e0, Int32.mul_comm (nI p)]
theorem td_xs40 {post : Int32 → SX → Prop} {a b : Int32} {T WW HH P : Nat → Int32} {p : Nat} (hp : p < 3) (f : post 1 (a, b, T, WW, HH, td_zr P p 16)) :
    ∀ e k, k + e = 16 → wX_shape_40 post (nI p) a b (e + 1) (nI k) T WW HH (td_zr P p k) := by
  intro e
  induction e with
  | zero =>
    intro k hk
    obtain rfl : k = 16 := by omega
    exact br_t (nI_le (a := 16) (by omega) (by omega)) f
  | succ e ih =>
    intro k hk
    refine br_f (nI_ge (b := 16) (by omega) (by omega)) ?_
    rw [td_e4]
    exact ⟨vp_in_nI (by omega) (by omega), nm_r (e' := td_zr P p (k + 1)) (by rw [nI_clamp (by omega)]; rfl) (nm_r (nI_1 k) (ih (k + 1) (by omega)))⟩
theorem td_ys47 {post : Int32 → SY → Prop} {a b : Int32} {T WW HH P : Nat → Int32} {p : Nat} (hp : p < 3) (f : post 1 (a, b, T, td_zr P p 16, WW, HH)) :
    ∀ e k, k + e = 16 → wY_shape_47 post (nI p) a b (e + 1) (nI k) T (td_zr P p k) WW HH := by
  intro e
  induction e with
  | zero =>
    intro k hk
    obtain rfl : k = 16 := by omega
    exact br_t (nI_le (a := 16) (by omega) (by omega)) f
  | succ e ih =>
    intro k hk
    refine br_f (nI_ge (b := 16) (by omega) (by omega)) ?_
    rw [td_e0]
    exact ⟨vp_in_nI (by omega) (by omega), nm_r (e' := td_zr P p (k + 1)) (by rw [nI_clamp (by omega)]; rfl) (nm_r (nI_1 k) (ih (k + 1) (by omega)))⟩
theorem td_xst {post : Int32 → SX → Prop} {a b : Int32} {T WW HH P : Nat → Int32} {p : Nat} {c d : Int32} (hp : p < 3) (hc : td_Sd c) (hd : td_Sd d)
    (f : post 1 (a, b, T, upd WW p c, upd HH p d, td_zr P p 16)) : wpX_shape post (a, b, T, WW, HH, P) (nI p) c d := by
  have hin : vp_in (nI p) 3 := vp_in_nI hp (by omega)
  unfold wpX_shape
  dsimp only
  refine td_xp (fun _ => td_br1 ?_) (fun z => absurd ⟨p, hp, rfl⟩ z)
  refine td_xsd (fun _ => td_br1 ?_) (fun z => absurd hc z)
  refine td_xsd (fun _ => td_br1 ?_) (fun z => absurd hd z)
  exact ⟨hin, nm_r (e' := upd WW p c) (by rw [nI_clamp (by omega)]) ⟨hin, nm_r (e' := upd HH p d) (by rw [nI_clamp (by omega)]) ⟨17, td_xs40 hp f 16 0 (by omega)⟩⟩⟩
theorem td_xsf {post : Int32 → SX → Prop} {s : SX} {v c d : Int32} (q : ¬ (td_L v ∧ td_Sd c ∧ td_Sd d)) (f : post 0 s) : wpX_shape post s v c d := by
  obtain ⟨s1, s2, s3, s4, s5, s6⟩ := s
  unfold wpX_shape
  dsimp only
  refine td_xp (fun q1 => td_br1 ?_) (fun _ => td_br0 f)
  refine td_xsd (fun q2 => td_br1 ?_) (fun _ => td_br0 f)
  exact td_xsd (fun q3 => absurd ⟨q1, q2, q3⟩ q) (fun _ => td_br0 f)
theorem td_yst {post : Int32 → SY → Prop} {a b : Int32} {T WW HH P : Nat → Int32} {p : Nat} {c d : Int32} (hp : p < 3) (hc : td_Sd c) (hd : td_Sd d)
    (f : post 1 (a, b, T, td_zr P p 16, upd WW p c, upd HH p d)) : wpY_shape post (a, b, T, P, WW, HH) (nI p) c d := by
  have hin : vp_in (nI p) 3 := vp_in_nI hp (by omega)
  unfold wpY_shape
  dsimp only
  refine td_yp (fun _ => td_br1 ?_) (fun z => absurd ⟨p, hp, rfl⟩ z)
  refine td_sda (fun _ => ?_) (fun z => absurd hc z)
  refine td_sdb (fun _ => ?_) (fun z => absurd hd z)
  exact ⟨hin, nm_r (e' := upd WW p c) (by rw [nI_clamp (by omega)]) ⟨hin, nm_r (e' := upd HH p d) (by rw [nI_clamp (by omega)]) ⟨17, td_ys47 hp f 16 0 (by omega)⟩⟩⟩
theorem td_ysf {post : Int32 → SY → Prop} {s : SY} {v c d : Int32} (q : ¬ (td_L v ∧ td_Sd c ∧ td_Sd d)) (f : post 0 s) : wpY_shape post s v c d := by
  obtain ⟨s1, s2, s3, s4, s5, s6⟩ := s
  unfold wpY_shape
  dsimp only
  refine td_yp (fun q1 => td_br1 ?_) (fun _ => td_br0 f)
  refine td_sda (fun q2 => ?_) (fun _ => f)
  exact td_sdb (fun q3 => absurd ⟨q1, q2, q3⟩ q) (fun _ => f)
theorem td_Z_u {w h : Nat} {A B : Nat → Nat} {WW HH : Nat → Int32} {p c d : Nat} (Z : td_Z w h A B WW HH) (c1 : 1 ≤ c) (c4 : c ≤ 4) (d1 : 1 ≤ d) (d4 : d ≤ 4) : td_Z w h (fun q => if q = p then c else A q) (fun q => if q = p then d else B q) (upd WW p (nI c)) (upd HH p (nI d)) := by
  obtain ⟨w1, w2, h1, h2, f⟩ := Z
  refine ⟨w1, w2, h1, h2, fun q hq => ?_⟩
  dsimp only
  by_cases e : q = p
  · subst e
    rw [if_pos rfl, if_pos rfl, pk_us, pk_us]
    exact ⟨c1, c4, d1, d4, rfl, rfl⟩
  · rw [if_neg e, if_neg e, pk_un e, pk_un e]
    exact f q hq
/-! paint -/
theorem td_xip {post : Int32 → Prop} {w h : Nat} {A B : Nat → Nat} {T WW HH P : Nat → Int32} {p : Nat} {x y : Int32} (Z : td_Z w h A B WW HH) (hp : p < 3)
    (t : td_In (A p) (B p) x y → post 1) (f : ¬ td_In (A p) (B p) x y → post 0) : wpX_isInPattern post (nI w, nI h, T, WW, HH, P) (nI p) x y := by
  obtain ⟨w1, w2, h1, h2, a1, a2, b1, b2⟩ := td_Zn Z hp
  have hin : vp_in (nI p) 3 := vp_in_nI hp (by omega)
  by_cases n : x < 0
  · exact br_t n (f (td_In_x (by omega) n))
  · obtain ⟨c, hc, rfl⟩ := nI_of n
    refine br_f n ⟨hin, pk_le (A p) c (fun g => f (td_In_c (by omega) hc g)) (fun g => ?_) (td_ZW Z hp)⟩
    by_cases m : y < 0
    · exact br_t m (f (td_In_y (by omega) m))
    · obtain ⟨d, hd, rfl⟩ := nI_of m
      exact br_f m ⟨hin, pk_le (B p) d (fun g2 => f (fun z => by have := ((td_In_n (by omega) (by omega) hc hd).mp z).2; omega)) (fun g2 => t ⟨c, d, g, g2, rfl, rfl⟩) (td_ZH Z hp)⟩
theorem td_yip {Q R : Prop} {w h : Nat} {A B : Nat → Nat} {WW HH : Nat → Int32} {p : Nat} {x y : Int32} (Z : td_Z w h A B WW HH) (hp : p < 3)
    (t : td_In (A p) (B p) x y → R) (f : ¬ td_In (A p) (B p) x y → Q) :
    (x < 0 → Q) ∧ (¬ x < 0 → ((y < 0 → Q) ∧ (¬ y < 0 → (vp_in (nI p) 3 ∧ ((WW (nI p).toNatClampNeg ≤ x → Q) ∧ (¬ WW (nI p).toNatClampNeg ≤ x → (vp_in (nI p) 3 ∧ ((HH (nI p).toNatClampNeg ≤ y → Q) ∧ (¬ HH (nI p).toNatClampNeg ≤ y → R))))))))) := by
  obtain ⟨w1, w2, h1, h2, a1, a2, b1, b2⟩ := td_Zn Z hp
  have hin : vp_in (nI p) 3 := vp_in_nI hp (by omega)
  by_cases n : x < 0
  · exact br_t n (f (td_In_x (by omega) n))
  · obtain ⟨c, hc, rfl⟩ := nI_of n
    refine br_f n ?_
    by_cases m : y < 0
    · exact br_t m (f (td_In_y (by omega) m))
    · obtain ⟨d, hd, rfl⟩ := nI_of m
      refine br_f m ⟨hin, pk_le (A p) c (fun g => f (td_In_c (by omega) hc g)) (fun g => ?_) (td_ZW Z hp)⟩
      exact ⟨hin, pk_le (B p) d (fun g2 => f (fun z => by have := ((td_In_n (by omega) (by omega) hc hd).mp z).2; omega)) (fun g2 => t ⟨c, d, g, g2, rfl, rfl⟩) (td_ZH Z hp)⟩
theorem td_xpt {post : Int32 → SX → Prop} {w h : Nat} {A B : Nat → Nat} {T WW HH P : Nat → Int32} {p c d : Nat} {v : Int32} (Z : td_Z w h A B WW HH) (hp : p < 3) (hc : c < A p) (hd : d < B p) (hv : td_L v)
    (f : post 1 (nI w, nI h, T, WW, HH, upd P (16 * p + 4 * d + c) v)) : wpX_paint post (nI w, nI h, T, WW, HH, P) (nI p) (nI c) (nI d) v := by
  obtain ⟨w1, w2, h1, h2, a1, a2, b1, b2⟩ := td_Zn Z hp
  unfold wpX_paint
  dsimp only
  refine td_xp (fun _ => td_br1 ?_) (fun z => absurd ⟨p, hp, rfl⟩ z)
  refine td_xip Z hp (fun _ => td_br1 ?_) (fun z => absurd ⟨c, d, hc, hd, rfl, rfl⟩ z)
  refine td_xl (fun _ => td_br1 ?_) (fun z => absurd hv z)
  exact td_xpc ⟨vp_in_nI (by omega) (by omega), nm_r (by rw [nI_clamp (by omega)]) f⟩
theorem td_xpf {post : Int32 → SX → Prop} {w h : Nat} {A B : Nat → Nat} {T WW HH P : Nat → Int32} {p : Nat} {x y v : Int32} (Z : td_Z w h A B WW HH) (hp : p < 3) (q : ¬ (td_In (A p) (B p) x y ∧ td_L v))
    (f : post 0 (nI w, nI h, T, WW, HH, P)) : wpX_paint post (nI w, nI h, T, WW, HH, P) (nI p) x y v := by
  unfold wpX_paint
  dsimp only
  refine td_xp (fun _ => td_br1 ?_) (fun z => absurd ⟨p, hp, rfl⟩ z)
  refine td_xip Z hp (fun q1 => td_br1 ?_) (fun _ => td_br0 f)
  exact td_xl (fun q2 => absurd ⟨q1, q2⟩ q) (fun _ => td_br0 f)
theorem td_xp0 {post : Int32 → SX → Prop} {s : SX} {u x y v : Int32} (n : ¬ td_L u) (f : post 0 s) : wpX_paint post s u x y v := by
  obtain ⟨s1, s2, s3, s4, s5, s6⟩ := s
  unfold wpX_paint
  dsimp only
  exact td_xp (fun z => absurd z n) (fun _ => td_br0 f)
theorem td_ypt {post : Int32 → SY → Prop} {w h : Nat} {A B : Nat → Nat} {T WW HH P : Nat → Int32} {p c d : Nat} {v : Int32} (Z : td_Z w h A B WW HH) (hp : p < 3) (hc : c < A p) (hd : d < B p) (hv : td_L v)
    (f : post 1 (nI w, nI h, T, upd P (16 * p + 4 * d + c) v, WW, HH)) : wpY_paint post (nI w, nI h, T, P, WW, HH) (nI p) (nI c) (nI d) v := by
  obtain ⟨w1, w2, h1, h2, a1, a2, b1, b2⟩ := td_Zn Z hp
  unfold wpY_paint
  dsimp only
  refine td_yp (fun _ => td_br1 ?_) (fun z => absurd ⟨p, hp, rfl⟩ z)
  refine td_yip Z hp (fun _ => ?_) (fun z => absurd ⟨c, d, hc, hd, rfl, rfl⟩ z)
  refine td_yl (fun _ => td_br1 ?_) (fun z => absurd hv z)
  rw [td_e2]
  exact ⟨vp_in_nI (by omega) (by omega), nm_r (by rw [nI_clamp (by omega)]) f⟩
theorem td_ypf {post : Int32 → SY → Prop} {w h : Nat} {A B : Nat → Nat} {T WW HH P : Nat → Int32} {p : Nat} {x y v : Int32} (Z : td_Z w h A B WW HH) (hp : p < 3) (q : ¬ (td_In (A p) (B p) x y ∧ td_L v))
    (f : post 0 (nI w, nI h, T, P, WW, HH)) : wpY_paint post (nI w, nI h, T, P, WW, HH) (nI p) x y v := by
  unfold wpY_paint
  dsimp only
  refine td_yp (fun _ => td_br1 ?_) (fun z => absurd ⟨p, hp, rfl⟩ z)
  refine td_yip Z hp (fun q1 => ?_) (fun _ => f)
  exact td_yl (fun q2 => absurd ⟨q1, q2⟩ q) (fun _ => td_br0 f)
theorem td_yp0 {post : Int32 → SY → Prop} {s : SY} {u x y v : Int32} (n : ¬ td_L u) (f : post 0 s) : wpY_paint post s u x y v := by
  obtain ⟨s1, s2, s3, s4, s5, s6⟩ := s
  unfold wpY_paint
  dsimp only
  exact td_yp (fun z => absurd z n) (fun _ => td_br0 f)
end
section
/-! copy and stamp: row by row, cell by cell; both sides write the same cells in the same order -/
def td_cj (T : Nat → Int32) (p c d i : Nat) (P : Nat → Int32) : Nat → Nat → Int32
  | 0 => P
  | j + 1 => upd (td_cj T p c d i P j) (16 * p + 4 * i + j) (T (16 * (d + i) + (c + j)))
def td_ci (T : Nat → Int32) (p c d a : Nat) (P : Nat → Int32) : Nat → Nat → Int32
  | 0 => P
  | i + 1 => td_cj T p c d i (td_ci T p c d a P i) a
def td_sj (P : Nat → Int32) (p c d i : Nat) (T : Nat → Int32) : Nat → Nat → Int32
  | 0 => T
  | j + 1 => upd (td_sj P p c d i T j) (16 * (d + i) + (c + j)) (P (16 * p + 4 * i + j))
def td_si (P : Nat → Int32) (p c d a : Nat) (T : Nat → Int32) : Nat → Nat → Int32
  | 0 => T
  | i + 1 => td_sj P p c d i (td_si P p c d a T i) a
theorem td_xc36 {post : Int32 → SX → Prop} {J : Int32 → (Nat → Int32) → (Nat → Int32) → (Nat → Int32) → (Nat → Int32) → Prop} {w h : Nat} {A B : Nat → Nat} {T WW HH P : Nat → Int32} {p c d i : Nat} (Z : td_Z w h A B WW HH) (hp : p < 3) (hc : c + A p ≤ w) (hd : d + B p ≤ h) (hi : i < B p)
    (f : J (nI (i + 1)) T WW HH (td_cj T p c d i P (A p))) :
    ∀ e j, j + e = A p → wX_copy_36 post J (nI p) (nI c) (nI d) (nI i) (nI w) (nI h) (e + 1) (nI j) T WW HH (td_cj T p c d i P j) := by
  obtain ⟨w1, w2, h1, h2, a1, a2, b1, b2⟩ := td_Zn Z hp
  have hin : vp_in (nI p) 3 := vp_in_nI hp (by omega)
  intro e
  induction e with
  | zero =>
    intro j hj
    obtain rfl : j = A p := by omega
    exact And.intro hin (br_t (td_Wle Z hp (by omega) (by omega)) (nm_r (nI_1 i) f))
  | succ e ih =>
    intro j hj
    refine And.intro hin (br_f (td_Wgt Z hp (by omega)) ?_)
    refine td_xpc (td_xpn (nI_add c j) (nI_add d i) ⟨vp_in_nI (by omega) (by omega), vp_in_nI (by omega) (by omega), ?_⟩)
    exact nm_r (e' := td_cj T p c d i P (j + 1)) (by rw [nI_clamp (by omega), nI_clamp (by omega)]; rfl) (nm_r (nI_1 j) (ih (j + 1) (by omega)))
theorem td_xc22 {post : Int32 → SX → Prop} {w h : Nat} {A B : Nat → Nat} {T WW HH P : Nat → Int32} {p c d : Nat} (Z : td_Z w h A B WW HH) (hp : p < 3) (hc : c + A p ≤ w) (hd : d + B p ≤ h)
    (f : post 1 (nI w, nI h, T, WW, HH, td_ci T p c d (A p) P (B p))) :
    ∀ e i, i + e = B p → wX_copy_22 post (nI p) (nI c) (nI d) (nI w) (nI h) (e + 1) (nI i) T WW HH (td_ci T p c d (A p) P i) := by
  obtain ⟨w1, w2, h1, h2, a1, a2, b1, b2⟩ := td_Zn Z hp
  have hin : vp_in (nI p) 3 := vp_in_nI hp (by omega)
  intro e
  induction e with
  | zero =>
    intro i hi
    obtain rfl : i = B p := by omega
    exact And.intro hin (br_t (td_Hle Z hp (by omega) (by omega)) f)
  | succ e ih =>
    intro i hi
    exact And.intro hin (br_f (td_Hgt Z hp (by omega)) ⟨A p + 1, td_xc36 Z hp hc hd (by omega) (ih (i + 1) (by omega)) (A p) 0 (by omega)⟩)
theorem td_xcpt {post : Int32 → SX → Prop} {w h : Nat} {A B : Nat → Nat} {T WW HH P : Nat → Int32} {p c d : Nat} (Z : td_Z w h A B WW HH) (hp : p < 3) (hc : c + A p ≤ w) (hd : d + B p ≤ h)
    (f : post 1 (nI w, nI h, T, WW, HH, td_ci T p c d (A p) P (B p))) : wpX_copy post (nI w, nI h, T, WW, HH, P) (nI p) (nI c) (nI d) := by
  unfold wpX_copy
  dsimp only
  refine td_xp (fun _ => td_br1 ?_) (fun z => absurd ⟨p, hp, rfl⟩ z)
  exact td_xf Z hp (fun _ => td_br1 ⟨B p + 1, td_xc22 Z hp hc hd f (B p) 0 (by omega)⟩) (fun z => absurd ⟨c, d, rfl, rfl, hc, hd⟩ z)
theorem td_xcpf {post : Int32 → SX → Prop} {w h : Nat} {A B : Nat → Nat} {T WW HH P : Nat → Int32} {p : Nat} {x y : Int32} (Z : td_Z w h A B WW HH) (hp : p < 3) (q : ¬ td_F w h A B p x y)
    (f : post 0 (nI w, nI h, T, WW, HH, P)) : wpX_copy post (nI w, nI h, T, WW, HH, P) (nI p) x y := by
  unfold wpX_copy
  dsimp only
  refine td_xp (fun _ => td_br1 ?_) (fun z => absurd ⟨p, hp, rfl⟩ z)
  exact td_xf Z hp (fun z => absurd z q) (fun _ => td_br0 f)
theorem td_xcp0 {post : Int32 → SX → Prop} {s : SX} {v x y : Int32} (n : ¬ td_L v) (f : post 0 s) : wpX_copy post s v x y := by
  obtain ⟨s1, s2, s3, s4, s5, s6⟩ := s
  unfold wpX_copy
  dsimp only
  exact td_xp (fun z => absurd z n) (fun _ => td_br0 f)
theorem td_yc29 {post : Int32 → SY → Prop} {J : Int32 → (Nat → Int32) → (Nat → Int32) → (Nat → Int32) → (Nat → Int32) → Prop} {w h : Nat} {A B : Nat → Nat} {T WW HH P : Nat → Int32} {p c d i : Nat} (Z : td_Z w h A B WW HH) (hp : p < 3) (hc : c + A p ≤ w) (hd : d + B p ≤ h) (hi : i < B p)
    (f : J (nI (i + 1)) T (td_cj T p c d i P (A p)) WW HH) :
    ∀ e j, j + e = A p → wY_copy_29 post J (nI p) (nI c) (nI d) (nI i) (nI w) (nI h) (e + 1) (nI j) T (td_cj T p c d i P j) WW HH := by
  obtain ⟨w1, w2, h1, h2, a1, a2, b1, b2⟩ := td_Zn Z hp
  have hin : vp_in (nI p) 3 := vp_in_nI hp (by omega)
  intro e
  induction e with
  | zero =>
    intro j hj
    obtain rfl : j = A p := by omega
    exact And.intro hin (br_t (td_Wle Z hp (by omega) (by omega)) (nm_r (nI_1 i) f))
  | succ e ih =>
    intro j hj
    refine And.intro hin (br_f (td_Wgt Z hp (by omega)) ?_)
    rw [td_e1, td_e2]
    refine ⟨vp_in_nI (by omega) (by omega), vp_in_nI (by omega) (by omega), ?_⟩
    exact nm_r (e' := td_cj T p c d i P (j + 1)) (by rw [nI_clamp (by omega), nI_clamp (by omega)]; rfl) (nm_r (nI_1 j) (ih (j + 1) (by omega)))
theorem td_yc15 {post : Int32 → SY → Prop} {w h : Nat} {A B : Nat → Nat} {T WW HH P : Nat → Int32} {p c d : Nat} (Z : td_Z w h A B WW HH) (hp : p < 3) (hc : c + A p ≤ w) (hd : d + B p ≤ h)
    (f : post 1 (nI w, nI h, T, td_ci T p c d (A p) P (B p), WW, HH)) :
    ∀ e i, i + e = B p → wY_copy_15 post (nI p) (nI c) (nI d) (nI w) (nI h) (e + 1) (nI i) T (td_ci T p c d (A p) P i) WW HH := by
  obtain ⟨w1, w2, h1, h2, a1, a2, b1, b2⟩ := td_Zn Z hp
  have hin : vp_in (nI p) 3 := vp_in_nI hp (by omega)
  intro e
  induction e with
  | zero =>
    intro i hi
    obtain rfl : i = B p := by omega
    exact And.intro hin (br_t (td_Hle Z hp (by omega) (by omega)) f)
  | succ e ih =>
    intro i hi
    exact And.intro hin (br_f (td_Hgt Z hp (by omega)) ⟨A p + 1, td_yc29 Z hp hc hd (by omega) (ih (i + 1) (by omega)) (A p) 0 (by omega)⟩)
theorem td_ycpt {post : Int32 → SY → Prop} {w h : Nat} {A B : Nat → Nat} {T WW HH P : Nat → Int32} {p c d : Nat} (Z : td_Z w h A B WW HH) (hp : p < 3) (hc : c + A p ≤ w) (hd : d + B p ≤ h)
    (f : post 1 (nI w, nI h, T, td_ci T p c d (A p) P (B p), WW, HH)) : wpY_copy post (nI w, nI h, T, P, WW, HH) (nI p) (nI c) (nI d) := by
  unfold wpY_copy
  dsimp only
  exact td_yf Z hp (fun _ => td_br1 ⟨B p + 1, td_yc15 Z hp hc hd f (B p) 0 (by omega)⟩) (fun z => absurd ⟨c, d, rfl, rfl, hc, hd⟩ z)
theorem td_ycpf {post : Int32 → SY → Prop} {w h : Nat} {A B : Nat → Nat} {T WW HH P : Nat → Int32} {p : Nat} {x y : Int32} (Z : td_Z w h A B WW HH) (hp : p < 3) (q : ¬ td_F w h A B p x y)
    (f : post 0 (nI w, nI h, T, P, WW, HH)) : wpY_copy post (nI w, nI h, T, P, WW, HH) (nI p) x y := by
  unfold wpY_copy
  dsimp only
  exact td_yf Z hp (fun z => absurd z q) (fun _ => td_br0 f)
theorem td_ycp0 {post : Int32 → SY → Prop} {s : SY} {v x y : Int32} (n : ¬ td_L v) (f : post 0 s) : wpY_copy post s v x y := by
  obtain ⟨s1, s2, s3, s4, s5, s6⟩ := s
  unfold wpY_copy
  dsimp only
  exact td_yf0 n (td_br0 f)
theorem td_xt36 {post : Int32 → SX → Prop} {J : Int32 → (Nat → Int32) → (Nat → Int32) → (Nat → Int32) → (Nat → Int32) → Prop} {w h : Nat} {A B : Nat → Nat} {T WW HH P : Nat → Int32} {p c d i : Nat} (Z : td_Z w h A B WW HH) (hp : p < 3) (hc : c + A p ≤ w) (hd : d + B p ≤ h) (hi : i < B p)
    (f : J (nI (i + 1)) (td_sj P p c d i T (A p)) WW HH P) :
    ∀ e j, j + e = A p → wX_stamp_36 post J (nI p) (nI c) (nI d) (nI i) (nI w) (nI h) (e + 1) (nI j) (td_sj P p c d i T j) WW HH P := by
  obtain ⟨w1, w2, h1, h2, a1, a2, b1, b2⟩ := td_Zn Z hp
  have hin : vp_in (nI p) 3 := vp_in_nI hp (by omega)
  intro e
  induction e with
  | zero =>
    intro j hj
    obtain rfl : j = A p := by omega
    exact And.intro hin (br_t (td_Wle Z hp (by omega) (by omega)) (nm_r (nI_1 i) f))
  | succ e ih =>
    intro j hj
    refine And.intro hin (br_f (td_Wgt Z hp (by omega)) ?_)
    refine td_xpn (nI_add c j) (nI_add d i) (td_xpc ⟨vp_in_nI (by omega) (by omega), vp_in_nI (by omega) (by omega), ?_⟩)
    exact nm_r (e' := td_sj P p c d i T (j + 1)) (by rw [nI_clamp (by omega), nI_clamp (by omega)]; rfl) (nm_r (nI_1 j) (ih (j + 1) (by omega)))
theorem td_xt22 {post : Int32 → SX → Prop} {w h : Nat} {A B : Nat → Nat} {T WW HH P : Nat → Int32} {p c d : Nat} (Z : td_Z w h A B WW HH) (hp : p < 3) (hc : c + A p ≤ w) (hd : d + B p ≤ h)
    (f : post 1 (nI w, nI h, td_si P p c d (A p) T (B p), WW, HH, P)) :
    ∀ e i, i + e = B p → wX_stamp_22 post (nI p) (nI c) (nI d) (nI w) (nI h) (e + 1) (nI i) (td_si P p c d (A p) T i) WW HH P := by
  obtain ⟨w1, w2, h1, h2, a1, a2, b1, b2⟩ := td_Zn Z hp
  have hin : vp_in (nI p) 3 := vp_in_nI hp (by omega)
  intro e
  induction e with
  | zero =>
    intro i hi
    obtain rfl : i = B p := by omega
    exact And.intro hin (br_t (td_Hle Z hp (by omega) (by omega)) f)
  | succ e ih =>
    intro i hi
    exact And.intro hin (br_f (td_Hgt Z hp (by omega)) ⟨A p + 1, td_xt36 Z hp hc hd (by omega) (ih (i + 1) (by omega)) (A p) 0 (by omega)⟩)
theorem td_xstt {post : Int32 → SX → Prop} {w h : Nat} {A B : Nat → Nat} {T WW HH P : Nat → Int32} {p c d : Nat} (Z : td_Z w h A B WW HH) (hp : p < 3) (hc : c + A p ≤ w) (hd : d + B p ≤ h)
    (f : post 1 (nI w, nI h, td_si P p c d (A p) T (B p), WW, HH, P)) : wpX_stamp post (nI w, nI h, T, WW, HH, P) (nI p) (nI c) (nI d) := by
  unfold wpX_stamp
  dsimp only
  refine td_xp (fun _ => td_br1 ?_) (fun z => absurd ⟨p, hp, rfl⟩ z)
  exact td_xf Z hp (fun _ => td_br1 ⟨B p + 1, td_xt22 Z hp hc hd f (B p) 0 (by omega)⟩) (fun z => absurd ⟨c, d, rfl, rfl, hc, hd⟩ z)
theorem td_xstf {post : Int32 → SX → Prop} {w h : Nat} {A B : Nat → Nat} {T WW HH P : Nat → Int32} {p : Nat} {x y : Int32} (Z : td_Z w h A B WW HH) (hp : p < 3) (q : ¬ td_F w h A B p x y)
    (f : post 0 (nI w, nI h, T, WW, HH, P)) : wpX_stamp post (nI w, nI h, T, WW, HH, P) (nI p) x y := by
  unfold wpX_stamp
  dsimp only
  refine td_xp (fun _ => td_br1 ?_) (fun z => absurd ⟨p, hp, rfl⟩ z)
  exact td_xf Z hp (fun z => absurd z q) (fun _ => td_br0 f)
theorem td_xst0 {post : Int32 → SX → Prop} {s : SX} {v x y : Int32} (n : ¬ td_L v) (f : post 0 s) : wpX_stamp post s v x y := by
  obtain ⟨s1, s2, s3, s4, s5, s6⟩ := s
  unfold wpX_stamp
  dsimp only
  exact td_xp (fun z => absurd z n) (fun _ => td_br0 f)
theorem td_yt29 {post : Int32 → SY → Prop} {J : Int32 → (Nat → Int32) → (Nat → Int32) → (Nat → Int32) → (Nat → Int32) → Prop} {w h : Nat} {A B : Nat → Nat} {T WW HH P : Nat → Int32} {p c d i : Nat} (Z : td_Z w h A B WW HH) (hp : p < 3) (hc : c + A p ≤ w) (hd : d + B p ≤ h) (hi : i < B p)
    (f : J (nI (i + 1)) (td_sj P p c d i T (A p)) P WW HH) :
    ∀ e j, j + e = A p → wY_stamp_29 post J (nI p) (nI c) (nI d) (nI i) (nI w) (nI h) (e + 1) (nI j) (td_sj P p c d i T j) P WW HH := by
  obtain ⟨w1, w2, h1, h2, a1, a2, b1, b2⟩ := td_Zn Z hp
  have hin : vp_in (nI p) 3 := vp_in_nI hp (by omega)
  intro e
  induction e with
  | zero =>
    intro j hj
    obtain rfl : j = A p := by omega
    exact And.intro hin (br_t (td_Wle Z hp (by omega) (by omega)) (nm_r (nI_1 i) f))
  | succ e ih =>
    intro j hj
    refine And.intro hin (br_f (td_Wgt Z hp (by omega)) ?_)
    rw [td_e1, td_e2]
    refine ⟨vp_in_nI (by omega) (by omega), vp_in_nI (by omega) (by omega), ?_⟩
    exact nm_r (e' := td_sj P p c d i T (j + 1)) (by rw [nI_clamp (by omega), nI_clamp (by omega)]; rfl) (nm_r (nI_1 j) (ih (j + 1) (by omega)))
theorem td_yt15 {post : Int32 → SY → Prop} {w h : Nat} {A B : Nat → Nat} {T WW HH P : Nat → Int32} {p c d : Nat} (Z : td_Z w h A B WW HH) (hp : p < 3) (hc : c + A p ≤ w) (hd : d + B p ≤ h)
    (f : post 1 (nI w, nI h, td_si P p c d (A p) T (B p), P, WW, HH)) :
    ∀ e i, i + e = B p → wY_stamp_15 post (nI p) (nI c) (nI d) (nI w) (nI h) (e + 1) (nI i) (td_si P p c d (A p) T i) P WW HH := by
  obtain ⟨w1, w2, h1, h2, a1, a2, b1, b2⟩ := td_Zn Z hp
  have hin : vp_in (nI p) 3 := vp_in_nI hp (by omega)
  intro e
  induction e with
  | zero =>
    intro i hi
    obtain rfl : i = B p := by omega
    exact And.intro hin (br_t (td_Hle Z hp (by omega) (by omega)) f)
  | succ e ih =>
    intro i hi
    exact And.intro hin (br_f (td_Hgt Z hp (by omega)) ⟨A p + 1, td_yt29 Z hp hc hd (by omega) (ih (i + 1) (by omega)) (A p) 0 (by omega)⟩)
theorem td_ystt {post : Int32 → SY → Prop} {w h : Nat} {A B : Nat → Nat} {T WW HH P : Nat → Int32} {p c d : Nat} (Z : td_Z w h A B WW HH) (hp : p < 3) (hc : c + A p ≤ w) (hd : d + B p ≤ h)
    (f : post 1 (nI w, nI h, td_si P p c d (A p) T (B p), P, WW, HH)) : wpY_stamp post (nI w, nI h, T, P, WW, HH) (nI p) (nI c) (nI d) := by
  unfold wpY_stamp
  dsimp only
  exact td_yf Z hp (fun _ => td_br1 ⟨B p + 1, td_yt15 Z hp hc hd f (B p) 0 (by omega)⟩) (fun z => absurd ⟨c, d, rfl, rfl, hc, hd⟩ z)
theorem td_ystf {post : Int32 → SY → Prop} {w h : Nat} {A B : Nat → Nat} {T WW HH P : Nat → Int32} {p : Nat} {x y : Int32} (Z : td_Z w h A B WW HH) (hp : p < 3) (q : ¬ td_F w h A B p x y)
    (f : post 0 (nI w, nI h, T, P, WW, HH)) : wpY_stamp post (nI w, nI h, T, P, WW, HH) (nI p) x y := by
  unfold wpY_stamp
  dsimp only
  exact td_yf Z hp (fun z => absurd z q) (fun _ => td_br0 f)
theorem td_yst0 {post : Int32 → SY → Prop} {s : SY} {v x y : Int32} (n : ¬ td_L v) (f : post 0 s) : wpY_stamp post s v x y := by
  obtain ⟨s1, s2, s3, s4, s5, s6⟩ := s
  unfold wpY_stamp
  dsimp only
  exact td_yf0 n (td_br0 f)
/-! a new object -/
theorem td_cl (v : Int32) : ∃ n : Nat, 4 ≤ n ∧ n ≤ 12 ∧ ∀ K : Int32 → Prop, K (nI n) → ((4 ≤ v → ((v ≤ 12 → K v) ∧ (¬ v ≤ 12 → K 12))) ∧ (¬ 4 ≤ v → K 4)) := by
  by_cases n : v < 0
  · refine ⟨4, by omega, by omega, fun K k => br_f (fun z => ?_) k⟩
    exact Int32.lt_irrefl (Int32.lt_of_lt_of_le n (Int32.le_trans (by decide) z))
  · obtain ⟨j, hj, rfl⟩ := nI_of n
    by_cases c : j < 4
    · exact ⟨4, by omega, by omega, fun K k => pk_le 4 j (fun z => absurd z (by omega)) (fun _ => k)⟩
    · by_cases c2 : j ≤ 12
      · exact ⟨j, by omega, c2, fun K k => pk_le 4 j (fun _ => pk_le j 12 (fun _ => k) (fun z => absurd z (by omega))) (fun z => absurd z (by omega))⟩
      · exact ⟨12, by omega, by omega, fun K k => pk_le 4 j (fun _ => pk_le j 12 (fun z => absurd z (by omega)) (fun _ => k)) (fun z => absurd z (by omega))⟩
def td_w0 : Nat → Nat → Int32
  | 0 => fun _ => 0
  | n + 1 => upd (td_w0 n) n 1
def td_p0 : Nat → Nat → Int32
  | 0 => fun _ => 0
  | n + 1 => upd (td_p0 n) (16 * n) 1
theorem td_e5 (p : Nat) : nI p * (16 : Int32) = nI (16 * p) := by
  rw [← pk_mul, Int32.mul_comm (nI p)]
  rfl
theorem td_e6 (p : Nat) : (16 : Int32) * nI p = nI (16 * p) := by
  rw [← pk_mul]
  rfl
theorem td_x53 {post : SX → Prop} {a b : Int32} {T : Nat → Int32} (f : post (a, b, T, td_w0 3, td_w0 3, td_p0 3)) :
    ∀ e p, p + e = 3 → wX_init_53 post a b (e + 1) (nI p) T (td_w0 p) (td_w0 p) (td_p0 p) := by
  intro e
  induction e with
  | zero =>
    intro p hp
    obtain rfl : p = 3 := by omega
    exact br_t (nI_le (a := 3) (by omega) (by omega)) f
  | succ e ih =>
    intro p hp
    have hin : vp_in (nI p) 3 := vp_in_nI (by omega) (by omega)
    refine br_f (nI_ge (b := 3) (by omega) (by omega)) ?_
    rw [td_e5]
    refine ⟨hin, nm_r (e' := td_w0 (p + 1)) (by rw [nI_clamp (by omega)]; rfl) ⟨hin, nm_r (e' := td_w0 (p + 1)) (by rw [nI_clamp (by omega)]; rfl) ⟨vp_in_nI (by omega) (by omega), nm_r (e' := td_p0 (p + 1)) (by rw [nI_clamp (by omega)]; rfl) (nm_r (nI_1 p) (ih (p + 1) (by omega)))⟩⟩⟩
theorem td_y87 {post : SY → Prop} {a b : Int32} {T : Nat → Int32} (f : post (a, b, T, td_p0 3, td_w0 3, td_w0 3)) :
    ∀ e p, p + e = 3 → wY_init_87 post a b (e + 1) (nI p) T (td_p0 p) (td_w0 p) (td_w0 p) := by
  intro e
  induction e with
  | zero =>
    intro p hp
    obtain rfl : p = 3 := by omega
    exact br_t (nI_le (a := 3) (by omega) (by omega)) f
  | succ e ih =>
    intro p hp
    have hin : vp_in (nI p) 3 := vp_in_nI (by omega) (by omega)
    refine br_f (nI_ge (b := 3) (by omega) (by omega)) ?_
    rw [td_e6]
    refine ⟨hin, nm_r (e' := td_w0 (p + 1)) (by rw [nI_clamp (by omega)]; rfl) ⟨hin, nm_r (e' := td_w0 (p + 1)) (by rw [nI_clamp (by omega)]; rfl) ⟨vp_in_nI (by omega) (by omega), nm_r (e' := td_p0 (p + 1)) (by rw [nI_clamp (by omega)]; rfl) (nm_r (nI_1 p) (ih (p + 1) (by omega)))⟩⟩⟩
theorem td_w0_1 {p : Nat} (hp : p < 3) : td_w0 3 p = nI 1 :=
  match p, hp with
  | 0, _ => rfl
  | 1, _ => rfl
  | 2, _ => rfl
theorem td_Z_0 {w h : Nat} (w1 : 4 ≤ w) (w2 : w ≤ 12) (h1 : 4 ≤ h) (h2 : h ≤ 12) : td_Z w h (fun _ => 1) (fun _ => 1) (td_w0 3) (td_w0 3) :=
  ⟨w1, w2, h1, h2, fun _ hp => ⟨(by decide : 1 ≤ 1), (by decide : 1 ≤ 4), (by decide : 1 ≤ 1), (by decide : 1 ≤ 4), td_w0_1 hp, td_w0_1 hp⟩⟩
end
section
/-- the two states hold the same text, the same patterns and the same sizes, and the sizes keep their bounds -/
def i_Rel (_ : Nat) (u : SX) (v : SY) : Prop :=
  ∃ (w h : Nat) (A B : Nat → Nat) (T P WW HH : Nat → Int32), td_Z w h A B WW HH ∧ u = (nI w, nI h, T, WW, HH, P) ∧ v = (nI w, nI h, T, P, WW, HH)
theorem i_up {k : Nat} {u : SX} {v : SY} (h : i_Rel k u v) : i_Rel (k + 5) u v := h
theorem i_vc0 (k0 : Int32) (k1 : Int32) : wpX_init (fun u => wpY_init (fun v => i_Rel 2 u v) k0 k1) k0 k1 := by
  obtain ⟨w, w1, w2, cw⟩ := td_cl k0
  obtain ⟨h, h1, h2, ch⟩ := td_cl k1
  refine cw (fun r_1 => wpX_clampSide (fun r_2 => ∃ n53 : Nat, wX_init_53 (fun u => wpY_init (fun v => i_Rel 2 u v) k0 k1) r_1 r_2 n53 0 (fun _ => 0) (fun _ => 0) (fun _ => 0) (fun _ => 0)) k1) ?_
  refine ch (fun r_2 => ∃ n53 : Nat, wX_init_53 (fun u => wpY_init (fun v => i_Rel 2 u v) k0 k1) (nI w) r_2 n53 0 (fun _ => 0) (fun _ => 0) (fun _ => 0) (fun _ => 0)) ?_
  refine ⟨4, td_x53 ?_ 3 0 (by omega)⟩
  refine cw (fun r => wY_init_57 (fun v => i_Rel 2 (nI w, nI h, fun _ => 0, td_w0 3, td_w0 3, td_p0 3) v) k1 r 0 0 (fun _ => 0) (fun _ => 0) (fun _ => 0) (fun _ => 0)) ?_
  refine ch (fun r => ∃ n87 : Nat, wY_init_87 (fun v => i_Rel 2 (nI w, nI h, fun _ => 0, td_w0 3, td_w0 3, td_p0 3) v) (nI w) r n87 0 (fun _ => 0) (fun _ => 0) (fun _ => 0) (fun _ => 0)) ?_
  exact ⟨4, td_y87 ⟨w, h, _, _, _, _, _, _, td_Z_0 w1 w2 h1 h2, rfl, rfl⟩ 3 0 (by omega)⟩
theorem i_vc_write {k : Nat} {u : SX} {v : SY} (I : i_Rel k u v) (hk : k + 5 ≤ 2562) (v1 : Int32) (v2 : Int32) (v3 : Int32) : wpX_write (fun r u' => wpY_write (fun r' v' => r' = r ∧ i_Rel (k + 5) u' v') v v1 v2 v3) u v1 v2 v3 := by
  obtain ⟨w, h, A, B, T, P, WW, HH, Z, rfl, rfl⟩ := I
  by_cases q : td_In w h v1 v2 ∧ td_L v3
  · obtain ⟨⟨c, d, hc, hd, rfl, rfl⟩, hv⟩ := q
    exact td_xwt Z.2.1 Z.2.2.2.1 hc hd hv (td_ywt Z.2.1 Z.2.2.2.1 hc hd hv ⟨rfl, w, h, A, B, _, P, WW, HH, Z, rfl, rfl⟩)
  · exact td_xwf Z.2.1 Z.2.2.2.1 q (td_ywf Z.2.1 Z.2.2.2.1 q ⟨rfl, w, h, A, B, T, P, WW, HH, Z, rfl, rfl⟩)
theorem i_vc_shape {k : Nat} {u : SX} {v : SY} (I : i_Rel k u v) (hk : k + 5 ≤ 2562) (v1 : Int32) (v2 : Int32) (v3 : Int32) : wpX_shape (fun r u' => wpY_shape (fun r' v' => r' = r ∧ i_Rel (k + 5) u' v') v v1 v2 v3) u v1 v2 v3 := by
  obtain ⟨w, h, A, B, T, P, WW, HH, Z, rfl, rfl⟩ := I
  by_cases q : td_L v1 ∧ td_Sd v2 ∧ td_Sd v3
  · obtain ⟨⟨p, hp, rfl⟩, ⟨c, c1, c4, rfl⟩, ⟨d, d1, d4, rfl⟩⟩ := q
    exact td_xst hp ⟨c, c1, c4, rfl⟩ ⟨d, d1, d4, rfl⟩ (td_yst hp ⟨c, c1, c4, rfl⟩ ⟨d, d1, d4, rfl⟩ ⟨rfl, w, h, _, _, T, _, _, _, td_Z_u Z c1 c4 d1 d4, rfl, rfl⟩)
  · exact td_xsf q (td_ysf q ⟨rfl, w, h, A, B, T, P, WW, HH, Z, rfl, rfl⟩)
theorem i_vc_paint {k : Nat} {u : SX} {v : SY} (I : i_Rel k u v) (hk : k + 5 ≤ 2562) (v1 : Int32) (v2 : Int32) (v3 : Int32) (v4 : Int32) : wpX_paint (fun r u' => wpY_paint (fun r' v' => r' = r ∧ i_Rel (k + 5) u' v') v v1 v2 v3 v4) u v1 v2 v3 v4 := by
  obtain ⟨w, h, A, B, T, P, WW, HH, Z, rfl, rfl⟩ := I
  by_cases l : td_L v1
  · obtain ⟨p, hp, rfl⟩ := l
    by_cases q : td_In (A p) (B p) v2 v3 ∧ td_L v4
    · obtain ⟨⟨c, d, hc, hd, rfl, rfl⟩, hv⟩ := q
      exact td_xpt Z hp hc hd hv (td_ypt Z hp hc hd hv ⟨rfl, w, h, A, B, T, _, WW, HH, Z, rfl, rfl⟩)
    · exact td_xpf Z hp q (td_ypf Z hp q ⟨rfl, w, h, A, B, T, P, WW, HH, Z, rfl, rfl⟩)
  · exact td_xp0 l (td_yp0 l ⟨rfl, w, h, A, B, T, P, WW, HH, Z, rfl, rfl⟩)
theorem i_vc_copy {k : Nat} {u : SX} {v : SY} (I : i_Rel k u v) (hk : k + 5 ≤ 2562) (v1 : Int32) (v2 : Int32) (v3 : Int32) : wpX_copy (fun r u' => wpY_copy (fun r' v' => r' = r ∧ i_Rel (k + 5) u' v') v v1 v2 v3) u v1 v2 v3 := by
  obtain ⟨w, h, A, B, T, P, WW, HH, Z, rfl, rfl⟩ := I
  by_cases l : td_L v1
  · obtain ⟨p, hp, rfl⟩ := l
    by_cases q : td_F w h A B p v2 v3
    · obtain ⟨c, d, rfl, rfl, hc, hd⟩ := q
      exact td_xcpt Z hp hc hd (td_ycpt Z hp hc hd ⟨rfl, w, h, A, B, T, _, WW, HH, Z, rfl, rfl⟩)
    · exact td_xcpf Z hp q (td_ycpf Z hp q ⟨rfl, w, h, A, B, T, P, WW, HH, Z, rfl, rfl⟩)
  · exact td_xcp0 l (td_ycp0 l ⟨rfl, w, h, A, B, T, P, WW, HH, Z, rfl, rfl⟩)
theorem i_vc_stamp {k : Nat} {u : SX} {v : SY} (I : i_Rel k u v) (hk : k + 5 ≤ 2562) (v1 : Int32) (v2 : Int32) (v3 : Int32) : wpX_stamp (fun r u' => wpY_stamp (fun r' v' => r' = r ∧ i_Rel (k + 5) u' v') v v1 v2 v3) u v1 v2 v3 := by
  obtain ⟨w, h, A, B, T, P, WW, HH, Z, rfl, rfl⟩ := I
  by_cases l : td_L v1
  · obtain ⟨p, hp, rfl⟩ := l
    by_cases q : td_F w h A B p v2 v3
    · obtain ⟨c, d, rfl, rfl, hc, hd⟩ := q
      exact td_xstt Z hp hc hd (td_ystt Z hp hc hd ⟨rfl, w, h, A, B, _, P, WW, HH, Z, rfl, rfl⟩)
    · exact td_xstf Z hp q (td_ystf Z hp q ⟨rfl, w, h, A, B, T, P, WW, HH, Z, rfl, rfl⟩)
  · exact td_xst0 l (td_yst0 l ⟨rfl, w, h, A, B, T, P, WW, HH, Z, rfl, rfl⟩)
theorem i_vc_letter {k : Nat} {u : SX} {v : SY} (I : i_Rel k u v) (hk : k + 5 ≤ 2562) (v1 : Int32) (v2 : Int32) : wpX_letter (fun r => wpY_letter (fun r' => r' = r ∧ i_Rel (k + 5) u v) v v1 v2) u v1 v2 := by
  have R : i_Rel (k + 5) u v := I
  obtain ⟨w, h, A, B, T, P, WW, HH, Z, rfl, rfl⟩ := I
  by_cases q : td_In w h v1 v2
  · obtain ⟨c, d, hc, hd, rfl, rfl⟩ := q
    exact td_xlt Z.2.1 Z.2.2.2.1 hc hd (td_ylt Z.2.1 Z.2.2.2.1 hc hd ⟨rfl, R⟩)
  · exact td_xlf Z.2.1 Z.2.2.2.1 q (td_ylf Z.2.1 Z.2.2.2.1 q ⟨rfl, R⟩)
theorem i_vc_occurrences {k : Nat} {u : SX} {v : SY} (I : i_Rel k u v) (hk : k + 5 ≤ 2562) (v1 : Int32) : wpX_occurrences (fun r => wpY_occurrences (fun r' => r' = r ∧ i_Rel (k + 5) u v) v v1) u v1 := by
  have R : i_Rel (k + 5) u v := I
  obtain ⟨w, h, A, B, T, P, WW, HH, Z, rfl, rfl⟩ := I
  by_cases l : td_L v1
  · obtain ⟨p, hp, rfl⟩ := l
    exact td_xocc Z hp (td_yocc Z hp ⟨rfl, R⟩)
  · unfold wpX_occurrences wpY_occurrences
    dsimp only
    exact td_xp (fun z => absurd z l) (fun _ => td_br0 (td_yp (fun z => absurd z l) (fun _ => td_br0 ⟨rfl, R⟩)))
theorem i_vc_occurs {k : Nat} {u : SX} {v : SY} (I : i_Rel k u v) (hk : k + 5 ≤ 2562) (v1 : Int32) (v2 : Int32) (v3 : Int32) : wpX_occurs (fun r => wpY_occurs (fun r' => r' = r ∧ i_Rel (k + 5) u v) v v1 v2 v3) u v1 v2 v3 := by
  have R : i_Rel (k + 5) u v := I
  obtain ⟨w, h, A, B, T, P, WW, HH, Z, rfl, rfl⟩ := I
  unfold wpX_occurs
  dsimp only
  by_cases l : td_L v1
  · obtain ⟨p, hp, rfl⟩ := l
    refine td_xp (fun _ => td_br1 ?_) (fun z => absurd ⟨p, hp, rfl⟩ z)
    exact td_xm Z hp (fun m => td_br1 (td_ym Z hp (fun _ => ⟨rfl, R⟩) (fun z => absurd m z))) (fun m => td_br0 (td_ym Z hp (fun z => absurd z m) (fun _ => ⟨rfl, R⟩)))
  · exact td_xp (fun z => absurd z l) (fun _ => td_br0 (td_ym0 l ⟨rfl, R⟩))
theorem i_vc_next {k : Nat} {u : SX} {v : SY} (I : i_Rel k u v) (hk : k + 5 ≤ 2562) (v1 : Int32) (v2 : Int32) : wpX_next (fun r => wpY_next (fun r' => r' = r ∧ i_Rel (k + 5) u v) v v1 v2) u v1 v2 := by
  have R : i_Rel (k + 5) u v := I
  obtain ⟨w, h, A, B, T, P, WW, HH, Z, rfl, rfl⟩ := I
  by_cases l : td_L v1
  · obtain ⟨p, hp, rfl⟩ := l
    refine td_xnext Z hp (fun a ha na la => td_ynext Z hp (fun b hb nb lb => ?_) (fun z => absurd na (z a ha))) (fun z => td_ynext Z hp (fun b hb nb _ => absurd nb (z b hb)) (fun _ => ⟨rfl, R⟩))
    obtain rfl : b = a := by
      rcases Nat.lt_trichotomy b a with c | c | c
      · exact absurd nb (la b c)
      · exact c
      · exact absurd na (lb a c)
    exact ⟨rfl, R⟩
  · unfold wpX_next wpY_next
    dsimp only
    exact td_xp (fun z => absurd z l) (fun _ => td_br0 (td_yp (fun z => absurd z l) (fun _ => td_br0 ⟨rfl, R⟩)))
theorem i_vc_covered {k : Nat} {u : SX} {v : SY} (I : i_Rel k u v) (hk : k + 5 ≤ 2562) : wpX_covered (fun r => wpY_covered (fun r' => r' = r ∧ i_Rel (k + 5) u v) v) u := by
  have R : i_Rel (k + 5) u v := I
  obtain ⟨w, h, A, B, T, P, WW, HH, Z, rfl, rfl⟩ := I
  exact td_xcov Z (td_ycov Z ⟨rfl, R⟩)
theorem i_vc_overlaps {k : Nat} {u : SX} {v : SY} (I : i_Rel k u v) (hk : k + 5 ≤ 2562) (v1 : Int32) : wpX_overlaps (fun r => wpY_overlaps (fun r' => r' = r ∧ i_Rel (k + 5) u v) v v1) u v1 := by
  have R : i_Rel (k + 5) u v := I
  obtain ⟨w, h, A, B, T, P, WW, HH, Z, rfl, rfl⟩ := I
  by_cases l : td_L v1
  · obtain ⟨p, hp, rfl⟩ := l
    exact td_xover Z hp (td_yover Z hp ⟨rfl, R⟩)
  · unfold wpX_overlaps wpY_overlaps
    dsimp only
    exact td_xp (fun z => absurd z l) (fun _ => td_br0 (td_yp (fun z => absurd z l) (fun _ => td_br0 ⟨rfl, R⟩)))
end
