/-! overlaps: both sides sum the couples of each place -/
theorem td_c1 {a b c : Nat} (ha : a < 100) (hb : b < 100) (hc : c < 100) : nI a ≤ nI b - nI c ↔ c + a ≤ b := by
  rw [Int32.le_iff_toInt_le, pk_sub_toInt (by omega) (by omega), nI_toInt (by omega)]
  omega
theorem td_c2 {a b c : Nat} (ha : a < 100) (hb : b < 100) (hc : c < 100) : nI a ≤ -(nI b - nI c) ↔ b + a ≤ c := by
  rw [Int32.neg_sub, td_c1 ha hc hb]
theorem td_c3 (x r a : Nat) : nI x + (nI r - nI a) = nI (x + r) - nI a := by
  rw [← nI_add, Int32.sub_eq_add_neg, Int32.sub_eq_add_neg, Int32.add_assoc]
theorem td_c4 (r a : Nat) : nI r - nI a + 1 = nI (r + 1) - nI a := by
  rw [← nI_1, Int32.sub_eq_add_neg, Int32.sub_eq_add_neg, Int32.add_assoc, Int32.add_assoc, Int32.add_comm (-nI a)]
theorem td_c5 (a : Nat) : (1 : Int32) = nI (a + 1) - nI a := by
  rw [pk_sub (by omega), Nat.add_sub_cancel_left]
  rfl
theorem td_xl40 {post : Int32 → Prop} {J : Int32 → Int32 → Prop} {w h : Nat} {A B : Nat → Nat} {T WW HH P : Nat → Int32} {p x y e : Nat} (Z : td_Z w h A B WW HH) (hp : p < 3) (hM : td_M w h A B T P p x y) (he : e < B p)
    (f : J (nI (td_cn (td_G w h A B T P p (16 * y + x)) (16 * (y + e) + (x + 2 * A p - A p)))) (nI (e + 1))) :
    ∀ n r, r + n = 2 * A p → 1 ≤ r → (e = 0 → A p < r) → wX_laterOverlapsWith_40 post J (nI p) (nI x) (nI y) (nI e) (nI w) (nI h) T WW HH P (n + 1) (nI (td_cn (td_G w h A B T P p (16 * y + x)) (16 * (y + e) + (x + r - A p)))) (nI r - nI (A p)) := by
  obtain ⟨w1, w2, h1, h2, a1, a2, b1, b2⟩ := td_Zn Z hp
  have hin : vp_in (nI p) 3 := vp_in_nI hp (by omega)
  have hx := hM.1
  have hy := hM.2.1
  intro n
  induction n with
  | zero =>
    intro r hr r1 r0
    obtain rfl : r = 2 * A p := by omega
    refine And.intro hin (br_t ?_ (nm_r (nI_1 e) f))
    rw [td_ZW Z hp, td_c1 (by omega) (by omega) (by omega)]
    omega
  | succ n ih =>
    intro r hr r1 r0
    have i2 := ih (r + 1) (by omega) (by omega) (by omega)
    refine And.intro hin (br_f ?_ ?_)
    · rw [td_ZW Z hp, td_c1 (by omega) (by omega) (by omega)]
      omega
    · rw [td_c3, nI_add]
      by_cases g : x + r < A p
      · rw [td_G_neg g] at i2
        exact td_xm Z hp (fun m => absurd (td_I_F m) (td_F_x w2 (pk_sneg (by omega) g))) (fun m => td_br0 (nm_r (td_c4 r (A p)) i2))
      · rw [pk_sub (a := x + r) (b := A p) (by omega)]
        have ee := td_I_n (A := A) (B := B) (T := T) (P := P) (p := p) (c := x + r - A p) (d := y + e) w2 h2 (by omega) (by omega)
        have gg := td_G_hit w2 hM he r0 r1 (by omega) (by omega)
        rw [show 16 * (y + e) + (x + (r + 1) - A p) = 16 * (y + e) + (x + r - A p) + 1 by omega] at i2
        refine td_xm Z hp (fun m => td_br1 ?_) (fun m => td_br0 ?_)
        · rw [td_cn_t (gg.mpr (ee.mp m))] at i2
          exact nm_r (nI_1 _) (nm_r (td_c4 r (A p)) i2)
        · rw [td_cn_f (fun z => m (ee.mpr (gg.mp z)))] at i2
          exact nm_r (td_c4 r (A p)) i2
theorem td_xl6 {post : Int32 → Prop} {w h : Nat} {A B : Nat → Nat} {T WW HH P : Nat → Int32} {p x y : Nat} (Z : td_Z w h A B WW HH) (hp : p < 3) (hM : td_M w h A B T P p x y)
    (f : post (nI (td_cn (td_G w h A B T P p (16 * y + x)) 192))) :
    ∀ n e c, e + n = B p → ((e = 0 ∧ c = 0) ∨ (0 < e ∧ c = td_cn (td_G w h A B T P p (16 * y + x)) (16 * (y + e) + (x + 1 - A p)))) → wX_laterOverlapsWith_6 post (nI p) (nI x) (nI y) (nI w) (nI h) T WW HH P (n + 1) (nI c) (nI e) := by
  obtain ⟨w1, w2, h1, h2, a1, a2, b1, b2⟩ := td_Zn Z hp
  have hin : vp_in (nI p) 3 := vp_in_nI hp (by omega)
  have hx := hM.1
  have hy := hM.2.1
  intro n
  induction n with
  | zero =>
    intro e c he hc
    obtain rfl : e = B p := by omega
    obtain rfl : c = td_cn (td_G w h A B T P p (16 * y + x)) (16 * (y + B p) + (x + 1 - A p)) := by
      rcases hc with hc | hc
      · omega
      · exact hc.2
    rw [td_G_end w2 h2 a1 hx hy] at f
    exact And.intro hin (br_t (td_Hle Z hp (by omega) (by omega)) f)
  | succ n ih =>
    intro e c he hc
    have i2 := ih (e + 1) _ (by omega) (Or.inr ⟨by omega, rfl⟩)
    rw [td_G_row w2 a1 hx] at i2
    refine And.intro hin (br_f (td_Hgt Z hp (by omega)) ?_)
    rcases hc with ⟨rfl, rfl⟩ | ⟨e0, rfl⟩
    · have l := td_xl40 (post := post) Z hp hM (by omega) i2 (A p - 1) (A p + 1) (by omega) (by omega) (by omega)
      rw [show 16 * (y + 0) + (x + (A p + 1) - A p) = 16 * y + x + 1 by omega, td_G_0, ← td_c5] at l
      exact br_t rfl ⟨_, l⟩
    · have l := td_xl40 (post := post) Z hp hM (by omega) i2 (2 * A p - 1) 1 (by omega) (by omega) (by omega)
      exact br_f (nI_ne0 e0 (by omega)) ⟨hin, nm_r (by rw [td_ZW Z hp]; rfl) ⟨_, l⟩⟩
theorem td_xlat {post : Int32 → Prop} {w h : Nat} {A B : Nat → Nat} {T WW HH P : Nat → Int32} {p x y : Nat} (Z : td_Z w h A B WW HH) (hp : p < 3) (hM : td_M w h A B T P p x y)
    (f : post (nI (td_cn (td_G w h A B T P p (16 * y + x)) 192))) : wpX_laterOverlapsWith post (nI w, nI h, T, WW, HH, P) (nI p) (nI x) (nI y) :=
  ⟨B p + 1, td_xl6 Z hp hM f (B p) 0 0 (by omega) (Or.inl ⟨rfl, rfl⟩)⟩
theorem td_xs24 {post : Int32 → Prop} {J : Int32 → Int32 → Prop} {w h : Nat} {A B : Nat → Nat} {T WW HH P : Nat → Int32} {p y : Nat} (Z : td_Z w h A B WW HH) (hp : p < 3) (hy : y < h)
    (f : J (nI (td_S (td_G w h A B T P p) 192 (16 * (y + 1)))) (nI (y + 1))) :
    ∀ e x, x + e = w → wX_overlaps_24 post J (nI p) (nI y) (nI w) (nI h) T WW HH P (e + 1) (nI (td_S (td_G w h A B T P p) 192 (16 * y + x))) (nI x) := by
  obtain ⟨w1, w2, h1, h2, a1, a2, b1, b2⟩ := td_Zn Z hp
  intro e
  induction e with
  | zero =>
    intro x hx
    have e1 : td_S (td_G w h A B T P p) 192 (16 * y + x) = td_S (td_G w h A B T P p) 192 (16 * (y + 1)) :=
      (td_S_flat _ (by omega) (fun k h1 h2 t g => td_O_out a1 b1 (by omega) g.2.2.1)).symm
    rw [e1]
    exact br_t (nI_le (by omega) (by omega)) (nm_r (nI_1 y) f)
  | succ e ih =>
    intro x hx
    have i2 := ih (x + 1) (by omega)
    refine br_f (nI_ge (by omega) (by omega)) (td_xO Z hp (by omega) (by omega) (fun m => td_br1 ?_) (fun m => td_br0 ?_))
    · rw [show 16 * y + (x + 1) = 16 * y + x + 1 from rfl, td_S_s] at i2
      exact td_xlat Z hp ((td_O_n (by omega)).mp m) (nm_r (nI_add _ _) (nm_r (nI_1 x) i2))
    · rw [show 16 * y + (x + 1) = 16 * y + x + 1 from rfl, td_S_f (fun t g => m g.2.2.1)] at i2
      exact nm_r (nI_1 x) i2
theorem td_xs13 {post : Int32 → Prop} {w h : Nat} {A B : Nat → Nat} {T WW HH P : Nat → Int32} {p : Nat} (Z : td_Z w h A B WW HH) (hp : p < 3)
    (f : post (nI (td_S (td_G w h A B T P p) 192 192))) :
    ∀ e y, y + e = h → wX_overlaps_13 post (nI p) (nI w) (nI h) T WW HH P (e + 1) (nI (td_S (td_G w h A B T P p) 192 (16 * y))) (nI y) := by
  obtain ⟨w1, w2, h1, h2, a1, a2, b1, b2⟩ := td_Zn Z hp
  intro e
  induction e with
  | zero =>
    intro y hy
    have e1 : td_S (td_G w h A B T P p) 192 (16 * y) = td_S (td_G w h A B T P p) 192 192 :=
      (td_S_flat _ (by omega) (fun k h1 h2 t g => td_O_out a1 b1 (by omega) g.2.2.1)).symm
    rw [e1]
    exact br_t (nI_le (by omega) (by omega)) f
  | succ e ih =>
    intro y hy
    exact br_f (nI_ge (by omega) (by omega)) ⟨w + 1, td_xs24 Z hp (by omega) (ih (y + 1) (by omega)) w 0 (by omega)⟩
theorem td_xover {post : Int32 → Prop} {w h : Nat} {A B : Nat → Nat} {T WW HH P : Nat → Int32} {p : Nat} (Z : td_Z w h A B WW HH) (hp : p < 3)
    (f : post (nI (td_S (td_G w h A B T P p) 192 192))) : wpX_overlaps post (nI w, nI h, T, WW, HH, P) (nI p) := by
  unfold wpX_overlaps
  dsimp only
  exact td_xp (fun _ => td_br1 ⟨h + 1, td_xs13 Z hp f h 0 (by omega)⟩) (fun z => absurd ⟨p, hp, rfl⟩ z)
theorem td_ys26 {post : Int32 → Prop} {J : Int32 → Int32 → Prop} {w h : Nat} {A B : Nat → Nat} {T WW HH P : Nat → Int32} {p k : Nat} (Z : td_Z w h A B WW HH) (hp : p < 3) (hk : k < 192)
    (f : J (nI (td_S (td_G w h A B T P p) 192 (k + 1))) (nI (k + 1))) :
    ∀ e t, t + e = 192 → k < t → wY_overlaps_26 post J (nI p) (nI k) (nI w) (nI h) T P WW HH (e + 1) (nI (td_S (td_G w h A B T P p) 192 k + td_cn (td_G w h A B T P p k) t)) (nI t) := by
  obtain ⟨w1, w2, h1, h2, a1, a2, b1, b2⟩ := td_Zn Z hp
  have hin : vp_in (nI p) 3 := vp_in_nI hp (by omega)
  intro e
  induction e with
  | zero =>
    intro t ht hkt
    obtain rfl : t = 192 := by omega
    exact br_t (nI_le (a := 192) (by omega) (by omega)) (nm_r (nI_1 k) f)
  | succ e ih =>
    intro t ht hkt
    have i2 := ih (t + 1) (by omega) (by omega)
    have yes : td_G w h A B T P p k t → ∀ x2 : Int32, x2 = nI (td_S (td_G w h A B T P p) 192 k + td_cn (td_G w h A B T P p k) t) + 1 → ∀ x4 : Int32, x4 = nI t + 1 → wY_overlaps_26 post J (nI p) (nI k) (nI w) (nI h) T P WW HH (e + 1) x2 x4 := by
      intro m
      rw [td_cn_t m] at i2
      exact nm_r (nI_1 _) (nm_r (nI_1 t) i2)
    have no : ¬ td_G w h A B T P p k t → ∀ x4 : Int32, x4 = nI t + 1 → wY_overlaps_26 post J (nI p) (nI k) (nI w) (nI h) T P WW HH (e + 1) (nI (td_S (td_G w h A B T P p) 192 k + td_cn (td_G w h A B T P p k) t)) x4 := by
      intro m
      rw [td_cn_f m] at i2
      exact nm_r (nI_1 t) i2
    refine br_f (nI_ge (b := 192) (by omega) (by omega)) ⟨by decide, by decide, nm_r (e' := nI (t % 16) - nI (k % 16)) (by rw [td_r16 (by omega), td_r16 (by omega)]) ⟨by decide, by decide, nm_r (e' := nI (t / 16) - nI (k / 16)) (by rw [td_d16 (by omega), td_d16 (by omega)]) ⟨hin, ?_⟩⟩⟩
    rw [td_ZW Z hp, td_ZH Z hp, td_c1 (by omega) (by omega) (by omega), td_c1 (by omega) (by omega) (by omega), td_c2 (by omega) (by omega) (by omega)]
    have out : ¬ td_G w h A B T P p k t → wY_overlaps_96 post J (wY_overlaps_26 post J (nI p) (nI k) (nI w) (nI h) T P WW HH (e + 1)) (nI p) (nI (td_S (td_G w h A B T P p) 192 k + td_cn (td_G w h A B T P p k) t)) (nI k) (nI t) (nI w) (nI h) T P WW HH :=
      fun m => td_br0 (no m)
    refine br_c (fun c => out (fun g => by have := g.2.1; omega)) (fun c1 => ⟨hin, br_c (fun c => out (fun g => by have := g.2.1; omega)) (fun c2 => ⟨hin, br_c (fun c => out (fun g => by have := g.2.1; omega)) (fun c3 => td_br1 ⟨by decide, by decide, ?_⟩)⟩)⟩)
    refine td_yO Z hp (by omega) (fun mk => td_br1 ⟨by decide, by decide, ?_⟩) (fun mk => td_br0 (no (fun g => mk g.2.2.1)))
    exact td_yO Z hp (by omega) (fun mt => td_br1 (yes ⟨hkt, ⟨by omega, by omega, by omega⟩, mk, mt⟩)) (fun mt => td_br0 (no (fun g => mt g.2.2.2)))
theorem td_ys14 {post : Int32 → Prop} {w h : Nat} {A B : Nat → Nat} {T WW HH P : Nat → Int32} {p : Nat} (Z : td_Z w h A B WW HH) (hp : p < 3)
    (f : post (nI (td_S (td_G w h A B T P p) 192 192))) :
    ∀ e k, k + e = 192 → wY_overlaps_14 post (nI p) (nI w) (nI h) T P WW HH (e + 1) (nI (td_S (td_G w h A B T P p) 192 k)) (nI k) := by
  intro e
  induction e with
  | zero =>
    intro k hk
    obtain rfl : k = 192 := by omega
    exact br_t (nI_le (a := 192) (by omega) (by omega)) f
  | succ e ih =>
    intro k hk
    have l := td_ys26 (post := post) (T := T) (P := P) Z hp (by omega) (ih (k + 1) (by omega)) e (k + 1) (by omega) (by omega)
    rw [td_G_0, Nat.add_zero] at l
    exact br_f (nI_ge (b := 192) (by omega) (by omega)) (nm_r (nI_1 k) ⟨_, l⟩)
theorem td_yover {post : Int32 → Prop} {w h : Nat} {A B : Nat → Nat} {T WW HH P : Nat → Int32} {p : Nat} (Z : td_Z w h A B WW HH) (hp : p < 3)
    (f : post (nI (td_S (td_G w h A B T P p) 192 192))) : wpY_overlaps post (nI w, nI h, T, P, WW, HH) (nI p) := by
  unfold wpY_overlaps
  dsimp only
  exact td_yp (fun _ => td_br1 ⟨193, td_ys14 Z hp f 192 0 (by omega)⟩) (fun z => absurd ⟨p, hp, rfl⟩ z)
