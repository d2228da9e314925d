/-! occurrences: both sides count td_O below 192 -/
theorem td_rowend {w h : Nat} {A B : Nat → Nat} {T P : Nat → Int32} {p x y : Nat} (hw : w ≤ 12) (ha : 1 ≤ A p) (hb : 1 ≤ B p) (hx : x = w) : td_cn (td_O w h A B T P p) (16 * y + x) = td_cn (td_O w h A B T P p) (16 * (y + 1)) :=
  (td_cn_flat _ (by omega) (fun k h1 h2 => td_O_out ha hb (by omega))).symm
theorem td_textend {w h : Nat} {A B : Nat → Nat} {T P : Nat → Int32} {p y : Nat} (hh : h ≤ 12) (ha : 1 ≤ A p) (hb : 1 ≤ B p) (hy : y = h) : td_cn (td_O w h A B T P p) (16 * y) = td_cn (td_O w h A B T P p) 192 :=
  (td_cn_flat _ (by omega) (fun k h1 h2 => td_O_out ha hb (by omega))).symm
theorem td_xo24 {post : Int32 → Prop} {J : Int32 → Int32 → Prop} {w h : Nat} {A B : Nat → Nat} {T WW HH P : Nat → Int32} {p y : Nat} (Z : td_Z w h A B WW HH) (hp : p < 3) (hy : y < h)
    (f : J (nI (td_cn (td_O w h A B T P p) (16 * (y + 1)))) (nI (y + 1))) :
    ∀ e x, x + e = w → wX_occurrences_24 post J (nI p) (nI y) (nI w) (nI h) T WW HH P (e + 1) (nI (td_cn (td_O w h A B T P p) (16 * y + x))) (nI x) := by
  obtain ⟨w1, w2, h1, h2, a1, a2, b1, b2⟩ := td_Zn Z hp
  intro e
  induction e with
  | zero =>
    intro x hx
    rw [td_rowend (p := p) w2 a1 b1 (by omega)]
    exact br_t (nI_le (by omega) (by omega)) (nm_r (nI_1 y) f)
  | succ e ih =>
    intro x hx
    have i2 := ih (x + 1) (by omega)
    refine br_f (nI_ge (by omega) (by omega)) (td_xO Z hp (by omega) (by omega) (fun m => td_br1 ?_) (fun m => td_br0 ?_))
    · rw [show 16 * y + (x + 1) = 16 * y + x + 1 from rfl, td_cn_t m] at i2
      exact nm_r (nI_1 _) (nm_r (nI_1 x) i2)
    · rw [show 16 * y + (x + 1) = 16 * y + x + 1 from rfl, td_cn_f m] at i2
      exact nm_r (nI_1 x) i2
theorem td_xo13 {post : Int32 → Prop} {w h : Nat} {A B : Nat → Nat} {T WW HH P : Nat → Int32} {p : Nat} (Z : td_Z w h A B WW HH) (hp : p < 3)
    (f : post (nI (td_cn (td_O w h A B T P p) 192))) :
    ∀ e y, y + e = h → wX_occurrences_13 post (nI p) (nI w) (nI h) T WW HH P (e + 1) (nI (td_cn (td_O w h A B T P p) (16 * y))) (nI y) := by
  obtain ⟨w1, w2, h1, h2, a1, a2, b1, b2⟩ := td_Zn Z hp
  intro e
  induction e with
  | zero =>
    intro y hy
    rw [td_textend (p := p) h2 a1 b1 (by omega)]
    exact br_t (nI_le (by omega) (by omega)) f
  | succ e ih =>
    intro y hy
    exact br_f (nI_ge (by omega) (by omega)) ⟨w + 1, td_xo24 Z hp (by omega) (ih (y + 1) (by omega)) w 0 (by omega)⟩
theorem td_xocc {post : Int32 → Prop} {w h : Nat} {A B : Nat → Nat} {T WW HH P : Nat → Int32} {p : Nat} (Z : td_Z w h A B WW HH) (hp : p < 3)
    (f : post (nI (td_cn (td_O w h A B T P p) 192))) : wpX_occurrences post (nI w, nI h, T, WW, HH, P) (nI p) := by
  unfold wpX_occurrences
  dsimp only
  exact td_xp (fun _ => td_br1 ⟨h + 1, td_xo13 Z hp f h 0 (by omega)⟩) (fun z => absurd ⟨p, hp, rfl⟩ z)
theorem td_yo14 {post : Int32 → Prop} {w h : Nat} {A B : Nat → Nat} {T WW HH P : Nat → Int32} {p : Nat} (Z : td_Z w h A B WW HH) (hp : p < 3)
    (f : post (nI (td_cn (td_O w h A B T P p) 192))) :
    ∀ e k, k + e = 192 → wY_occurrences_14 post (nI p) (nI w) (nI h) T P WW HH (e + 1) (nI (td_cn (td_O w h A B T P p) k)) (nI k) := by
  intro e
  induction e with
  | zero =>
    intro k hk
    obtain rfl : k = 192 := by omega
    exact br_t (nI_le (a := 192) (by omega) (by omega)) f
  | succ e ih =>
    intro k hk
    have i2 := ih (k + 1) (by omega)
    refine br_f (nI_ge (b := 192) (by omega) (by omega)) ⟨by decide, by decide, td_yO Z hp (by omega) (fun m => td_br1 ?_) (fun m => td_br0 ?_)⟩
    · rw [td_cn_t m] at i2
      exact nm_r (nI_1 _) (nm_r (nI_1 k) i2)
    · rw [td_cn_f m] at i2
      exact nm_r (nI_1 k) i2
theorem td_yocc {post : Int32 → Prop} {w h : Nat} {A B : Nat → Nat} {T WW HH P : Nat → Int32} {p : Nat} (Z : td_Z w h A B WW HH) (hp : p < 3)
    (f : post (nI (td_cn (td_O w h A B T P p) 192))) : wpY_occurrences post (nI w, nI h, T, P, WW, HH) (nI p) := by
  unfold wpY_occurrences
  dsimp only
  exact td_yp (fun _ => td_br1 ⟨193, td_yo14 Z hp f 192 0 (by omega)⟩) (fun z => absurd ⟨p, hp, rfl⟩ z)
/-! next: the first place from v on -/
def td_N (w h : Nat) (A B : Nat → Nat) (T P : Nat → Int32) (p : Nat) (v : Int32) (k : Nat) : Prop := ¬ nI k < v ∧ td_O w h A B T P p k
theorem td_xn22 {post : Int32 → Prop} {J : Int32 → Prop} {w h : Nat} {A B : Nat → Nat} {T WW HH P : Nat → Int32} {p y : Nat} {v : Int32} (Z : td_Z w h A B WW HH) (hp : p < 3) (hy : y < h)
    (t : ∀ k, k < 192 → td_N w h A B T P p v k → (∀ k', k' < k → ¬ td_N w h A B T P p v k') → post (nI k))
    (f : (∀ k', k' < 16 * (y + 1) → ¬ td_N w h A B T P p v k') → J (nI (y + 1))) :
    ∀ e x, x + e = w → (∀ k', k' < 16 * y + x → ¬ td_N w h A B T P p v k') → wX_next_22 post J (nI p) v (nI y) (nI w) (nI h) T WW HH P (e + 1) (nI x) := by
  obtain ⟨w1, w2, h1, h2, a1, a2, b1, b2⟩ := td_Zn Z hp
  intro e
  induction e with
  | zero =>
    intro x hx hall
    refine br_t (nI_le (by omega) (by omega)) (nm_r (nI_1 y) (f (fun k' h' => ?_)))
    by_cases c : k' < 16 * y + x
    · exact hall k' c
    · exact fun z => td_O_out a1 b1 (by omega) z.2
  | succ e ih =>
    intro x hx hall
    have go : ¬ td_N w h A B T P p v (16 * y + x) → ∀ k', k' < 16 * y + (x + 1) → ¬ td_N w h A B T P p v k' := by
      intro z k' h'
      by_cases c : k' < 16 * y + x
      · exact hall k' c
      · obtain rfl : k' = 16 * y + x := by omega
        exact z
    refine br_f (nI_ge (by omega) (by omega)) (td_xpn rfl rfl (br_c (fun c => nm_r (nI_1 x) (ih (x + 1) (by omega) (go (fun z => z.1 c)))) (fun c => ?_)))
    exact td_xO Z hp (by omega) (by omega) (fun m => td_br1 (t _ (by omega) ⟨c, m⟩ hall)) (fun m => td_br0 (nm_r (nI_1 x) (ih (x + 1) (by omega) (go (fun z => m z.2)))))
theorem td_xn11 {post : Int32 → Prop} {w h : Nat} {A B : Nat → Nat} {T WW HH P : Nat → Int32} {p : Nat} {v : Int32} (Z : td_Z w h A B WW HH) (hp : p < 3)
    (t : ∀ k, k < 192 → td_N w h A B T P p v k → (∀ k', k' < k → ¬ td_N w h A B T P p v k') → post (nI k))
    (f : (∀ k', k' < 192 → ¬ td_N w h A B T P p v k') → post (-2)) :
    ∀ e y, y + e = h → (∀ k', k' < 16 * y → ¬ td_N w h A B T P p v k') → wX_next_11 post (nI p) v (nI w) (nI h) T WW HH P (e + 1) (nI y) := by
  obtain ⟨w1, w2, h1, h2, a1, a2, b1, b2⟩ := td_Zn Z hp
  intro e
  induction e with
  | zero =>
    intro y hy hall
    refine br_t (nI_le (by omega) (by omega)) (f (fun k' h' => ?_))
    by_cases c : k' < 16 * y
    · exact hall k' c
    · exact fun z => td_O_out a1 b1 (by omega) z.2
  | succ e ih =>
    intro y hy hall
    exact br_f (nI_ge (by omega) (by omega)) ⟨w + 1, td_xn22 Z hp (by omega) t (ih (y + 1) (by omega)) w 0 (by omega) hall⟩
theorem td_xnext {post : Int32 → Prop} {w h : Nat} {A B : Nat → Nat} {T WW HH P : Nat → Int32} {p : Nat} {v : Int32} (Z : td_Z w h A B WW HH) (hp : p < 3)
    (t : ∀ k, k < 192 → td_N w h A B T P p v k → (∀ k', k' < k → ¬ td_N w h A B T P p v k') → post (nI k))
    (f : (∀ k', k' < 192 → ¬ td_N w h A B T P p v k') → post (-2)) : wpX_next post (nI w, nI h, T, WW, HH, P) (nI p) v := by
  unfold wpX_next
  dsimp only
  exact td_xp (fun _ => td_br1 ⟨h + 1, td_xn11 Z hp t f h 0 (by omega) (fun k' h' => by omega)⟩) (fun z => absurd ⟨p, hp, rfl⟩ z)
theorem td_yn12 {post : Int32 → Prop} {w h : Nat} {A B : Nat → Nat} {T WW HH P : Nat → Int32} {p : Nat} {v : Int32} (Z : td_Z w h A B WW HH) (hp : p < 3)
    (t : ∀ k, k < 192 → td_N w h A B T P p v k → (∀ k', k' < k → ¬ td_N w h A B T P p v k') → post (nI k))
    (f : (∀ k', k' < 192 → ¬ td_N w h A B T P p v k') → post (-2)) :
    ∀ e k, k + e = 192 → (∀ k', k' < k → ¬ td_N w h A B T P p v k') → wY_next_12 post (nI p) v (nI w) (nI h) T P WW HH (e + 1) (nI k) := by
  intro e
  induction e with
  | zero =>
    intro k hk hall
    obtain rfl : k = 192 := by omega
    exact br_t (nI_le (a := 192) (by omega) (by omega)) (f hall)
  | succ e ih =>
    intro k hk hall
    have go : ¬ td_N w h A B T P p v k → ∀ k', k' < k + 1 → ¬ td_N w h A B T P p v k' := by
      intro z k' h'
      by_cases c : k' < k
      · exact hall k' c
      · obtain rfl : k' = k := by omega
        exact z
    refine br_f (nI_ge (b := 192) (by omega) (by omega)) (br_c (fun c => nm_r (nI_1 k) (ih (k + 1) (by omega) (go (fun z => z.1 c)))) (fun c => ⟨by decide, by decide, ?_⟩))
    exact td_yO Z hp (by omega) (fun m => td_br1 (t _ (by omega) ⟨c, m⟩ hall)) (fun m => td_br0 (nm_r (nI_1 k) (ih (k + 1) (by omega) (go (fun z => m z.2)))))
theorem td_ynext {post : Int32 → Prop} {w h : Nat} {A B : Nat → Nat} {T WW HH P : Nat → Int32} {p : Nat} {v : Int32} (Z : td_Z w h A B WW HH) (hp : p < 3)
    (t : ∀ k, k < 192 → td_N w h A B T P p v k → (∀ k', k' < k → ¬ td_N w h A B T P p v k') → post (nI k))
    (f : (∀ k', k' < 192 → ¬ td_N w h A B T P p v k') → post (-2)) : wpY_next post (nI w, nI h, T, P, WW, HH) (nI p) v := by
  unfold wpY_next
  dsimp only
  exact td_yp (fun _ => td_br1 ⟨193, td_yn12 Z hp t f 192 0 (by omega) (fun k' h' => by omega)⟩) (fun z => absurd ⟨p, hp, rfl⟩ z)
/-! covered: both sides count td_V below 192 -/
theorem td_V_n {w h : Nat} {A B : Nat → Nat} {T P : Nat → Int32} {x y : Nat} (hw : w ≤ 12) (hx : x < w) (hy : y < h) : td_V w h A B T P (16 * y + x) ↔ ∃ p, p < 3 ∧ td_C w h A B T P p (nI x) (nI y) := by
  have e1 : (16 * y + x) % 16 = x := by omega
  have e2 : (16 * y + x) / 16 = y := by omega
  unfold td_V
  rw [e1, e2]
  exact ⟨fun z => z.2.2, fun z => ⟨hx, hy, z⟩⟩
theorem td_xv14 {post : Int32 → Prop} {J : Int32 → Int32 → Prop} {w h : Nat} {A B : Nat → Nat} {T WW HH P : Nat → Int32} {y : Nat} (Z : td_Z w h A B WW HH) (hy : y < h)
    (f : J (nI (td_cn (td_V w h A B T P) (16 * (y + 1)))) (nI (y + 1))) :
    ∀ e x, x + e = w → wX_covered_14 post J (nI y) (nI w) (nI h) T WW HH P (e + 1) (nI (td_cn (td_V w h A B T P) (16 * y + x))) (nI x) := by
  obtain ⟨w1, w2, h1, h2, _⟩ := td_Zn Z (p := 0) (by omega)
  intro e
  induction e with
  | zero =>
    intro x hx
    have e1 : td_cn (td_V w h A B T P) (16 * y + x) = td_cn (td_V w h A B T P) (16 * (y + 1)) :=
      (td_cn_flat _ (by omega) (fun k h1 h2 z => by have := z.1; omega)).symm
    rw [e1]
    exact br_t (nI_le (by omega) (by omega)) (nm_r (nI_1 y) f)
  | succ e ih =>
    intro x hx
    have i2 := ih (x + 1) (by omega)
    have vv := td_V_n (A := A) (B := B) (T := T) (P := P) w2 (x := x) (by omega) hy
    refine br_f (nI_ge (by omega) (by omega)) (td_xi Z (fun m => td_br1 ?_) (fun m => td_br0 ?_))
    · rw [show 16 * y + (x + 1) = 16 * y + x + 1 from rfl, td_cn_t (vv.mpr m)] at i2
      exact nm_r (nI_1 _) (nm_r (nI_1 x) i2)
    · rw [show 16 * y + (x + 1) = 16 * y + x + 1 from rfl, td_cn_f (fun z => m (vv.mp z))] at i2
      exact nm_r (nI_1 x) i2
theorem td_xv4 {post : Int32 → Prop} {w h : Nat} {A B : Nat → Nat} {T WW HH P : Nat → Int32} (Z : td_Z w h A B WW HH)
    (f : post (nI (td_cn (td_V w h A B T P) 192))) :
    ∀ e y, y + e = h → wX_covered_4 post (nI w) (nI h) T WW HH P (e + 1) (nI (td_cn (td_V w h A B T P) (16 * y))) (nI y) := by
  obtain ⟨w1, w2, h1, h2, _⟩ := td_Zn Z (p := 0) (by omega)
  intro e
  induction e with
  | zero =>
    intro y hy
    have e1 : td_cn (td_V w h A B T P) (16 * y) = td_cn (td_V w h A B T P) 192 :=
      (td_cn_flat _ (by omega) (fun k h1 h2 z => by have := z.2.1; omega)).symm
    rw [e1]
    exact br_t (nI_le (by omega) (by omega)) f
  | succ e ih =>
    intro y hy
    exact br_f (nI_ge (by omega) (by omega)) ⟨w + 1, td_xv14 Z (by omega) (ih (y + 1) (by omega)) w 0 (by omega)⟩
theorem td_xcov {post : Int32 → Prop} {w h : Nat} {A B : Nat → Nat} {T WW HH P : Nat → Int32} (Z : td_Z w h A B WW HH)
    (f : post (nI (td_cn (td_V w h A B T P) 192))) : wpX_covered post (nI w, nI h, T, WW, HH, P) :=
  ⟨h + 1, td_xv4 Z f h 0 (by omega)⟩
theorem td_yv4 {post : Int32 → Prop} {w h : Nat} {A B : Nat → Nat} {T WW HH P : Nat → Int32} (Z : td_Z w h A B WW HH)
    (f : post (nI (td_cn (td_V w h A B T P) 192))) :
    ∀ e k, k + e = 192 → wY_covered_4 post (nI w) (nI h) T P WW HH (e + 1) (nI (td_cn (td_V w h A B T P) k)) (nI k) := by
  obtain ⟨w1, w2, h1, h2, _⟩ := td_Zn Z (p := 0) (by omega)
  intro e
  induction e with
  | zero =>
    intro k hk
    obtain rfl : k = 192 := by omega
    exact br_t (nI_le (a := 192) (by omega) (by omega)) f
  | succ e ih =>
    intro k hk
    have i2 := ih (k + 1) (by omega)
    have yes : td_V w h A B T P k → ∀ x1 : Int32, x1 = nI (td_cn (td_V w h A B T P) k) + 1 → ∀ x2 : Int32, x2 = nI k + 1 → wY_covered_4 post (nI w) (nI h) T P WW HH (e + 1) x1 x2 := by
      intro m
      rw [td_cn_t m] at i2
      exact nm_r (nI_1 _) (nm_r (nI_1 k) i2)
    have no : ¬ td_V w h A B T P k → ∀ x2 : Int32, x2 = nI k + 1 → wY_covered_4 post (nI w) (nI h) T P WW HH (e + 1) (nI (td_cn (td_V w h A B T P) k)) x2 := by
      intro m
      rw [td_cn_f m] at i2
      exact nm_r (nI_1 k) i2
    have inn := td_In_n (c := k % 16) (d := k / 16) w2 h2 (by omega) (by omega)
    refine br_f (nI_ge (b := 192) (by omega) (by omega)) ⟨by decide, nm_r (td_r16 (by omega)) ⟨by decide, nm_r (td_d16 (by omega)) ?_⟩⟩
    refine td_yin w2 h2 (fun q => td_br1 ?_) (fun q => td_br0 (no (fun z => q (inn.mpr ⟨z.1, z.2.1⟩))))
    have q2 := inn.mp q
    refine td_yc (p := 0) Z (by omega) (fun m0 => td_br1 (yes ⟨q2.1, q2.2, 0, by omega, m0⟩)) (fun m0 => td_br0 ?_)
    refine td_yc (p := 1) Z (by omega) (fun m1 => td_br1 (yes ⟨q2.1, q2.2, 1, by omega, m1⟩)) (fun m1 => td_br0 ?_)
    refine td_yc (p := 2) Z (by omega) (fun m2 => td_br1 (yes ⟨q2.1, q2.2, 2, by omega, m2⟩)) (fun m2 => td_br0 (no ?_))
    intro ⟨_, _, p, hp, m⟩
    match p, hp, m with
    | 0, _, m => exact m0 m
    | 1, _, m => exact m1 m
    | 2, _, m => exact m2 m
theorem td_ycov {post : Int32 → Prop} {w h : Nat} {A B : Nat → Nat} {T WW HH P : Nat → Int32} (Z : td_Z w h A B WW HH)
    (f : post (nI (td_cn (td_V w h A B T P) 192))) : wpY_covered post (nI w, nI h, T, P, WW, HH) :=
  ⟨193, td_yv4 Z f 192 0 (by omega)⟩
