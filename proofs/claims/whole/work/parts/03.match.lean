/-! does pattern p occur at a place: both sides against td_M -/
theorem td_xm29 {post : Int32 → Prop} {J : Int32 → Prop} {w h : Nat} {A B : Nat → Nat} {T WW HH P : Nat → Int32} {p c d i : Nat} (Z : td_Z w h A B WW HH) (hp : p < 3) (hc : c + A p ≤ w) (hd : d + B p ≤ h) (hi : i < B p)
    (t : (∀ j, j < A p → T (16 * (d + i) + (c + j)) = P (16 * p + 4 * i + j)) → J (nI (i + 1)))
    (f : (¬ ∀ j, j < A p → T (16 * (d + i) + (c + j)) = P (16 * p + 4 * i + j)) → post 0) :
    ∀ e j, j + e = A p → (∀ j', j' < j → T (16 * (d + i) + (c + j')) = P (16 * p + 4 * i + j')) → wX_matchesAt_29 post J (nI p) (nI c) (nI d) (nI i) (nI w) (nI h) T WW HH P (e + 1) (nI j) := by
  obtain ⟨w1, w2, h1, h2, a1, a2, b1, b2⟩ := td_Zn Z hp
  have hin : vp_in (nI p) 3 := vp_in_nI hp (by omega)
  intro e
  induction e with
  | zero =>
    intro j hj hall
    exact And.intro hin (br_t (td_Wle Z hp (by omega) (by omega)) (nm_r (nI_1 i) (t (fun j' h' => hall j' (by omega)))))
  | succ e ih =>
    intro j hj hall
    refine And.intro hin (br_f (td_Wgt Z hp (by omega)) ?_)
    refine td_xpn (nI_add c j) (nI_add d i) ⟨vp_in_nI (by omega) (by omega), td_xpc ⟨vp_in_nI (by omega) (by omega), ?_⟩⟩
    rw [nI_clamp (by omega), nI_clamp (by omega)]
    by_cases q : T (16 * (d + i) + (c + j)) = P (16 * p + 4 * i + j)
    · refine br_t q (nm_r (nI_1 j) (ih (j + 1) (by omega) (fun j' h' => ?_)))
      by_cases e2 : j' = j
      · rw [e2]; exact q
      · exact hall j' (by omega)
    · exact br_f q (f (fun z => q (z j (by omega))))
theorem td_xm15 {post : Int32 → Prop} {w h : Nat} {A B : Nat → Nat} {T WW HH P : Nat → Int32} {p c d : Nat} (Z : td_Z w h A B WW HH) (hp : p < 3) (hc : c + A p ≤ w) (hd : d + B p ≤ h)
    (t : td_M w h A B T P p c d → post 1) (f : ¬ td_M w h A B T P p c d → post 0) :
    ∀ e i, i + e = B p → (∀ i', i' < i → ∀ j, j < A p → T (16 * (d + i') + (c + j)) = P (16 * p + 4 * i' + j)) → wX_matchesAt_15 post (nI p) (nI c) (nI d) (nI w) (nI h) T WW HH P (e + 1) (nI i) := by
  obtain ⟨w1, w2, h1, h2, a1, a2, b1, b2⟩ := td_Zn Z hp
  have hin : vp_in (nI p) 3 := vp_in_nI hp (by omega)
  intro e
  induction e with
  | zero =>
    intro i hi hall
    exact And.intro hin (br_t (td_Hle Z hp (by omega) (by omega)) (t ⟨hc, hd, fun i' h' => hall i' (by omega)⟩))
  | succ e ih =>
    intro i hi hall
    refine And.intro hin (br_f (td_Hgt Z hp (by omega)) ⟨A p + 1, td_xm29 Z hp hc hd (by omega) (fun q => ?_) (fun q => f (fun m => q (m.2.2 i (by omega)))) (A p) 0 (by omega) (fun j' h' => by omega)⟩)
    refine ih (i + 1) (by omega) (fun i' h' => ?_)
    by_cases e2 : i' = i
    · rw [e2]; exact q
    · exact hall i' (by omega)
theorem td_xm {post : Int32 → Prop} {w h : Nat} {A B : Nat → Nat} {T WW HH P : Nat → Int32} {p : Nat} {x y : Int32} (Z : td_Z w h A B WW HH) (hp : p < 3)
    (t : td_I w h A B T P p x y → post 1) (f : ¬ td_I w h A B T P p x y → post 0) : wpX_matchesAt post (nI w, nI h, T, WW, HH, P) (nI p) x y := by
  obtain ⟨w1, w2, h1, h2, a1, a2, b1, b2⟩ := td_Zn Z hp
  unfold wpX_matchesAt
  dsimp only
  refine td_xf Z hp (fun q => td_br1 ?_) (fun q => td_br0 (f (fun z => q (td_I_F z))))
  obtain ⟨c, d, rfl, rfl, hc, hd⟩ := q
  have ee := td_I_n (A := A) (B := B) (T := T) (P := P) (p := p) (c := c) (d := d) w2 h2 (by omega) (by omega)
  rw [ee] at t f
  exact ⟨B p + 1, td_xm15 Z hp hc hd t f (B p) 0 (by omega) (fun i' h' => by omega)⟩
theorem td_ym29 {post : Int32 → Prop} {J : Int32 → Prop} {w h : Nat} {A B : Nat → Nat} {T WW HH P : Nat → Int32} {p c d i : Nat} (Z : td_Z w h A B WW HH) (hp : p < 3) (hc : c + A p ≤ w) (hd : d + B p ≤ h) (hi : i < B p)
    (t : (∀ j, j < A p → T (16 * (d + i) + (c + j)) = P (16 * p + 4 * i + j)) → J (nI (i + 1)))
    (f : (¬ ∀ j, j < A p → T (16 * (d + i) + (c + j)) = P (16 * p + 4 * i + j)) → post 0) :
    ∀ e j, j + e = A p → (∀ j', j' < j → T (16 * (d + i) + (c + j')) = P (16 * p + 4 * i + j')) → wY_occurs_29 post J (nI p) (nI c) (nI d) (nI i) (nI w) (nI h) T P WW HH (e + 1) (nI j) := by
  obtain ⟨w1, w2, h1, h2, a1, a2, b1, b2⟩ := td_Zn Z hp
  have hin : vp_in (nI p) 3 := vp_in_nI hp (by omega)
  intro e
  induction e with
  | zero =>
    intro j hj hall
    exact And.intro hin (br_t (td_Wle Z hp (by omega) (by omega)) (nm_r (nI_1 i) (t (fun j' h' => hall j' (by omega)))))
  | succ e ih =>
    intro j hj hall
    refine And.intro hin (br_f (td_Wgt Z hp (by omega)) ?_)
    rw [td_e1, td_e2, nI_clamp (by omega), nI_clamp (by omega)]
    refine ⟨vp_in_nI (by omega) (by omega), vp_in_nI (by omega) (by omega), ?_⟩
    by_cases q : T (16 * (d + i) + (c + j)) = P (16 * p + 4 * i + j)
    · refine br_t q (nm_r (nI_1 j) (ih (j + 1) (by omega) (fun j' h' => ?_)))
      by_cases e2 : j' = j
      · rw [e2]; exact q
      · exact hall j' (by omega)
    · exact br_f q (f (fun z => q (z j (by omega))))
theorem td_ym15 {post : Int32 → Prop} {w h : Nat} {A B : Nat → Nat} {T WW HH P : Nat → Int32} {p c d : Nat} (Z : td_Z w h A B WW HH) (hp : p < 3) (hc : c + A p ≤ w) (hd : d + B p ≤ h)
    (t : td_M w h A B T P p c d → post 1) (f : ¬ td_M w h A B T P p c d → post 0) :
    ∀ e i, i + e = B p → (∀ i', i' < i → ∀ j, j < A p → T (16 * (d + i') + (c + j)) = P (16 * p + 4 * i' + j)) → wY_occurs_15 post (nI p) (nI c) (nI d) (nI w) (nI h) T P WW HH (e + 1) (nI i) := by
  obtain ⟨w1, w2, h1, h2, a1, a2, b1, b2⟩ := td_Zn Z hp
  have hin : vp_in (nI p) 3 := vp_in_nI hp (by omega)
  intro e
  induction e with
  | zero =>
    intro i hi hall
    exact And.intro hin (br_t (td_Hle Z hp (by omega) (by omega)) (t ⟨hc, hd, fun i' h' => hall i' (by omega)⟩))
  | succ e ih =>
    intro i hi hall
    refine And.intro hin (br_f (td_Hgt Z hp (by omega)) ⟨A p + 1, td_ym29 Z hp hc hd (by omega) (fun q => ?_) (fun q => f (fun m => q (m.2.2 i (by omega)))) (A p) 0 (by omega) (fun j' h' => by omega)⟩)
    refine ih (i + 1) (by omega) (fun i' h' => ?_)
    by_cases e2 : i' = i
    · rw [e2]; exact q
    · exact hall i' (by omega)
theorem td_ym {post : Int32 → Prop} {w h : Nat} {A B : Nat → Nat} {T WW HH P : Nat → Int32} {p : Nat} {x y : Int32} (Z : td_Z w h A B WW HH) (hp : p < 3)
    (t : td_I w h A B T P p x y → post 1) (f : ¬ td_I w h A B T P p x y → post 0) : wpY_occurs post (nI w, nI h, T, P, WW, HH) (nI p) x y := by
  obtain ⟨w1, w2, h1, h2, a1, a2, b1, b2⟩ := td_Zn Z hp
  unfold wpY_occurs
  dsimp only
  refine td_yf Z hp (fun q => td_br1 ?_) (fun q => td_br0 (f (fun z => q (td_I_F z))))
  obtain ⟨c, d, rfl, rfl, hc, hd⟩ := q
  have ee := td_I_n (A := A) (B := B) (T := T) (P := P) (p := p) (c := c) (d := d) w2 h2 (by omega) (by omega)
  rw [ee] at t f
  exact ⟨B p + 1, td_ym15 Z hp hc hd t f (B p) 0 (by omega) (fun i' h' => by omega)⟩
theorem td_ym0 {post : Int32 → Prop} {s : SY} {v x y : Int32} (n : ¬ td_L v) (f : post 0) : wpY_occurs post s v x y := by
  obtain ⟨s1, s2, s3, s4, s5, s6⟩ := s
  unfold wpY_occurs
  dsimp only
  exact td_yf0 n (td_br0 f)
/-! at the place number k, as the reference asks it -/
theorem td_r16 {k : Nat} (hk : k < 2 ^ 31) : nI k - nI k / 16 * 16 = nI (k % 16) := pk_rem (d := 16) hk (by decide) (by decide)
theorem td_d16 {k : Nat} (hk : k < 2 ^ 31) : nI k / 16 = nI (k / 16) := pk_div (d := 16) hk (by decide) (by decide)
theorem td_yO {post : Int32 → Prop} {w h : Nat} {A B : Nat → Nat} {T WW HH P : Nat → Int32} {p k : Nat} (Z : td_Z w h A B WW HH) (hp : p < 3) (hk : k < 2 ^ 31)
    (t : td_O w h A B T P p k → post 1) (f : ¬ td_O w h A B T P p k → post 0) : wpY_occurs post (nI w, nI h, T, P, WW, HH) (nI p) (nI k - nI k / 16 * 16) (nI k / 16) := by
  obtain ⟨w1, w2, h1, h2, a1, a2, b1, b2⟩ := td_Zn Z hp
  rw [td_r16 hk, td_d16 hk]
  have ee := td_I_n (A := A) (B := B) (T := T) (P := P) (p := p) (c := k % 16) (d := k / 16) w2 h2 (by omega) (by omega)
  exact td_ym Z hp (fun z => t (ee.mp z)) (fun z => f (fun o => z (ee.mpr o)))
theorem td_xO {post : Int32 → Prop} {w h : Nat} {A B : Nat → Nat} {T WW HH P : Nat → Int32} {p x y : Nat} (Z : td_Z w h A B WW HH) (hp : p < 3) (hx : x < 16) (hy : y < 16)
    (t : td_O w h A B T P p (16 * y + x) → post 1) (f : ¬ td_O w h A B T P p (16 * y + x) → post 0) : wpX_matchesAt post (nI w, nI h, T, WW, HH, P) (nI p) (nI x) (nI y) := by
  obtain ⟨w1, w2, h1, h2, a1, a2, b1, b2⟩ := td_Zn Z hp
  have ee := td_I_n (A := A) (B := B) (T := T) (P := P) (p := p) (c := x) (d := y) w2 h2 (by omega) (by omega)
  have oo := td_O_n (w := w) (h := h) (A := A) (B := B) (T := T) (P := P) (p := p) (y := y) hx
  exact td_xm Z hp (fun z => t (oo.mpr (ee.mp z))) (fun z => f (fun o => z (ee.mpr (oo.mp o))))
/-! is a place covered by pattern p -/
theorem td_xc17 {post : Int32 → Prop} {J : Int32 → Prop} {w h : Nat} {A B : Nat → Nat} {T WW HH P : Nat → Int32} {p i : Nat} {x y : Int32} (Z : td_Z w h A B WW HH) (hp : p < 3) (hi : i < B p)
    (t : (∃ j, j < A p ∧ td_I w h A B T P p (x - nI j) (y - nI i)) → post 1)
    (f : (¬ ∃ j, j < A p ∧ td_I w h A B T P p (x - nI j) (y - nI i)) → J (nI (i + 1))) :
    ∀ e j, j + e = A p → (∀ j', j' < j → ¬ td_I w h A B T P p (x - nI j') (y - nI i)) → wX_isCoveredBy_17 post J (nI p) x y (nI i) (nI w) (nI h) T WW HH P (e + 1) (nI j) := by
  obtain ⟨w1, w2, h1, h2, a1, a2, b1, b2⟩ := td_Zn Z hp
  have hin : vp_in (nI p) 3 := vp_in_nI hp (by omega)
  intro e
  induction e with
  | zero =>
    intro j hj hall
    exact And.intro hin (br_t (td_Wle Z hp (by omega) (by omega)) (nm_r (nI_1 i) (f (fun ⟨j', h', m⟩ => hall j' (by omega) m))))
  | succ e ih =>
    intro j hj hall
    refine And.intro hin (br_f (td_Wgt Z hp (by omega)) ?_)
    refine td_xm Z hp (fun m => td_br1 (t ⟨j, by omega, m⟩)) (fun m => td_br0 (nm_r (nI_1 j) (ih (j + 1) (by omega) (fun j' h' => ?_))))
    by_cases e2 : j' = j
    · rw [e2]; exact m
    · exact hall j' (by omega)
theorem td_xc3 {post : Int32 → Prop} {w h : Nat} {A B : Nat → Nat} {T WW HH P : Nat → Int32} {p : Nat} {x y : Int32} (Z : td_Z w h A B WW HH) (hp : p < 3)
    (t : td_C w h A B T P p x y → post 1) (f : ¬ td_C w h A B T P p x y → post 0) :
    ∀ e i, i + e = B p → (∀ i', i' < i → ¬ ∃ j, j < A p ∧ td_I w h A B T P p (x - nI j) (y - nI i')) → wX_isCoveredBy_3 post (nI p) x y (nI w) (nI h) T WW HH P (e + 1) (nI i) := by
  obtain ⟨w1, w2, h1, h2, a1, a2, b1, b2⟩ := td_Zn Z hp
  have hin : vp_in (nI p) 3 := vp_in_nI hp (by omega)
  intro e
  induction e with
  | zero =>
    intro i hi hall
    exact And.intro hin (br_t (td_Hle Z hp (by omega) (by omega)) (f (fun ⟨i', h', m⟩ => hall i' (by omega) m)))
  | succ e ih =>
    intro i hi hall
    refine And.intro hin (br_f (td_Hgt Z hp (by omega)) ⟨A p + 1, td_xc17 Z hp (by omega) (fun q => t ⟨i, by omega, q⟩) (fun q => ?_) (A p) 0 (by omega) (fun j' h' => by omega)⟩)
    refine ih (i + 1) (by omega) (fun i' h' => ?_)
    by_cases e2 : i' = i
    · rw [e2]; exact q
    · exact hall i' (by omega)
theorem td_xc {post : Int32 → Prop} {w h : Nat} {A B : Nat → Nat} {T WW HH P : Nat → Int32} {p : Nat} {x y : Int32} (Z : td_Z w h A B WW HH) (hp : p < 3)
    (t : td_C w h A B T P p x y → post 1) (f : ¬ td_C w h A B T P p x y → post 0) : wpX_isCoveredBy post (nI w, nI h, T, WW, HH, P) (nI p) x y :=
  ⟨B p + 1, td_xc3 Z hp t f (B p) 0 (by omega) (fun i' h' => by omega)⟩
theorem td_yc17 {post : Int32 → Prop} {J : Int32 → Prop} {w h : Nat} {A B : Nat → Nat} {T WW HH P : Nat → Int32} {p i : Nat} {x y : Int32} (Z : td_Z w h A B WW HH) (hp : p < 3) (hi : i < B p)
    (t : (∃ j, j < A p ∧ td_I w h A B T P p (x - nI j) (y - nI i)) → post 1)
    (f : (¬ ∃ j, j < A p ∧ td_I w h A B T P p (x - nI j) (y - nI i)) → J (nI (i + 1))) :
    ∀ e j, j + e = A p → (∀ j', j' < j → ¬ td_I w h A B T P p (x - nI j') (y - nI i)) → wY_coveredBy_17 post J (nI p) x y (nI i) (nI w) (nI h) T P WW HH (e + 1) (nI j) := by
  obtain ⟨w1, w2, h1, h2, a1, a2, b1, b2⟩ := td_Zn Z hp
  have hin : vp_in (nI p) 3 := vp_in_nI hp (by omega)
  intro e
  induction e with
  | zero =>
    intro j hj hall
    exact And.intro hin (br_t (td_Wle Z hp (by omega) (by omega)) (nm_r (nI_1 i) (f (fun ⟨j', h', m⟩ => hall j' (by omega) m))))
  | succ e ih =>
    intro j hj hall
    refine And.intro hin (br_f (td_Wgt Z hp (by omega)) ?_)
    refine td_ym Z hp (fun m => td_br1 (t ⟨j, by omega, m⟩)) (fun m => td_br0 (nm_r (nI_1 j) (ih (j + 1) (by omega) (fun j' h' => ?_))))
    by_cases e2 : j' = j
    · rw [e2]; exact m
    · exact hall j' (by omega)
theorem td_yc3 {post : Int32 → Prop} {w h : Nat} {A B : Nat → Nat} {T WW HH P : Nat → Int32} {p : Nat} {x y : Int32} (Z : td_Z w h A B WW HH) (hp : p < 3)
    (t : td_C w h A B T P p x y → post 1) (f : ¬ td_C w h A B T P p x y → post 0) :
    ∀ e i, i + e = B p → (∀ i', i' < i → ¬ ∃ j, j < A p ∧ td_I w h A B T P p (x - nI j) (y - nI i')) → wY_coveredBy_3 post (nI p) x y (nI w) (nI h) T P WW HH (e + 1) (nI i) := by
  obtain ⟨w1, w2, h1, h2, a1, a2, b1, b2⟩ := td_Zn Z hp
  have hin : vp_in (nI p) 3 := vp_in_nI hp (by omega)
  intro e
  induction e with
  | zero =>
    intro i hi hall
    exact And.intro hin (br_t (td_Hle Z hp (by omega) (by omega)) (f (fun ⟨i', h', m⟩ => hall i' (by omega) m)))
  | succ e ih =>
    intro i hi hall
    refine And.intro hin (br_f (td_Hgt Z hp (by omega)) ⟨A p + 1, td_yc17 Z hp (by omega) (fun q => t ⟨i, by omega, q⟩) (fun q => ?_) (A p) 0 (by omega) (fun j' h' => by omega)⟩)
    refine ih (i + 1) (by omega) (fun i' h' => ?_)
    by_cases e2 : i' = i
    · rw [e2]; exact q
    · exact hall i' (by omega)
theorem td_yc {post : Int32 → Prop} {w h : Nat} {A B : Nat → Nat} {T WW HH P : Nat → Int32} {p : Nat} {x y : Int32} (Z : td_Z w h A B WW HH) (hp : p < 3)
    (t : td_C w h A B T P p x y → post 1) (f : ¬ td_C w h A B T P p x y → post 0) : wpY_coveredBy post (nI w, nI h, T, P, WW, HH) (nI p) x y :=
  ⟨B p + 1, td_yc3 Z hp t f (B p) 0 (by omega) (fun i' h' => by omega)⟩
theorem td_xi2 {post : Int32 → Prop} {w h : Nat} {A B : Nat → Nat} {T WW HH P : Nat → Int32} {x y : Int32} (Z : td_Z w h A B WW HH)
    (t : (∃ p, p < 3 ∧ td_C w h A B T P p x y) → post 1) (f : (¬ ∃ p, p < 3 ∧ td_C w h A B T P p x y) → post 0) :
    ∀ e p, p + e = 3 → (∀ p', p' < p → ¬ td_C w h A B T P p' x y) → wX_isCovered_2 post x y (nI w) (nI h) T WW HH P (e + 1) (nI p) := by
  intro e
  induction e with
  | zero =>
    intro p hp hall
    exact br_t (nI_le (a := 3) (by omega) (by omega)) (f (fun ⟨p', h', m⟩ => hall p' (by omega) m))
  | succ e ih =>
    intro p hp hall
    refine br_f (nI_ge (b := 3) (by omega) (by omega)) ?_
    refine td_xc Z (by omega) (fun m => td_br1 (t ⟨p, by omega, m⟩)) (fun m => td_br0 (nm_r (nI_1 p) (ih (p + 1) (by omega) (fun p' h' => ?_))))
    by_cases e2 : p' = p
    · rw [e2]; exact m
    · exact hall p' (by omega)
theorem td_xi {post : Int32 → Prop} {w h : Nat} {A B : Nat → Nat} {T WW HH P : Nat → Int32} {x y : Int32} (Z : td_Z w h A B WW HH)
    (t : (∃ p, p < 3 ∧ td_C w h A B T P p x y) → post 1) (f : (¬ ∃ p, p < 3 ∧ td_C w h A B T P p x y) → post 0) : wpX_isCovered post (nI w, nI h, T, WW, HH, P) x y :=
  ⟨4, td_xi2 Z t f 3 0 (by omega) (fun p' h' => by omega)⟩
