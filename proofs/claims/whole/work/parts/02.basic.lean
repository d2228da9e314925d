/-! numbers and branches -/
theorem td_br1 {A B : Prop} (b : B) : ((1 : Int32) = 0 → A) ∧ (¬ (1 : Int32) = 0 → B) := br_f (by decide) b
theorem td_br0 {A B : Prop} (a : A) : ((0 : Int32) = 0 → A) ∧ (¬ (0 : Int32) = 0 → B) := br_t rfl a
theorem td_e0 (c d : Nat) : (16 : Int32) * nI d + nI c = nI (16 * d + c) := by
  rw [← nI_add, ← pk_mul]
  rfl
theorem td_e1 (c d i j : Nat) : (16 : Int32) * (nI d + nI i) + nI c + nI j = nI (16 * (d + i) + (c + j)) := by
  rw [nI_add d i, td_e0, nI_add]
  exact congrArg nI (by omega)
theorem td_e2 (p i j : Nat) : (16 : Int32) * nI p + (4 : Int32) * nI i + nI j = nI (16 * p + 4 * i + j) := by
  rw [← nI_add, ← nI_add, ← pk_mul, ← pk_mul]
  rfl
theorem td_e3 (p i j : Nat) : nI p * (16 : Int32) + nI i * (4 : Int32) + nI j = nI (16 * p + 4 * i + j) := by
  rw [← td_e2, Int32.mul_comm (nI p), Int32.mul_comm (nI i)]
theorem td_ZW {w h : Nat} {A B : Nat → Nat} {WW HH : Nat → Int32} {p : Nat} (Z : td_Z w h A B WW HH) (hp : p < 3) : WW (nI p).toNatClampNeg = nI (A p) := by
  rw [nI_clamp (by omega)]
  exact (Z.2.2.2.2 p hp).2.2.2.2.1
theorem td_ZH {w h : Nat} {A B : Nat → Nat} {WW HH : Nat → Int32} {p : Nat} (Z : td_Z w h A B WW HH) (hp : p < 3) : HH (nI p).toNatClampNeg = nI (B p) := by
  rw [nI_clamp (by omega)]
  exact (Z.2.2.2.2 p hp).2.2.2.2.2
theorem td_Zn {w h : Nat} {A B : Nat → Nat} {WW HH : Nat → Int32} {p : Nat} (Z : td_Z w h A B WW HH) (hp : p < 3) : 4 ≤ w ∧ w ≤ 12 ∧ 4 ≤ h ∧ h ≤ 12 ∧ 1 ≤ A p ∧ A p ≤ 4 ∧ 1 ≤ B p ∧ B p ≤ 4 := by
  obtain ⟨a, b, c, d, f⟩ := Z
  obtain ⟨f1, f2, f3, f4, _⟩ := f p hp
  exact ⟨a, b, c, d, f1, f2, f3, f4⟩
theorem td_Wle {w h : Nat} {A B : Nat → Nat} {WW HH : Nat → Int32} {p j : Nat} (Z : td_Z w h A B WW HH) (hp : p < 3) (hj : j < 2 ^ 31) (h1 : A p ≤ j) : WW (nI p).toNatClampNeg ≤ nI j := by
  rw [td_ZW Z hp]
  exact nI_le h1 hj
theorem td_Wgt {w h : Nat} {A B : Nat → Nat} {WW HH : Nat → Int32} {p j : Nat} (Z : td_Z w h A B WW HH) (hp : p < 3) (h1 : j < A p) : ¬ WW (nI p).toNatClampNeg ≤ nI j := by
  have z := td_Zn Z hp
  rw [td_ZW Z hp]
  exact nI_ge h1 (by omega)
theorem td_Hle {w h : Nat} {A B : Nat → Nat} {WW HH : Nat → Int32} {p j : Nat} (Z : td_Z w h A B WW HH) (hp : p < 3) (hj : j < 2 ^ 31) (h1 : B p ≤ j) : HH (nI p).toNatClampNeg ≤ nI j := by
  rw [td_ZH Z hp]
  exact nI_le h1 hj
theorem td_Hgt {w h : Nat} {A B : Nat → Nat} {WW HH : Nat → Int32} {p j : Nat} (Z : td_Z w h A B WW HH) (hp : p < 3) (h1 : j < B p) : ¬ HH (nI p).toNatClampNeg ≤ nI j := by
  have z := td_Zn Z hp
  rw [td_ZH Z hp]
  exact nI_ge h1 (by omega)
/-! the small questions: a number of a pattern, a letter, a place in the text -/
def td_L (v : Int32) : Prop := ∃ p : Nat, p < 3 ∧ v = nI p
def td_In (w h : Nat) (x y : Int32) : Prop := ∃ c d : Nat, c < w ∧ d < h ∧ x = nI c ∧ y = nI d
theorem td_L_neg {v : Int32} (n : v < 0) : ¬ td_L v := by
  intro ⟨p, hp, e⟩
  exact nI_pos (n := p) (by omega) (e ▸ n)
theorem td_L_ge {j : Nat} (hj : j < 2 ^ 31) (g : 3 ≤ j) : ¬ td_L (nI j) := by
  intro ⟨p, hp, e⟩
  rw [nI_eq hj (by omega)] at e
  omega
theorem td_xp {post : Int32 → Prop} {v : Int32} (t : td_L v → post 1) (f : ¬ td_L v → post 0) : wpX_isPattern post v := by
  by_cases n : v < 0
  · exact br_t n (f (td_L_neg n))
  · obtain ⟨j, hj, rfl⟩ := nI_of n
    exact br_f n (pk_le 3 j (fun c => f (td_L_ge hj c)) (fun c => t ⟨j, c, rfl⟩))
theorem td_xl {post : Int32 → Prop} {v : Int32} (t : td_L v → post 1) (f : ¬ td_L v → post 0) : wpX_isLetter post v := by
  by_cases n : v < 0
  · exact br_t n (f (td_L_neg n))
  · obtain ⟨j, hj, rfl⟩ := nI_of n
    exact br_f n (pk_le 3 j (fun c => f (td_L_ge hj c)) (fun c => t ⟨j, c, rfl⟩))
theorem td_yp {post : Int32 → Prop} {v : Int32} {s : SY} (t : td_L v → post 1) (f : ¬ td_L v → post 0) : wpY_isPattern post s v := by
  obtain ⟨s1, s2, s3, s4, s5, s6⟩ := s
  by_cases n : v < 0
  · exact br_t n (f (td_L_neg n))
  · obtain ⟨j, hj, rfl⟩ := nI_of n
    exact br_f n (pk_lt 2 j (fun c => f (td_L_ge hj c)) (fun c => t ⟨j, by omega, rfl⟩))
theorem td_yl {post : Int32 → Prop} {v : Int32} {s : SY} (t : td_L v → post 1) (f : ¬ td_L v → post 0) : wpY_isLetter post s v := by
  obtain ⟨s1, s2, s3, s4, s5, s6⟩ := s
  by_cases n : v < 0
  · exact br_t n (f (td_L_neg n))
  · obtain ⟨j, hj, rfl⟩ := nI_of n
    exact br_f n (pk_lt 2 j (fun c => f (td_L_ge hj c)) (fun c => t ⟨j, by omega, rfl⟩))
theorem td_In_x {w h : Nat} {x y : Int32} (hw : w ≤ 12) (n : x < 0) : ¬ td_In w h x y := by
  intro ⟨c, d, h1, _, e, _⟩
  exact nI_pos (n := c) (by omega) (e ▸ n)
theorem td_In_y {w h : Nat} {x y : Int32} (hh : h ≤ 12) (n : y < 0) : ¬ td_In w h x y := by
  intro ⟨c, d, _, h1, _, e⟩
  exact nI_pos (n := d) (by omega) (e ▸ n)
theorem td_In_n {w h c d : Nat} (hw : w ≤ 12) (hh : h ≤ 12) (hc : c < 2 ^ 31) (hd : d < 2 ^ 31) : td_In w h (nI c) (nI d) ↔ c < w ∧ d < h := by
  constructor
  · intro ⟨c', d', h1, h2, e1, e2⟩
    rw [nI_eq hc (by omega)] at e1
    rw [nI_eq hd (by omega)] at e2
    rw [e1, e2]
    exact ⟨h1, h2⟩
  · exact fun m => ⟨c, d, m.1, m.2, rfl, rfl⟩
theorem td_In_c {w h c : Nat} {y : Int32} (hw : w ≤ 12) (hc : c < 2 ^ 31) (g : w ≤ c) : ¬ td_In w h (nI c) y := by
  intro ⟨c', d', h1, h2, e1, e2⟩
  rw [nI_eq hc (by omega)] at e1
  omega
theorem td_xin {post : Int32 → Prop} {w h : Nat} {T WW HH P : Nat → Int32} {x y : Int32} (hw : w ≤ 12) (hh : h ≤ 12) (t : td_In w h x y → post 1) (f : ¬ td_In w h x y → post 0) : wpX_isInText post (nI w, nI h, T, WW, HH, P) x y := by
  by_cases n : x < 0
  · exact br_t n (f (td_In_x hw n))
  · obtain ⟨c, hc, rfl⟩ := nI_of n
    refine br_f n (pk_le w c (fun g => f (td_In_c hw hc g)) (fun g => ?_))
    by_cases m : y < 0
    · exact br_t m (f (td_In_y hh m))
    · obtain ⟨d, hd, rfl⟩ := nI_of m
      exact br_f m (pk_le h d (fun g2 => f (fun z => by have := ((td_In_n hw hh hc hd).mp z).2; omega)) (fun g2 => t ⟨c, d, g, g2, rfl, rfl⟩))
theorem td_yin {post : Int32 → Prop} {w h : Nat} {T WW HH P : Nat → Int32} {x y : Int32} (hw : w ≤ 12) (hh : h ≤ 12) (t : td_In w h x y → post 1) (f : ¬ td_In w h x y → post 0) : wpY_inText post (nI w, nI h, T, P, WW, HH) x y := by
  by_cases n : x < 0
  · exact br_t n (f (td_In_x hw n))
  · obtain ⟨c, hc, rfl⟩ := nI_of n
    refine br_f n (pk_le w c (fun g => f (td_In_c hw hc g)) (fun g => ?_))
    by_cases m : y < 0
    · exact br_t m (f (td_In_y hh m))
    · obtain ⟨d, hd, rfl⟩ := nI_of m
      exact br_f m (pk_le h d (fun g2 => f (fun z => by have := ((td_In_n hw hh hc hd).mp z).2; omega)) (fun g2 => t ⟨c, d, g, g2, rfl, rfl⟩))
theorem td_xpn {post : Int32 → Prop} {x y : Int32} {c d : Nat} (hx : x = nI c) (hy : y = nI d) (p : post (nI (16 * d + c))) : wpX_placeNumber post x y := by
  subst hx hy
  unfold wpX_placeNumber
  rw [td_e0]
  exact p
theorem td_xpc {post : Int32 → Prop} {p i j : Nat} (h : post (nI (16 * p + 4 * i + j))) : wpX_patternCell post (nI p) (nI j) (nI i) := by
  unfold wpX_patternCell
  rw [td_e3]
  exact h
/-! a pattern fits -/
theorem td_F_big {w h : Nat} {A B : Nat → Nat} {p c : Nat} {y : Int32} (hw : w ≤ 12) (hc : c < 2 ^ 31) (g : w < c + A p) : ¬ td_F w h A B p (nI c) y := by
  intro ⟨c', d', e1, e2, m1, m2⟩
  rw [nI_eq hc (by omega)] at e1
  omega
theorem td_xf {post : Int32 → Prop} {w h : Nat} {A B : Nat → Nat} {T WW HH P : Nat → Int32} {p : Nat} {x y : Int32} (Z : td_Z w h A B WW HH) (hp : p < 3) (t : td_F w h A B p x y → post 1) (f : ¬ td_F w h A B p x y → post 0) : wpX_fits post (nI w, nI h, T, WW, HH, P) (nI p) x y := by
  obtain ⟨w1, w2, h1, h2, a1, a2, b1, b2⟩ := td_Zn Z hp
  have hin : vp_in (nI p) 3 := vp_in_nI hp (by omega)
  have eW : nI w - WW (nI p).toNatClampNeg = nI (w - A p) := by rw [td_ZW Z hp]; exact pk_sub (by omega)
  have eH : nI h - HH (nI p).toNatClampNeg = nI (h - B p) := by rw [td_ZH Z hp]; exact pk_sub (by omega)
  by_cases n : x < 0
  · exact br_t n (f (td_F_x w2 n))
  · obtain ⟨c, hc, rfl⟩ := nI_of n
    refine br_f n ⟨hin, pk_lt (w - A p) c (fun g => f (td_F_big w2 hc (by omega))) (fun g => ?_) eW⟩
    by_cases m : y < 0
    · exact br_t m (f (td_F_y h2 m))
    · obtain ⟨d, hd, rfl⟩ := nI_of m
      exact br_f m ⟨hin, pk_lt (h - B p) d (fun g2 => f (fun z => by have := ((td_F_n w2 h2 hc hd).mp z).2; omega)) (fun g2 => t ⟨c, d, rfl, rfl, by omega, by omega⟩) eH⟩
theorem td_yf {post : Int32 → Prop} {w h : Nat} {A B : Nat → Nat} {T WW HH P : Nat → Int32} {p : Nat} {x y : Int32} (Z : td_Z w h A B WW HH) (hp : p < 3) (t : td_F w h A B p x y → post 1) (f : ¬ td_F w h A B p x y → post 0) : wpY_fits post (nI w, nI h, T, P, WW, HH) (nI p) x y := by
  obtain ⟨w1, w2, h1, h2, a1, a2, b1, b2⟩ := td_Zn Z hp
  have hin : vp_in (nI p) 3 := vp_in_nI hp (by omega)
  have eW : nI w - WW (nI p).toNatClampNeg = nI (w - A p) := by rw [td_ZW Z hp]; exact pk_sub (by omega)
  have eH : nI h - HH (nI p).toNatClampNeg = nI (h - B p) := by rw [td_ZH Z hp]; exact pk_sub (by omega)
  unfold wpY_fits
  dsimp only
  refine td_yp (fun _ => td_br1 ?_) (fun z => absurd ⟨p, hp, rfl⟩ z)
  refine td_yin w2 h2 (fun q => td_br1 ?_) (fun q => td_br0 (f ?_))
  · obtain ⟨c, d, hc, hd, rfl, rfl⟩ := q
    exact ⟨hin, pk_lt (w - A p) c (fun g => f (td_F_big w2 (by omega) (by omega))) (fun g => ⟨hin, pk_lt (h - B p) d (fun g2 => f (fun z => by have := ((td_F_n w2 h2 (by omega) (by omega)).mp z).2; omega)) (fun g2 => t ⟨c, d, rfl, rfl, by omega, by omega⟩) eH⟩) eW⟩
  · intro ⟨c, d, e1, e2, m1, m2⟩
    exact q ⟨c, d, by omega, by omega, e1, e2⟩
theorem td_yf0 {post : Int32 → Prop} {s : SY} {v x y : Int32} (n : ¬ td_L v) (f : post 0) : wpY_fits post s v x y := by
  obtain ⟨s1, s2, s3, s4, s5, s6⟩ := s
  unfold wpY_fits
  dsimp only
  exact td_yp (fun z => absurd z n) (fun _ => td_br0 f)
