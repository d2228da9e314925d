/-! what changes the state: write, shape, paint, copy, stamp; and letter -/
theorem td_xwt {post : Int32 → SX → Prop} {w h : Nat} {T WW HH P : Nat → Int32} {c d : Nat} {v : Int32} (hw : w ≤ 12) (hh : h ≤ 12) (hc : c < w) (hd : d < h) (hv : td_L v)
    (f : post 1 (nI w, nI h, upd T (16 * d + c) v, WW, HH, P)) : wpX_write post (nI w, nI h, T, WW, HH, P) (nI c) (nI d) v := by
  unfold wpX_write
  dsimp only
  refine td_xin hw hh (fun _ => td_br1 ?_) (fun z => absurd ⟨c, d, hc, hd, rfl, rfl⟩ z)
  refine td_xl (fun _ => td_br1 ?_) (fun z => absurd hv z)
  exact td_xpn rfl rfl ⟨vp_in_nI (by omega) (by omega), nm_r (by rw [nI_clamp (by omega)]) f⟩
theorem td_xwf {post : Int32 → SX → Prop} {w h : Nat} {T WW HH P : Nat → Int32} {x y v : Int32} (hw : w ≤ 12) (hh : h ≤ 12) (q : ¬ (td_In w h x y ∧ td_L v))
    (f : post 0 (nI w, nI h, T, WW, HH, P)) : wpX_write post (nI w, nI h, T, WW, HH, P) x y v := by
  unfold wpX_write
  dsimp only
  refine td_xin hw hh (fun q1 => td_br1 ?_) (fun _ => td_br0 f)
  exact td_xl (fun q2 => absurd ⟨q1, q2⟩ q) (fun _ => td_br0 f)
theorem td_ywt {post : Int32 → SY → Prop} {w h : Nat} {T WW HH P : Nat → Int32} {c d : Nat} {v : Int32} (hw : w ≤ 12) (hh : h ≤ 12) (hc : c < w) (hd : d < h) (hv : td_L v)
    (f : post 1 (nI w, nI h, upd T (16 * d + c) v, P, WW, HH)) : wpY_write post (nI w, nI h, T, P, WW, HH) (nI c) (nI d) v := by
  unfold wpY_write
  dsimp only
  refine td_yin hw hh (fun _ => td_br1 ?_) (fun z => absurd ⟨c, d, hc, hd, rfl, rfl⟩ z)
  refine td_yl (fun _ => td_br1 ?_) (fun z => absurd hv z)
  rw [td_e0]
  exact ⟨vp_in_nI (by omega) (by omega), nm_r (by rw [nI_clamp (by omega)]) f⟩
theorem td_ywf {post : Int32 → SY → Prop} {w h : Nat} {T WW HH P : Nat → Int32} {x y v : Int32} (hw : w ≤ 12) (hh : h ≤ 12) (q : ¬ (td_In w h x y ∧ td_L v))
    (f : post 0 (nI w, nI h, T, P, WW, HH)) : wpY_write post (nI w, nI h, T, P, WW, HH) x y v := by
  unfold wpY_write
  dsimp only
  refine td_yin hw hh (fun q1 => td_br1 ?_) (fun _ => td_br0 f)
  exact td_yl (fun q2 => absurd ⟨q1, q2⟩ q) (fun _ => td_br0 f)
/-! letter -/
theorem td_xlt {post : Int32 → Prop} {w h : Nat} {T WW HH P : Nat → Int32} {c d : Nat} (hw : w ≤ 12) (hh : h ≤ 12) (hc : c < w) (hd : d < h)
    (f : post (T (16 * d + c))) : wpX_letter post (nI w, nI h, T, WW, HH, P) (nI c) (nI d) := by
  unfold wpX_letter
  dsimp only
  refine td_xin hw hh (fun _ => td_br1 ?_) (fun z => absurd ⟨c, d, hc, hd, rfl, rfl⟩ z)
  refine td_xpn rfl rfl ⟨vp_in_nI (by omega) (by omega), ?_⟩
  rw [nI_clamp (by omega)]
  exact f
theorem td_xlf {post : Int32 → Prop} {w h : Nat} {T WW HH P : Nat → Int32} {x y : Int32} (hw : w ≤ 12) (hh : h ≤ 12) (q : ¬ td_In w h x y)
    (f : post (-1)) : wpX_letter post (nI w, nI h, T, WW, HH, P) x y := by
  unfold wpX_letter
  dsimp only
  exact td_xin hw hh (fun q1 => absurd q1 q) (fun _ => td_br0 f)
theorem td_ylt {post : Int32 → Prop} {w h : Nat} {T WW HH P : Nat → Int32} {c d : Nat} (hw : w ≤ 12) (hh : h ≤ 12) (hc : c < w) (hd : d < h)
    (f : post (T (16 * d + c))) : wpY_letter post (nI w, nI h, T, P, WW, HH) (nI c) (nI d) := by
  unfold wpY_letter
  dsimp only
  refine td_yin hw hh (fun _ => td_br1 ?_) (fun z => absurd ⟨c, d, hc, hd, rfl, rfl⟩ z)
  rw [td_e0, nI_clamp (by omega)]
  exact ⟨vp_in_nI (by omega) (by omega), f⟩
theorem td_ylf {post : Int32 → Prop} {w h : Nat} {T WW HH P : Nat → Int32} {x y : Int32} (hw : w ≤ 12) (hh : h ≤ 12) (q : ¬ td_In w h x y)
    (f : post (-1)) : wpY_letter post (nI w, nI h, T, P, WW, HH) x y := by
  unfold wpY_letter
  dsimp only
  exact td_yin hw hh (fun q1 => absurd q1 q) (fun _ => td_br0 f)
/-! shape -/
def td_Sd (v : Int32) : Prop := ∃ c : Nat, 1 ≤ c ∧ c ≤ 4 ∧ v = nI c
theorem td_Sd_n {j : Nat} (hj : j < 2 ^ 31) : td_Sd (nI j) ↔ 1 ≤ j ∧ j ≤ 4 := by
  constructor
  · intro ⟨c, h1, h2, e⟩
    rw [nI_eq hj (by omega)] at e
    omega
  · exact fun z => ⟨j, z.1, z.2, rfl⟩
theorem td_Sd_neg {v : Int32} (n : v < 0) : ¬ td_Sd v := by
  intro ⟨p, _, hp, e⟩
  exact nI_pos (n := p) (by omega) (e ▸ n)
theorem td_sda {Q R : Prop} {v : Int32} (t : td_Sd v → R) (f : ¬ td_Sd v → Q) : (v < 1 → Q) ∧ (¬ v < 1 → ((4 < v → Q) ∧ (¬ 4 < v → R))) := by
  by_cases n : v < 0
  · exact br_t (Int32.lt_trans n (by decide)) (f (td_Sd_neg n))
  · obtain ⟨j, hj, rfl⟩ := nI_of n
    exact pk_lt j 1 (fun c => f (fun z => by have := (td_Sd_n hj).mp z; omega)) (fun c => pk_lt 4 j (fun c2 => f (fun z => by have := (td_Sd_n hj).mp z; omega)) (fun c2 => t ((td_Sd_n hj).mpr ⟨c, c2⟩)))
theorem td_sdb {Q R : Prop} {v : Int32} (t : td_Sd v → R) (f : ¬ td_Sd v → Q) : (v < 1 → Q) ∧ (¬ v < 1 → ((v ≤ 4 → R) ∧ (¬ v ≤ 4 → Q))) := by
  by_cases n : v < 0
  · exact br_t (Int32.lt_trans n (by decide)) (f (td_Sd_neg n))
  · obtain ⟨j, hj, rfl⟩ := nI_of n
    exact pk_lt j 1 (fun c => f (fun z => by have := (td_Sd_n hj).mp z; omega)) (fun c => pk_le j 4 (fun c2 => t ((td_Sd_n hj).mpr ⟨c, c2⟩)) (fun c2 => f (fun z => by have := (td_Sd_n hj).mp z; omega)))
theorem td_xsd {post : Int32 → Prop} {v : Int32} (t : td_Sd v → post 1) (f : ¬ td_Sd v → post 0) : wpX_isPatternSide post v := td_sda t f
def td_zr (P : Nat → Int32) (p : Nat) : Nat → Nat → Int32
  | 0 => P
  | n + 1 => upd (td_zr P p n) (16 * p + n) 0
theorem td_e4 (p k : Nat) : nI p * (16 : Int32) + nI k = nI (16 * p + k) := by
  rw [← td_e0, Int32.mul_comm (nI p)]
theorem td_xs40 {post : Int32 → SX → Prop} {a b : Int32} {T WW HH P : Nat → Int32} {p : Nat} (hp : p < 3) (f : post 1 (a, b, T, WW, HH, td_zr P p 16)) :
    ∀ e k, k + e = 16 → wX_shape_40 post (nI p) a b (e + 1) (nI k) T WW HH (td_zr P p k) := by
  intro e
  induction e with
  | zero =>
    intro k hk
    obtain rfl : k = 16 := by omega
    exact br_t (nI_le (a := 16) (by omega) (by omega)) f
  | succ e ih =>
    intro k hk
    refine br_f (nI_ge (b := 16) (by omega) (by omega)) ?_
    rw [td_e4]
    exact ⟨vp_in_nI (by omega) (by omega), nm_r (e' := td_zr P p (k + 1)) (by rw [nI_clamp (by omega)]; rfl) (nm_r (nI_1 k) (ih (k + 1) (by omega)))⟩
theorem td_ys47 {post : Int32 → SY → Prop} {a b : Int32} {T WW HH P : Nat → Int32} {p : Nat} (hp : p < 3) (f : post 1 (a, b, T, td_zr P p 16, WW, HH)) :
    ∀ e k, k + e = 16 → wY_shape_47 post (nI p) a b (e + 1) (nI k) T (td_zr P p k) WW HH := by
  intro e
  induction e with
  | zero =>
    intro k hk
    obtain rfl : k = 16 := by omega
    exact br_t (nI_le (a := 16) (by omega) (by omega)) f
  | succ e ih =>
    intro k hk
    refine br_f (nI_ge (b := 16) (by omega) (by omega)) ?_
    rw [td_e0]
    exact ⟨vp_in_nI (by omega) (by omega), nm_r (e' := td_zr P p (k + 1)) (by rw [nI_clamp (by omega)]; rfl) (nm_r (nI_1 k) (ih (k + 1) (by omega)))⟩
theorem td_xst {post : Int32 → SX → Prop} {a b : Int32} {T WW HH P : Nat → Int32} {p : Nat} {c d : Int32} (hp : p < 3) (hc : td_Sd c) (hd : td_Sd d)
    (f : post 1 (a, b, T, upd WW p c, upd HH p d, td_zr P p 16)) : wpX_shape post (a, b, T, WW, HH, P) (nI p) c d := by
  have hin : vp_in (nI p) 3 := vp_in_nI hp (by omega)
  unfold wpX_shape
  dsimp only
  refine td_xp (fun _ => td_br1 ?_) (fun z => absurd ⟨p, hp, rfl⟩ z)
  refine td_xsd (fun _ => td_br1 ?_) (fun z => absurd hc z)
  refine td_xsd (fun _ => td_br1 ?_) (fun z => absurd hd z)
  exact ⟨hin, nm_r (e' := upd WW p c) (by rw [nI_clamp (by omega)]) ⟨hin, nm_r (e' := upd HH p d) (by rw [nI_clamp (by omega)]) ⟨17, td_xs40 hp f 16 0 (by omega)⟩⟩⟩
theorem td_xsf {post : Int32 → SX → Prop} {s : SX} {v c d : Int32} (q : ¬ (td_L v ∧ td_Sd c ∧ td_Sd d)) (f : post 0 s) : wpX_shape post s v c d := by
  obtain ⟨s1, s2, s3, s4, s5, s6⟩ := s
  unfold wpX_shape
  dsimp only
  refine td_xp (fun q1 => td_br1 ?_) (fun _ => td_br0 f)
  refine td_xsd (fun q2 => td_br1 ?_) (fun _ => td_br0 f)
  exact td_xsd (fun q3 => absurd ⟨q1, q2, q3⟩ q) (fun _ => td_br0 f)
theorem td_yst {post : Int32 → SY → Prop} {a b : Int32} {T WW HH P : Nat → Int32} {p : Nat} {c d : Int32} (hp : p < 3) (hc : td_Sd c) (hd : td_Sd d)
    (f : post 1 (a, b, T, td_zr P p 16, upd WW p c, upd HH p d)) : wpY_shape post (a, b, T, P, WW, HH) (nI p) c d := by
  have hin : vp_in (nI p) 3 := vp_in_nI hp (by omega)
  unfold wpY_shape
  dsimp only
  refine td_yp (fun _ => td_br1 ?_) (fun z => absurd ⟨p, hp, rfl⟩ z)
  refine td_sda (fun _ => ?_) (fun z => absurd hc z)
  refine td_sdb (fun _ => ?_) (fun z => absurd hd z)
  exact ⟨hin, nm_r (e' := upd WW p c) (by rw [nI_clamp (by omega)]) ⟨hin, nm_r (e' := upd HH p d) (by rw [nI_clamp (by omega)]) ⟨17, td_ys47 hp f 16 0 (by omega)⟩⟩⟩
theorem td_ysf {post : Int32 → SY → Prop} {s : SY} {v c d : Int32} (q : ¬ (td_L v ∧ td_Sd c ∧ td_Sd d)) (f : post 0 s) : wpY_shape post s v c d := by
  obtain ⟨s1, s2, s3, s4, s5, s6⟩ := s
  unfold wpY_shape
  dsimp only
  refine td_yp (fun q1 => td_br1 ?_) (fun _ => td_br0 f)
  refine td_sda (fun q2 => ?_) (fun _ => f)
  exact td_sdb (fun q3 => absurd ⟨q1, q2, q3⟩ q) (fun _ => f)
theorem td_Z_u {w h : Nat} {A B : Nat → Nat} {WW HH : Nat → Int32} {p c d : Nat} (Z : td_Z w h A B WW HH) (c1 : 1 ≤ c) (c4 : c ≤ 4) (d1 : 1 ≤ d) (d4 : d ≤ 4) : td_Z w h (fun q => if q = p then c else A q) (fun q => if q = p then d else B q) (upd WW p (nI c)) (upd HH p (nI d)) := by
  obtain ⟨w1, w2, h1, h2, f⟩ := Z
  refine ⟨w1, w2, h1, h2, fun q hq => ?_⟩
  dsimp only
  by_cases e : q = p
  · subst e
    rw [if_pos rfl, if_pos rfl, pk_us, pk_us]
    exact ⟨c1, c4, d1, d4, rfl, rfl⟩
  · rw [if_neg e, if_neg e, pk_un e, pk_un e]
    exact f q hq
/-! paint -/
theorem td_xip {post : Int32 → Prop} {w h : Nat} {A B : Nat → Nat} {T WW HH P : Nat → Int32} {p : Nat} {x y : Int32} (Z : td_Z w h A B WW HH) (hp : p < 3)
    (t : td_In (A p) (B p) x y → post 1) (f : ¬ td_In (A p) (B p) x y → post 0) : wpX_isInPattern post (nI w, nI h, T, WW, HH, P) (nI p) x y := by
  obtain ⟨w1, w2, h1, h2, a1, a2, b1, b2⟩ := td_Zn Z hp
  have hin : vp_in (nI p) 3 := vp_in_nI hp (by omega)
  by_cases n : x < 0
  · exact br_t n (f (td_In_x (by omega) n))
  · obtain ⟨c, hc, rfl⟩ := nI_of n
    refine br_f n ⟨hin, pk_le (A p) c (fun g => f (td_In_c (by omega) hc g)) (fun g => ?_) (td_ZW Z hp)⟩
    by_cases m : y < 0
    · exact br_t m (f (td_In_y (by omega) m))
    · obtain ⟨d, hd, rfl⟩ := nI_of m
      exact br_f m ⟨hin, pk_le (B p) d (fun g2 => f (fun z => by have := ((td_In_n (by omega) (by omega) hc hd).mp z).2; omega)) (fun g2 => t ⟨c, d, g, g2, rfl, rfl⟩) (td_ZH Z hp)⟩
theorem td_yip {Q R : Prop} {w h : Nat} {A B : Nat → Nat} {WW HH : Nat → Int32} {p : Nat} {x y : Int32} (Z : td_Z w h A B WW HH) (hp : p < 3)
    (t : td_In (A p) (B p) x y → R) (f : ¬ td_In (A p) (B p) x y → Q) :
    (x < 0 → Q) ∧ (¬ x < 0 → ((y < 0 → Q) ∧ (¬ y < 0 → (vp_in (nI p) 3 ∧ ((WW (nI p).toNatClampNeg ≤ x → Q) ∧ (¬ WW (nI p).toNatClampNeg ≤ x → (vp_in (nI p) 3 ∧ ((HH (nI p).toNatClampNeg ≤ y → Q) ∧ (¬ HH (nI p).toNatClampNeg ≤ y → R))))))))) := by
  obtain ⟨w1, w2, h1, h2, a1, a2, b1, b2⟩ := td_Zn Z hp
  have hin : vp_in (nI p) 3 := vp_in_nI hp (by omega)
  by_cases n : x < 0
  · exact br_t n (f (td_In_x (by omega) n))
  · obtain ⟨c, hc, rfl⟩ := nI_of n
    refine br_f n ?_
    by_cases m : y < 0
    · exact br_t m (f (td_In_y (by omega) m))
    · obtain ⟨d, hd, rfl⟩ := nI_of m
      refine br_f m ⟨hin, pk_le (A p) c (fun g => f (td_In_c (by omega) hc g)) (fun g => ?_) (td_ZW Z hp)⟩
      exact ⟨hin, pk_le (B p) d (fun g2 => f (fun z => by have := ((td_In_n (by omega) (by omega) hc hd).mp z).2; omega)) (fun g2 => t ⟨c, d, g, g2, rfl, rfl⟩) (td_ZH Z hp)⟩
theorem td_xpt {post : Int32 → SX → Prop} {w h : Nat} {A B : Nat → Nat} {T WW HH P : Nat → Int32} {p c d : Nat} {v : Int32} (Z : td_Z w h A B WW HH) (hp : p < 3) (hc : c < A p) (hd : d < B p) (hv : td_L v)
    (f : post 1 (nI w, nI h, T, WW, HH, upd P (16 * p + 4 * d + c) v)) : wpX_paint post (nI w, nI h, T, WW, HH, P) (nI p) (nI c) (nI d) v := by
  obtain ⟨w1, w2, h1, h2, a1, a2, b1, b2⟩ := td_Zn Z hp
  unfold wpX_paint
  dsimp only
  refine td_xp (fun _ => td_br1 ?_) (fun z => absurd ⟨p, hp, rfl⟩ z)
  refine td_xip Z hp (fun _ => td_br1 ?_) (fun z => absurd ⟨c, d, hc, hd, rfl, rfl⟩ z)
  refine td_xl (fun _ => td_br1 ?_) (fun z => absurd hv z)
  exact td_xpc ⟨vp_in_nI (by omega) (by omega), nm_r (by rw [nI_clamp (by omega)]) f⟩
theorem td_xpf {post : Int32 → SX → Prop} {w h : Nat} {A B : Nat → Nat} {T WW HH P : Nat → Int32} {p : Nat} {x y v : Int32} (Z : td_Z w h A B WW HH) (hp : p < 3) (q : ¬ (td_In (A p) (B p) x y ∧ td_L v))
    (f : post 0 (nI w, nI h, T, WW, HH, P)) : wpX_paint post (nI w, nI h, T, WW, HH, P) (nI p) x y v := by
  unfold wpX_paint
  dsimp only
  refine td_xp (fun _ => td_br1 ?_) (fun z => absurd ⟨p, hp, rfl⟩ z)
  refine td_xip Z hp (fun q1 => td_br1 ?_) (fun _ => td_br0 f)
  exact td_xl (fun q2 => absurd ⟨q1, q2⟩ q) (fun _ => td_br0 f)
theorem td_xp0 {post : Int32 → SX → Prop} {s : SX} {u x y v : Int32} (n : ¬ td_L u) (f : post 0 s) : wpX_paint post s u x y v := by
  obtain ⟨s1, s2, s3, s4, s5, s6⟩ := s
  unfold wpX_paint
  dsimp only
  exact td_xp (fun z => absurd z n) (fun _ => td_br0 f)
theorem td_ypt {post : Int32 → SY → Prop} {w h : Nat} {A B : Nat → Nat} {T WW HH P : Nat → Int32} {p c d : Nat} {v : Int32} (Z : td_Z w h A B WW HH) (hp : p < 3) (hc : c < A p) (hd : d < B p) (hv : td_L v)
    (f : post 1 (nI w, nI h, T, upd P (16 * p + 4 * d + c) v, WW, HH)) : wpY_paint post (nI w, nI h, T, P, WW, HH) (nI p) (nI c) (nI d) v := by
  obtain ⟨w1, w2, h1, h2, a1, a2, b1, b2⟩ := td_Zn Z hp
  unfold wpY_paint
  dsimp only
  refine td_yp (fun _ => td_br1 ?_) (fun z => absurd ⟨p, hp, rfl⟩ z)
  refine td_yip Z hp (fun _ => ?_) (fun z => absurd ⟨c, d, hc, hd, rfl, rfl⟩ z)
  refine td_yl (fun _ => td_br1 ?_) (fun z => absurd hv z)
  rw [td_e2]
  exact ⟨vp_in_nI (by omega) (by omega), nm_r (by rw [nI_clamp (by omega)]) f⟩
theorem td_ypf {post : Int32 → SY → Prop} {w h : Nat} {A B : Nat → Nat} {T WW HH P : Nat → Int32} {p : Nat} {x y v : Int32} (Z : td_Z w h A B WW HH) (hp : p < 3) (q : ¬ (td_In (A p) (B p) x y ∧ td_L v))
    (f : post 0 (nI w, nI h, T, P, WW, HH)) : wpY_paint post (nI w, nI h, T, P, WW, HH) (nI p) x y v := by
  unfold wpY_paint
  dsimp only
  refine td_yp (fun _ => td_br1 ?_) (fun z => absurd ⟨p, hp, rfl⟩ z)
  refine td_yip Z hp (fun q1 => ?_) (fun _ => f)
  exact td_yl (fun q2 => absurd ⟨q1, q2⟩ q) (fun _ => td_br0 f)
theorem td_yp0 {post : Int32 → SY → Prop} {s : SY} {u x y v : Int32} (n : ¬ td_L u) (f : post 0 s) : wpY_paint post s u x y v := by
  obtain ⟨s1, s2, s3, s4, s5, s6⟩ := s
  unfold wpY_paint
  dsimp only
  exact td_yp (fun z => absurd z n) (fun _ => td_br0 f)
