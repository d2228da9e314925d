/-! copy and stamp: row by row, cell by cell; both sides write the same cells in the same order -/
def td_cj (T : Nat → Int32) (p c d i : Nat) (P : Nat → Int32) : Nat → Nat → Int32
  | 0 => P
  | j + 1 => upd (td_cj T p c d i P j) (16 * p + 4 * i + j) (T (16 * (d + i) + (c + j)))
def td_ci (T : Nat → Int32) (p c d a : Nat) (P : Nat → Int32) : Nat → Nat → Int32
  | 0 => P
  | i + 1 => td_cj T p c d i (td_ci T p c d a P i) a
def td_sj (P : Nat → Int32) (p c d i : Nat) (T : Nat → Int32) : Nat → Nat → Int32
  | 0 => T
  | j + 1 => upd (td_sj P p c d i T j) (16 * (d + i) + (c + j)) (P (16 * p + 4 * i + j))
def td_si (P : Nat → Int32) (p c d a : Nat) (T : Nat → Int32) : Nat → Nat → Int32
  | 0 => T
  | i + 1 => td_sj P p c d i (td_si P p c d a T i) a
theorem td_xc36 {post : Int32 → SX → Prop} {J : Int32 → (Nat → Int32) → (Nat → Int32) → (Nat → Int32) → (Nat → Int32) → Prop} {w h : Nat} {A B : Nat → Nat} {T WW HH P : Nat → Int32} {p c d i : Nat} (Z : td_Z w h A B WW HH) (hp : p < 3) (hc : c + A p ≤ w) (hd : d + B p ≤ h) (hi : i < B p)
    (f : J (nI (i + 1)) T WW HH (td_cj T p c d i P (A p))) :
    ∀ e j, j + e = A p → wX_copy_36 post J (nI p) (nI c) (nI d) (nI i) (nI w) (nI h) (e + 1) (nI j) T WW HH (td_cj T p c d i P j) := by
  obtain ⟨w1, w2, h1, h2, a1, a2, b1, b2⟩ := td_Zn Z hp
  have hin : vp_in (nI p) 3 := vp_in_nI hp (by omega)
  intro e
  induction e with
  | zero =>
    intro j hj
    obtain rfl : j = A p := by omega
    exact And.intro hin (br_t (td_Wle Z hp (by omega) (by omega)) (nm_r (nI_1 i) f))
  | succ e ih =>
    intro j hj
    refine And.intro hin (br_f (td_Wgt Z hp (by omega)) ?_)
    refine td_xpc (td_xpn (nI_add c j) (nI_add d i) ⟨vp_in_nI (by omega) (by omega), vp_in_nI (by omega) (by omega), ?_⟩)
    exact nm_r (e' := td_cj T p c d i P (j + 1)) (by rw [nI_clamp (by omega), nI_clamp (by omega)]; rfl) (nm_r (nI_1 j) (ih (j + 1) (by omega)))
theorem td_xc22 {post : Int32 → SX → Prop} {w h : Nat} {A B : Nat → Nat} {T WW HH P : Nat → Int32} {p c d : Nat} (Z : td_Z w h A B WW HH) (hp : p < 3) (hc : c + A p ≤ w) (hd : d + B p ≤ h)
    (f : post 1 (nI w, nI h, T, WW, HH, td_ci T p c d (A p) P (B p))) :
    ∀ e i, i + e = B p → wX_copy_22 post (nI p) (nI c) (nI d) (nI w) (nI h) (e + 1) (nI i) T WW HH (td_ci T p c d (A p) P i) := by
  obtain ⟨w1, w2, h1, h2, a1, a2, b1, b2⟩ := td_Zn Z hp
  have hin : vp_in (nI p) 3 := vp_in_nI hp (by omega)
  intro e
  induction e with
  | zero =>
    intro i hi
    obtain rfl : i = B p := by omega
    exact And.intro hin (br_t (td_Hle Z hp (by omega) (by omega)) f)
  | succ e ih =>
    intro i hi
    exact And.intro hin (br_f (td_Hgt Z hp (by omega)) ⟨A p + 1, td_xc36 Z hp hc hd (by omega) (ih (i + 1) (by omega)) (A p) 0 (by omega)⟩)
theorem td_xcpt {post : Int32 → SX → Prop} {w h : Nat} {A B : Nat → Nat} {T WW HH P : Nat → Int32} {p c d : Nat} (Z : td_Z w h A B WW HH) (hp : p < 3) (hc : c + A p ≤ w) (hd : d + B p ≤ h)
    (f : post 1 (nI w, nI h, T, WW, HH, td_ci T p c d (A p) P (B p))) : wpX_copy post (nI w, nI h, T, WW, HH, P) (nI p) (nI c) (nI d) := by
  unfold wpX_copy
  dsimp only
  refine td_xp (fun _ => td_br1 ?_) (fun z => absurd ⟨p, hp, rfl⟩ z)
  exact td_xf Z hp (fun _ => td_br1 ⟨B p + 1, td_xc22 Z hp hc hd f (B p) 0 (by omega)⟩) (fun z => absurd ⟨c, d, rfl, rfl, hc, hd⟩ z)
theorem td_xcpf {post : Int32 → SX → Prop} {w h : Nat} {A B : Nat → Nat} {T WW HH P : Nat → Int32} {p : Nat} {x y : Int32} (Z : td_Z w h A B WW HH) (hp : p < 3) (q : ¬ td_F w h A B p x y)
    (f : post 0 (nI w, nI h, T, WW, HH, P)) : wpX_copy post (nI w, nI h, T, WW, HH, P) (nI p) x y := by
  unfold wpX_copy
  dsimp only
  refine td_xp (fun _ => td_br1 ?_) (fun z => absurd ⟨p, hp, rfl⟩ z)
  exact td_xf Z hp (fun z => absurd z q) (fun _ => td_br0 f)
theorem td_xcp0 {post : Int32 → SX → Prop} {s : SX} {v x y : Int32} (n : ¬ td_L v) (f : post 0 s) : wpX_copy post s v x y := by
  obtain ⟨s1, s2, s3, s4, s5, s6⟩ := s
  unfold wpX_copy
  dsimp only
  exact td_xp (fun z => absurd z n) (fun _ => td_br0 f)
theorem td_yc29 {post : Int32 → SY → Prop} {J : Int32 → (Nat → Int32) → (Nat → Int32) → (Nat → Int32) → (Nat → Int32) → Prop} {w h : Nat} {A B : Nat → Nat} {T WW HH P : Nat → Int32} {p c d i : Nat} (Z : td_Z w h A B WW HH) (hp : p < 3) (hc : c + A p ≤ w) (hd : d + B p ≤ h) (hi : i < B p)
    (f : J (nI (i + 1)) T (td_cj T p c d i P (A p)) WW HH) :
    ∀ e j, j + e = A p → wY_copy_29 post J (nI p) (nI c) (nI d) (nI i) (nI w) (nI h) (e + 1) (nI j) T (td_cj T p c d i P j) WW HH := by
  obtain ⟨w1, w2, h1, h2, a1, a2, b1, b2⟩ := td_Zn Z hp
  have hin : vp_in (nI p) 3 := vp_in_nI hp (by omega)
  intro e
  induction e with
  | zero =>
    intro j hj
    obtain rfl : j = A p := by omega
    exact And.intro hin (br_t (td_Wle Z hp (by omega) (by omega)) (nm_r (nI_1 i) f))
  | succ e ih =>
    intro j hj
    refine And.intro hin (br_f (td_Wgt Z hp (by omega)) ?_)
    rw [td_e1, td_e2]
    refine ⟨vp_in_nI (by omega) (by omega), vp_in_nI (by omega) (by omega), ?_⟩
    exact nm_r (e' := td_cj T p c d i P (j + 1)) (by rw [nI_clamp (by omega), nI_clamp (by omega)]; rfl) (nm_r (nI_1 j) (ih (j + 1) (by omega)))
theorem td_yc15 {post : Int32 → SY → Prop} {w h : Nat} {A B : Nat → Nat} {T WW HH P : Nat → Int32} {p c d : Nat} (Z : td_Z w h A B WW HH) (hp : p < 3) (hc : c + A p ≤ w) (hd : d + B p ≤ h)
    (f : post 1 (nI w, nI h, T, td_ci T p c d (A p) P (B p), WW, HH)) :
    ∀ e i, i + e = B p → wY_copy_15 post (nI p) (nI c) (nI d) (nI w) (nI h) (e + 1) (nI i) T (td_ci T p c d (A p) P i) WW HH := by
  obtain ⟨w1, w2, h1, h2, a1, a2, b1, b2⟩ := td_Zn Z hp
  have hin : vp_in (nI p) 3 := vp_in_nI hp (by omega)
  intro e
  induction e with
  | zero =>
    intro i hi
    obtain rfl : i = B p := by omega
    exact And.intro hin (br_t (td_Hle Z hp (by omega) (by omega)) f)
  | succ e ih =>
    intro i hi
    exact And.intro hin (br_f (td_Hgt Z hp (by omega)) ⟨A p + 1, td_yc29 Z hp hc hd (by omega) (ih (i + 1) (by omega)) (A p) 0 (by omega)⟩)
theorem td_ycpt {post : Int32 → SY → Prop} {w h : Nat} {A B : Nat → Nat} {T WW HH P : Nat → Int32} {p c d : Nat} (Z : td_Z w h A B WW HH) (hp : p < 3) (hc : c + A p ≤ w) (hd : d + B p ≤ h)
    (f : post 1 (nI w, nI h, T, td_ci T p c d (A p) P (B p), WW, HH)) : wpY_copy post (nI w, nI h, T, P, WW, HH) (nI p) (nI c) (nI d) := by
  unfold wpY_copy
  dsimp only
  exact td_yf Z hp (fun _ => td_br1 ⟨B p + 1, td_yc15 Z hp hc hd f (B p) 0 (by omega)⟩) (fun z => absurd ⟨c, d, rfl, rfl, hc, hd⟩ z)
theorem td_ycpf {post : Int32 → SY → Prop} {w h : Nat} {A B : Nat → Nat} {T WW HH P : Nat → Int32} {p : Nat} {x y : Int32} (Z : td_Z w h A B WW HH) (hp : p < 3) (q : ¬ td_F w h A B p x y)
    (f : post 0 (nI w, nI h, T, P, WW, HH)) : wpY_copy post (nI w, nI h, T, P, WW, HH) (nI p) x y := by
  unfold wpY_copy
  dsimp only
  exact td_yf Z hp (fun z => absurd z q) (fun _ => td_br0 f)
theorem td_ycp0 {post : Int32 → SY → Prop} {s : SY} {v x y : Int32} (n : ¬ td_L v) (f : post 0 s) : wpY_copy post s v x y := by
  obtain ⟨s1, s2, s3, s4, s5, s6⟩ := s
  unfold wpY_copy
  dsimp only
  exact td_yf0 n (td_br0 f)
theorem td_xt36 {post : Int32 → SX → Prop} {J : Int32 → (Nat → Int32) → (Nat → Int32) → (Nat → Int32) → (Nat → Int32) → Prop} {w h : Nat} {A B : Nat → Nat} {T WW HH P : Nat → Int32} {p c d i : Nat} (Z : td_Z w h A B WW HH) (hp : p < 3) (hc : c + A p ≤ w) (hd : d + B p ≤ h) (hi : i < B p)
    (f : J (nI (i + 1)) (td_sj P p c d i T (A p)) WW HH P) :
    ∀ e j, j + e = A p → wX_stamp_36 post J (nI p) (nI c) (nI d) (nI i) (nI w) (nI h) (e + 1) (nI j) (td_sj P p c d i T j) WW HH P := by
  obtain ⟨w1, w2, h1, h2, a1, a2, b1, b2⟩ := td_Zn Z hp
  have hin : vp_in (nI p) 3 := vp_in_nI hp (by omega)
  intro e
  induction e with
  | zero =>
    intro j hj
    obtain rfl : j = A p := by omega
    exact And.intro hin (br_t (td_Wle Z hp (by omega) (by omega)) (nm_r (nI_1 i) f))
  | succ e ih =>
    intro j hj
    refine And.intro hin (br_f (td_Wgt Z hp (by omega)) ?_)
    refine td_xpn (nI_add c j) (nI_add d i) (td_xpc ⟨vp_in_nI (by omega) (by omega), vp_in_nI (by omega) (by omega), ?_⟩)
    exact nm_r (e' := td_sj P p c d i T (j + 1)) (by rw [nI_clamp (by omega), nI_clamp (by omega)]; rfl) (nm_r (nI_1 j) (ih (j + 1) (by omega)))
theorem td_xt22 {post : Int32 → SX → Prop} {w h : Nat} {A B : Nat → Nat} {T WW HH P : Nat → Int32} {p c d : Nat} (Z : td_Z w h A B WW HH) (hp : p < 3) (hc : c + A p ≤ w) (hd : d + B p ≤ h)
    (f : post 1 (nI w, nI h, td_si P p c d (A p) T (B p), WW, HH, P)) :
    ∀ e i, i + e = B p → wX_stamp_22 post (nI p) (nI c) (nI d) (nI w) (nI h) (e + 1) (nI i) (td_si P p c d (A p) T i) WW HH P := by
  obtain ⟨w1, w2, h1, h2, a1, a2, b1, b2⟩ := td_Zn Z hp
  have hin : vp_in (nI p) 3 := vp_in_nI hp (by omega)
  intro e
  induction e with
  | zero =>
    intro i hi
    obtain rfl : i = B p := by omega
    exact And.intro hin (br_t (td_Hle Z hp (by omega) (by omega)) f)
  | succ e ih =>
    intro i hi
    exact And.intro hin (br_f (td_Hgt Z hp (by omega)) ⟨A p + 1, td_xt36 Z hp hc hd (by omega) (ih (i + 1) (by omega)) (A p) 0 (by omega)⟩)
theorem td_xstt {post : Int32 → SX → Prop} {w h : Nat} {A B : Nat → Nat} {T WW HH P : Nat → Int32} {p c d : Nat} (Z : td_Z w h A B WW HH) (hp : p < 3) (hc : c + A p ≤ w) (hd : d + B p ≤ h)
    (f : post 1 (nI w, nI h, td_si P p c d (A p) T (B p), WW, HH, P)) : wpX_stamp post (nI w, nI h, T, WW, HH, P) (nI p) (nI c) (nI d) := by
  unfold wpX_stamp
  dsimp only
  refine td_xp (fun _ => td_br1 ?_) (fun z => absurd ⟨p, hp, rfl⟩ z)
  exact td_xf Z hp (fun _ => td_br1 ⟨B p + 1, td_xt22 Z hp hc hd f (B p) 0 (by omega)⟩) (fun z => absurd ⟨c, d, rfl, rfl, hc, hd⟩ z)
theorem td_xstf {post : Int32 → SX → Prop} {w h : Nat} {A B : Nat → Nat} {T WW HH P : Nat → Int32} {p : Nat} {x y : Int32} (Z : td_Z w h A B WW HH) (hp : p < 3) (q : ¬ td_F w h A B p x y)
    (f : post 0 (nI w, nI h, T, WW, HH, P)) : wpX_stamp post (nI w, nI h, T, WW, HH, P) (nI p) x y := by
  unfold wpX_stamp
  dsimp only
  refine td_xp (fun _ => td_br1 ?_) (fun z => absurd ⟨p, hp, rfl⟩ z)
  exact td_xf Z hp (fun z => absurd z q) (fun _ => td_br0 f)
theorem td_xst0 {post : Int32 → SX → Prop} {s : SX} {v x y : Int32} (n : ¬ td_L v) (f : post 0 s) : wpX_stamp post s v x y := by
  obtain ⟨s1, s2, s3, s4, s5, s6⟩ := s
  unfold wpX_stamp
  dsimp only
  exact td_xp (fun z => absurd z n) (fun _ => td_br0 f)
theorem td_yt29 {post : Int32 → SY → Prop} {J : Int32 → (Nat → Int32) → (Nat → Int32) → (Nat → Int32) → (Nat → Int32) → Prop} {w h : Nat} {A B : Nat → Nat} {T WW HH P : Nat → Int32} {p c d i : Nat} (Z : td_Z w h A B WW HH) (hp : p < 3) (hc : c + A p ≤ w) (hd : d + B p ≤ h) (hi : i < B p)
    (f : J (nI (i + 1)) (td_sj P p c d i T (A p)) P WW HH) :
    ∀ e j, j + e = A p → wY_stamp_29 post J (nI p) (nI c) (nI d) (nI i) (nI w) (nI h) (e + 1) (nI j) (td_sj P p c d i T j) P WW HH := by
  obtain ⟨w1, w2, h1, h2, a1, a2, b1, b2⟩ := td_Zn Z hp
  have hin : vp_in (nI p) 3 := vp_in_nI hp (by omega)
  intro e
  induction e with
  | zero =>
    intro j hj
    obtain rfl : j = A p := by omega
    exact And.intro hin (br_t (td_Wle Z hp (by omega) (by omega)) (nm_r (nI_1 i) f))
  | succ e ih =>
    intro j hj
    refine And.intro hin (br_f (td_Wgt Z hp (by omega)) ?_)
    rw [td_e1, td_e2]
    refine ⟨vp_in_nI (by omega) (by omega), vp_in_nI (by omega) (by omega), ?_⟩
    exact nm_r (e' := td_sj P p c d i T (j + 1)) (by rw [nI_clamp (by omega), nI_clamp (by omega)]; rfl) (nm_r (nI_1 j) (ih (j + 1) (by omega)))
theorem td_yt15 {post : Int32 → SY → Prop} {w h : Nat} {A B : Nat → Nat} {T WW HH P : Nat → Int32} {p c d : Nat} (Z : td_Z w h A B WW HH) (hp : p < 3) (hc : c + A p ≤ w) (hd : d + B p ≤ h)
    (f : post 1 (nI w, nI h, td_si P p c d (A p) T (B p), P, WW, HH)) :
    ∀ e i, i + e = B p → wY_stamp_15 post (nI p) (nI c) (nI d) (nI w) (nI h) (e + 1) (nI i) (td_si P p c d (A p) T i) P WW HH := by
  obtain ⟨w1, w2, h1, h2, a1, a2, b1, b2⟩ := td_Zn Z hp
  have hin : vp_in (nI p) 3 := vp_in_nI hp (by omega)
  intro e
  induction e with
  | zero =>
    intro i hi
    obtain rfl : i = B p := by omega
    exact And.intro hin (br_t (td_Hle Z hp (by omega) (by omega)) f)
  | succ e ih =>
    intro i hi
    exact And.intro hin (br_f (td_Hgt Z hp (by omega)) ⟨A p + 1, td_yt29 Z hp hc hd (by omega) (ih (i + 1) (by omega)) (A p) 0 (by omega)⟩)
theorem td_ystt {post : Int32 → SY → Prop} {w h : Nat} {A B : Nat → Nat} {T WW HH P : Nat → Int32} {p c d : Nat} (Z : td_Z w h A B WW HH) (hp : p < 3) (hc : c + A p ≤ w) (hd : d + B p ≤ h)
    (f : post 1 (nI w, nI h, td_si P p c d (A p) T (B p), P, WW, HH)) : wpY_stamp post (nI w, nI h, T, P, WW, HH) (nI p) (nI c) (nI d) := by
  unfold wpY_stamp
  dsimp only
  exact td_yf Z hp (fun _ => td_br1 ⟨B p + 1, td_yt15 Z hp hc hd f (B p) 0 (by omega)⟩) (fun z => absurd ⟨c, d, rfl, rfl, hc, hd⟩ z)
theorem td_ystf {post : Int32 → SY → Prop} {w h : Nat} {A B : Nat → Nat} {T WW HH P : Nat → Int32} {p : Nat} {x y : Int32} (Z : td_Z w h A B WW HH) (hp : p < 3) (q : ¬ td_F w h A B p x y)
    (f : post 0 (nI w, nI h, T, P, WW, HH)) : wpY_stamp post (nI w, nI h, T, P, WW, HH) (nI p) x y := by
  unfold wpY_stamp
  dsimp only
  exact td_yf Z hp (fun z => absurd z q) (fun _ => td_br0 f)
theorem td_yst0 {post : Int32 → SY → Prop} {s : SY} {v x y : Int32} (n : ¬ td_L v) (f : post 0 s) : wpY_stamp post s v x y := by
  obtain ⟨s1, s2, s3, s4, s5, s6⟩ := s
  unfold wpY_stamp
  dsimp only
  exact td_yf0 n (td_br0 f)
/-! a new object -/
theorem td_cl (v : Int32) : ∃ n : Nat, 4 ≤ n ∧ n ≤ 12 ∧ ∀ K : Int32 → Prop, K (nI n) → ((4 ≤ v → ((v ≤ 12 → K v) ∧ (¬ v ≤ 12 → K 12))) ∧ (¬ 4 ≤ v → K 4)) := by
  by_cases n : v < 0
  · refine ⟨4, by omega, by omega, fun K k => br_f (fun z => ?_) k⟩
    exact Int32.lt_irrefl (Int32.lt_of_lt_of_le n (Int32.le_trans (by decide) z))
  · obtain ⟨j, hj, rfl⟩ := nI_of n
    by_cases c : j < 4
    · exact ⟨4, by omega, by omega, fun K k => pk_le 4 j (fun z => absurd z (by omega)) (fun _ => k)⟩
    · by_cases c2 : j ≤ 12
      · exact ⟨j, by omega, c2, fun K k => pk_le 4 j (fun _ => pk_le j 12 (fun _ => k) (fun z => absurd z (by omega))) (fun z => absurd z (by omega))⟩
      · exact ⟨12, by omega, by omega, fun K k => pk_le 4 j (fun _ => pk_le j 12 (fun z => absurd z (by omega)) (fun _ => k)) (fun z => absurd z (by omega))⟩
def td_w0 : Nat → Nat → Int32
  | 0 => fun _ => 0
  | n + 1 => upd (td_w0 n) n 1
def td_p0 : Nat → Nat → Int32
  | 0 => fun _ => 0
  | n + 1 => upd (td_p0 n) (16 * n) 1
theorem td_e5 (p : Nat) : nI p * (16 : Int32) = nI (16 * p) := by
  rw [← pk_mul, Int32.mul_comm (nI p)]
  rfl
theorem td_e6 (p : Nat) : (16 : Int32) * nI p = nI (16 * p) := by
  rw [← pk_mul]
  rfl
theorem td_x53 {post : SX → Prop} {a b : Int32} {T : Nat → Int32} (f : post (a, b, T, td_w0 3, td_w0 3, td_p0 3)) :
    ∀ e p, p + e = 3 → wX_init_53 post a b (e + 1) (nI p) T (td_w0 p) (td_w0 p) (td_p0 p) := by
  intro e
  induction e with
  | zero =>
    intro p hp
    obtain rfl : p = 3 := by omega
    exact br_t (nI_le (a := 3) (by omega) (by omega)) f
  | succ e ih =>
    intro p hp
    have hin : vp_in (nI p) 3 := vp_in_nI (by omega) (by omega)
    refine br_f (nI_ge (b := 3) (by omega) (by omega)) ?_
    rw [td_e5]
    refine ⟨hin, nm_r (e' := td_w0 (p + 1)) (by rw [nI_clamp (by omega)]; rfl) ⟨hin, nm_r (e' := td_w0 (p + 1)) (by rw [nI_clamp (by omega)]; rfl) ⟨vp_in_nI (by omega) (by omega), nm_r (e' := td_p0 (p + 1)) (by rw [nI_clamp (by omega)]; rfl) (nm_r (nI_1 p) (ih (p + 1) (by omega)))⟩⟩⟩
theorem td_y87 {post : SY → Prop} {a b : Int32} {T : Nat → Int32} (f : post (a, b, T, td_p0 3, td_w0 3, td_w0 3)) :
    ∀ e p, p + e = 3 → wY_init_87 post a b (e + 1) (nI p) T (td_p0 p) (td_w0 p) (td_w0 p) := by
  intro e
  induction e with
  | zero =>
    intro p hp
    obtain rfl : p = 3 := by omega
    exact br_t (nI_le (a := 3) (by omega) (by omega)) f
  | succ e ih =>
    intro p hp
    have hin : vp_in (nI p) 3 := vp_in_nI (by omega) (by omega)
    refine br_f (nI_ge (b := 3) (by omega) (by omega)) ?_
    rw [td_e6]
    refine ⟨hin, nm_r (e' := td_w0 (p + 1)) (by rw [nI_clamp (by omega)]; rfl) ⟨hin, nm_r (e' := td_w0 (p + 1)) (by rw [nI_clamp (by omega)]; rfl) ⟨vp_in_nI (by omega) (by omega), nm_r (e' := td_p0 (p + 1)) (by rw [nI_clamp (by omega)]; rfl) (nm_r (nI_1 p) (ih (p + 1) (by omega)))⟩⟩⟩
theorem td_w0_1 {p : Nat} (hp : p < 3) : td_w0 3 p = nI 1 :=
  match p, hp with
  | 0, _ => rfl
  | 1, _ => rfl
  | 2, _ => rfl
theorem td_Z_0 {w h : Nat} (w1 : 4 ≤ w) (w2 : w ≤ 12) (h1 : 4 ≤ h) (h2 : h ≤ 12) : td_Z w h (fun _ => 1) (fun _ => 1) (td_w0 3) (td_w0 3) :=
  ⟨w1, w2, h1, h2, fun _ hp => ⟨(by decide : 1 ≤ 1), (by decide : 1 ≤ 4), (by decide : 1 ≤ 1), (by decide : 1 ≤ 4), td_w0_1 hp, td_w0_1 hp⟩⟩
