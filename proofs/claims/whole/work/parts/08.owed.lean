/-- the two states hold the same text, the same patterns and the same sizes, and the sizes keep their bounds -/
def i_Rel (_ : Nat) (u : SX) (v : SY) : Prop :=
  ∃ (w h : Nat) (A B : Nat → Nat) (T P WW HH : Nat → Int32), td_Z w h A B WW HH ∧ u = (nI w, nI h, T, WW, HH, P) ∧ v = (nI w, nI h, T, P, WW, HH)
theorem i_up {k : Nat} {u : SX} {v : SY} (h : i_Rel k u v) : i_Rel (k + 5) u v := h
theorem i_vc0 (k0 : Int32) (k1 : Int32) : wpX_init (fun u => wpY_init (fun v => i_Rel 2 u v) k0 k1) k0 k1 := by
  obtain ⟨w, w1, w2, cw⟩ := td_cl k0
  obtain ⟨h, h1, h2, ch⟩ := td_cl k1
  refine cw (fun r_1 => wpX_clampSide (fun r_2 => ∃ n53 : Nat, wX_init_53 (fun u => wpY_init (fun v => i_Rel 2 u v) k0 k1) r_1 r_2 n53 0 (fun _ => 0) (fun _ => 0) (fun _ => 0) (fun _ => 0)) k1) ?_
  refine ch (fun r_2 => ∃ n53 : Nat, wX_init_53 (fun u => wpY_init (fun v => i_Rel 2 u v) k0 k1) (nI w) r_2 n53 0 (fun _ => 0) (fun _ => 0) (fun _ => 0) (fun _ => 0)) ?_
  refine ⟨4, td_x53 ?_ 3 0 (by omega)⟩
  refine cw (fun r => wY_init_57 (fun v => i_Rel 2 (nI w, nI h, fun _ => 0, td_w0 3, td_w0 3, td_p0 3) v) k1 r 0 0 (fun _ => 0) (fun _ => 0) (fun _ => 0) (fun _ => 0)) ?_
  refine ch (fun r => ∃ n87 : Nat, wY_init_87 (fun v => i_Rel 2 (nI w, nI h, fun _ => 0, td_w0 3, td_w0 3, td_p0 3) v) (nI w) r n87 0 (fun _ => 0) (fun _ => 0) (fun _ => 0) (fun _ => 0)) ?_
  exact ⟨4, td_y87 ⟨w, h, _, _, _, _, _, _, td_Z_0 w1 w2 h1 h2, rfl, rfl⟩ 3 0 (by omega)⟩
theorem i_vc_write {k : Nat} {u : SX} {v : SY} (I : i_Rel k u v) (hk : k + 5 ≤ 2562) (v1 : Int32) (v2 : Int32) (v3 : Int32) : wpX_write (fun r u' => wpY_write (fun r' v' => r' = r ∧ i_Rel (k + 5) u' v') v v1 v2 v3) u v1 v2 v3 := by
  obtain ⟨w, h, A, B, T, P, WW, HH, Z, rfl, rfl⟩ := I
  by_cases q : td_In w h v1 v2 ∧ td_L v3
  · obtain ⟨⟨c, d, hc, hd, rfl, rfl⟩, hv⟩ := q
    exact td_xwt Z.2.1 Z.2.2.2.1 hc hd hv (td_ywt Z.2.1 Z.2.2.2.1 hc hd hv ⟨rfl, w, h, A, B, _, P, WW, HH, Z, rfl, rfl⟩)
  · exact td_xwf Z.2.1 Z.2.2.2.1 q (td_ywf Z.2.1 Z.2.2.2.1 q ⟨rfl, w, h, A, B, T, P, WW, HH, Z, rfl, rfl⟩)
theorem i_vc_shape {k : Nat} {u : SX} {v : SY} (I : i_Rel k u v) (hk : k + 5 ≤ 2562) (v1 : Int32) (v2 : Int32) (v3 : Int32) : wpX_shape (fun r u' => wpY_shape (fun r' v' => r' = r ∧ i_Rel (k + 5) u' v') v v1 v2 v3) u v1 v2 v3 := by
  obtain ⟨w, h, A, B, T, P, WW, HH, Z, rfl, rfl⟩ := I
  by_cases q : td_L v1 ∧ td_Sd v2 ∧ td_Sd v3
  · obtain ⟨⟨p, hp, rfl⟩, ⟨c, c1, c4, rfl⟩, ⟨d, d1, d4, rfl⟩⟩ := q
    exact td_xst hp ⟨c, c1, c4, rfl⟩ ⟨d, d1, d4, rfl⟩ (td_yst hp ⟨c, c1, c4, rfl⟩ ⟨d, d1, d4, rfl⟩ ⟨rfl, w, h, _, _, T, _, _, _, td_Z_u Z c1 c4 d1 d4, rfl, rfl⟩)
  · exact td_xsf q (td_ysf q ⟨rfl, w, h, A, B, T, P, WW, HH, Z, rfl, rfl⟩)
theorem i_vc_paint {k : Nat} {u : SX} {v : SY} (I : i_Rel k u v) (hk : k + 5 ≤ 2562) (v1 : Int32) (v2 : Int32) (v3 : Int32) (v4 : Int32) : wpX_paint (fun r u' => wpY_paint (fun r' v' => r' = r ∧ i_Rel (k + 5) u' v') v v1 v2 v3 v4) u v1 v2 v3 v4 := by
  obtain ⟨w, h, A, B, T, P, WW, HH, Z, rfl, rfl⟩ := I
  by_cases l : td_L v1
  · obtain ⟨p, hp, rfl⟩ := l
    by_cases q : td_In (A p) (B p) v2 v3 ∧ td_L v4
    · obtain ⟨⟨c, d, hc, hd, rfl, rfl⟩, hv⟩ := q
      exact td_xpt Z hp hc hd hv (td_ypt Z hp hc hd hv ⟨rfl, w, h, A, B, T, _, WW, HH, Z, rfl, rfl⟩)
    · exact td_xpf Z hp q (td_ypf Z hp q ⟨rfl, w, h, A, B, T, P, WW, HH, Z, rfl, rfl⟩)
  · exact td_xp0 l (td_yp0 l ⟨rfl, w, h, A, B, T, P, WW, HH, Z, rfl, rfl⟩)
theorem i_vc_copy {k : Nat} {u : SX} {v : SY} (I : i_Rel k u v) (hk : k + 5 ≤ 2562) (v1 : Int32) (v2 : Int32) (v3 : Int32) : wpX_copy (fun r u' => wpY_copy (fun r' v' => r' = r ∧ i_Rel (k + 5) u' v') v v1 v2 v3) u v1 v2 v3 := by
  obtain ⟨w, h, A, B, T, P, WW, HH, Z, rfl, rfl⟩ := I
  by_cases l : td_L v1
  · obtain ⟨p, hp, rfl⟩ := l
    by_cases q : td_F w h A B p v2 v3
    · obtain ⟨c, d, rfl, rfl, hc, hd⟩ := q
      exact td_xcpt Z hp hc hd (td_ycpt Z hp hc hd ⟨rfl, w, h, A, B, T, _, WW, HH, Z, rfl, rfl⟩)
    · exact td_xcpf Z hp q (td_ycpf Z hp q ⟨rfl, w, h, A, B, T, P, WW, HH, Z, rfl, rfl⟩)
  · exact td_xcp0 l (td_ycp0 l ⟨rfl, w, h, A, B, T, P, WW, HH, Z, rfl, rfl⟩)
theorem i_vc_stamp {k : Nat} {u : SX} {v : SY} (I : i_Rel k u v) (hk : k + 5 ≤ 2562) (v1 : Int32) (v2 : Int32) (v3 : Int32) : wpX_stamp (fun r u' => wpY_stamp (fun r' v' => r' = r ∧ i_Rel (k + 5) u' v') v v1 v2 v3) u v1 v2 v3 := by
  obtain ⟨w, h, A, B, T, P, WW, HH, Z, rfl, rfl⟩ := I
  by_cases l : td_L v1
  · obtain ⟨p, hp, rfl⟩ := l
    by_cases q : td_F w h A B p v2 v3
    · obtain ⟨c, d, rfl, rfl, hc, hd⟩ := q
      exact td_xstt Z hp hc hd (td_ystt Z hp hc hd ⟨rfl, w, h, A, B, _, P, WW, HH, Z, rfl, rfl⟩)
    · exact td_xstf Z hp q (td_ystf Z hp q ⟨rfl, w, h, A, B, T, P, WW, HH, Z, rfl, rfl⟩)
  · exact td_xst0 l (td_yst0 l ⟨rfl, w, h, A, B, T, P, WW, HH, Z, rfl, rfl⟩)
theorem i_vc_letter {k : Nat} {u : SX} {v : SY} (I : i_Rel k u v) (hk : k + 5 ≤ 2562) (v1 : Int32) (v2 : Int32) : wpX_letter (fun r => wpY_letter (fun r' => r' = r ∧ i_Rel (k + 5) u v) v v1 v2) u v1 v2 := by
  have R : i_Rel (k + 5) u v := I
  obtain ⟨w, h, A, B, T, P, WW, HH, Z, rfl, rfl⟩ := I
  by_cases q : td_In w h v1 v2
  · obtain ⟨c, d, hc, hd, rfl, rfl⟩ := q
    exact td_xlt Z.2.1 Z.2.2.2.1 hc hd (td_ylt Z.2.1 Z.2.2.2.1 hc hd ⟨rfl, R⟩)
  · exact td_xlf Z.2.1 Z.2.2.2.1 q (td_ylf Z.2.1 Z.2.2.2.1 q ⟨rfl, R⟩)
theorem i_vc_occurrences {k : Nat} {u : SX} {v : SY} (I : i_Rel k u v) (hk : k + 5 ≤ 2562) (v1 : Int32) : wpX_occurrences (fun r => wpY_occurrences (fun r' => r' = r ∧ i_Rel (k + 5) u v) v v1) u v1 := by
  have R : i_Rel (k + 5) u v := I
  obtain ⟨w, h, A, B, T, P, WW, HH, Z, rfl, rfl⟩ := I
  by_cases l : td_L v1
  · obtain ⟨p, hp, rfl⟩ := l
    exact td_xocc Z hp (td_yocc Z hp ⟨rfl, R⟩)
  · unfold wpX_occurrences wpY_occurrences
    dsimp only
    exact td_xp (fun z => absurd z l) (fun _ => td_br0 (td_yp (fun z => absurd z l) (fun _ => td_br0 ⟨rfl, R⟩)))
theorem i_vc_occurs {k : Nat} {u : SX} {v : SY} (I : i_Rel k u v) (hk : k + 5 ≤ 2562) (v1 : Int32) (v2 : Int32) (v3 : Int32) : wpX_occurs (fun r => wpY_occurs (fun r' => r' = r ∧ i_Rel (k + 5) u v) v v1 v2 v3) u v1 v2 v3 := by
  have R : i_Rel (k + 5) u v := I
  obtain ⟨w, h, A, B, T, P, WW, HH, Z, rfl, rfl⟩ := I
  unfold wpX_occurs
  dsimp only
  by_cases l : td_L v1
  · obtain ⟨p, hp, rfl⟩ := l
    refine td_xp (fun _ => td_br1 ?_) (fun z => absurd ⟨p, hp, rfl⟩ z)
    exact td_xm Z hp (fun m => td_br1 (td_ym Z hp (fun _ => ⟨rfl, R⟩) (fun z => absurd m z))) (fun m => td_br0 (td_ym Z hp (fun z => absurd z m) (fun _ => ⟨rfl, R⟩)))
  · exact td_xp (fun z => absurd z l) (fun _ => td_br0 (td_ym0 l ⟨rfl, R⟩))
theorem i_vc_next {k : Nat} {u : SX} {v : SY} (I : i_Rel k u v) (hk : k + 5 ≤ 2562) (v1 : Int32) (v2 : Int32) : wpX_next (fun r => wpY_next (fun r' => r' = r ∧ i_Rel (k + 5) u v) v v1 v2) u v1 v2 := by
  have R : i_Rel (k + 5) u v := I
  obtain ⟨w, h, A, B, T, P, WW, HH, Z, rfl, rfl⟩ := I
  by_cases l : td_L v1
  · obtain ⟨p, hp, rfl⟩ := l
    refine td_xnext Z hp (fun a ha na la => td_ynext Z hp (fun b hb nb lb => ?_) (fun z => absurd na (z a ha))) (fun z => td_ynext Z hp (fun b hb nb _ => absurd nb (z b hb)) (fun _ => ⟨rfl, R⟩))
    obtain rfl : b = a := by
      rcases Nat.lt_trichotomy b a with c | c | c
      · exact absurd nb (la b c)
      · exact c
      · exact absurd na (lb a c)
    exact ⟨rfl, R⟩
  · unfold wpX_next wpY_next
    dsimp only
    exact td_xp (fun z => absurd z l) (fun _ => td_br0 (td_yp (fun z => absurd z l) (fun _ => td_br0 ⟨rfl, R⟩)))
theorem i_vc_covered {k : Nat} {u : SX} {v : SY} (I : i_Rel k u v) (hk : k + 5 ≤ 2562) : wpX_covered (fun r => wpY_covered (fun r' => r' = r ∧ i_Rel (k + 5) u v) v) u := by
  have R : i_Rel (k + 5) u v := I
  obtain ⟨w, h, A, B, T, P, WW, HH, Z, rfl, rfl⟩ := I
  exact td_xcov Z (td_ycov Z ⟨rfl, R⟩)
theorem i_vc_overlaps {k : Nat} {u : SX} {v : SY} (I : i_Rel k u v) (hk : k + 5 ≤ 2562) (v1 : Int32) : wpX_overlaps (fun r => wpY_overlaps (fun r' => r' = r ∧ i_Rel (k + 5) u v) v v1) u v1 := by
  have R : i_Rel (k + 5) u v := I
  obtain ⟨w, h, A, B, T, P, WW, HH, Z, rfl, rfl⟩ := I
  by_cases l : td_L v1
  · obtain ⟨p, hp, rfl⟩ := l
    exact td_xover Z hp (td_yover Z hp ⟨rfl, R⟩)
  · unfold wpX_overlaps wpY_overlaps
    dsimp only
    exact td_xp (fun z => absurd z l) (fun _ => td_br0 (td_yp (fun z => absurd z l) (fun _ => td_br0 ⟨rfl, R⟩)))
