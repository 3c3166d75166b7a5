/-- both sides hold one curve and one list of its points -/
def i_Rel (k : Nat) (u : SX) (v : SY) : Prop := ∃ p a b c : Nat, ∃ ax ay : Nat → Int32, cg_L p a b c ax ay ∧ u = (nI p, nI a, nI b, nI c, ax, ay) ∧ v = (nI p, nI a, nI b, nI c, ax, ay)
theorem i_up {k : Nat} {u : SX} {v : SY} (h : i_Rel k u v) : i_Rel (k + 4) u v := h
theorem cg_n5 : cg_n 5 1 1 := ⟨Or.inl rfl, by decide, by decide, by decide⟩
theorem i_vc0 : wpX_init (fun u => wpY_init (fun v => i_Rel 0 u v)) := by
  unfold wpX_init
  refine xw_take (p := 5) (a := 1) (b := 1) cg_n5 ?_ 0 0 0 0
  dsimp only
  unfold wpY_init
  refine yw_ls (p := 5) (a := 1) (b := 1) cg_n5 ?_ 0
  dsimp only
  exact ⟨5, 1, 1, _, _, _, cg_rx_L cg_n5 _ _, rfl, rfl⟩
theorem i_vc_curve {k : Nat} {u : SX} {v : SY} (I : i_Rel k u v) (hk : k + 4 ≤ 2048) (v1 : Int32) (v2 : Int32) (v3 : Int32) : wpX_curve (fun r u' => wpY_curve (fun r' v' => r' = r ∧ i_Rel (k + 4) u' v') v v1 v2 v3) u v1 v2 v3 := by
  obtain ⟨p, a, b, c, ax, ay, h, rfl, rfl⟩ := I
  have R : i_Rel (k + 4) (nI p, nI a, nI b, nI c, ax, ay) (nI p, nI a, nI b, nI c, ax, ay) := ⟨p, a, b, c, ax, ay, h, rfl, rfl⟩
  by_cases g : ∃ q, ec_P q ∧ v1 = nI q
  · obtain ⟨q, hp, e1⟩ := g
    have b' := ec_P_b hp
    rcases wk_ix v2 (c := q) (by omega) with g2 | ⟨m, hm, e2⟩
    · exact xw_cv_bad (Or.inr ⟨q, hp, e1, Or.inl g2⟩) (yw_cv_bad (Or.inr ⟨q, hp, e1, Or.inl g2⟩) ⟨rfl, R⟩)
    · rcases wk_ix v3 (c := q) (by omega) with g3 | ⟨n, hn, e3⟩
      · exact xw_cv_bad (Or.inr ⟨q, hp, e1, Or.inr g3⟩) (yw_cv_bad (Or.inr ⟨q, hp, e1, Or.inr g3⟩) ⟨rfl, R⟩)
      · rw [e1, e2, e3]
        refine xw_cv hp hm hn (fun z => ?_) (fun z => ?_)
        · exact yw_cv hp hm hn (fun _ => ⟨rfl, R⟩) (fun w => absurd z w.2.2.2)
        · exact yw_cv hp hm hn (fun w => absurd w z.2.2.2) (fun w => ⟨rfl, q, m, n, _, _, _, cg_rx_L w ax ay, rfl, rfl⟩)
  · have hv : cg_no v1 := fun q hp e => g ⟨q, hp, e⟩
    exact xw_cv_bad (Or.inl hv) (yw_cv_bad (Or.inl hv) ⟨rfl, R⟩)
theorem i_vc_points {k : Nat} {u : SX} {v : SY} (I : i_Rel k u v) (hk : k + 4 ≤ 2048) : wpX_points (fun r => wpY_points (fun r' => r' = r ∧ i_Rel (k + 4) u v) v) u := by
  obtain ⟨p, a, b, c, ax, ay, h, rfl, rfl⟩ := I
  exact ⟨rfl, p, a, b, c, ax, ay, h, rfl, rfl⟩
theorem i_vc_x {k : Nat} {u : SX} {v : SY} (I : i_Rel k u v) (hk : k + 4 ≤ 2048) (v1 : Int32) : wpX_x (fun r => wpY_x (fun r' => r' = r ∧ i_Rel (k + 4) u v) v v1) u v1 := by
  obtain ⟨p, a, b, c, ax, ay, h, rfl, rfl⟩ := I
  have R : i_Rel (k + 4) (nI p, nI a, nI b, nI c, ax, ay) (nI p, nI a, nI b, nI c, ax, ay) := ⟨p, a, b, c, ax, ay, h, rfl, rfl⟩
  have q := wk_b h
  unfold wpX_x wpY_x
  dsimp only
  rcases wk_ix v1 (c := c) (by omega) with g | ⟨i, hi, e⟩
  · refine xw_ip_f g ?_
    refine br_t rfl ?_
    refine yw_np_f g ?_
    exact br_f wk_10 ⟨rfl, R⟩
  · rw [e]
    refine xw_ip_t h hi ?_
    refine br_f wk_10 ?_
    by_cases z : nI i = 0
    · refine br_t z ?_
      refine yw_np_t h hi ?_
      refine br_t rfl ?_
      exact br_t z ⟨rfl, R⟩
    · refine br_f z ⟨vp_in_nI (by omega) (by omega), ?_⟩
      refine yw_np_t h hi ?_
      refine br_t rfl ?_
      exact br_f z ⟨vp_in_nI (by omega) (by omega), rfl, R⟩
theorem i_vc_y {k : Nat} {u : SX} {v : SY} (I : i_Rel k u v) (hk : k + 4 ≤ 2048) (v1 : Int32) : wpX_y (fun r => wpY_y (fun r' => r' = r ∧ i_Rel (k + 4) u v) v v1) u v1 := by
  obtain ⟨p, a, b, c, ax, ay, h, rfl, rfl⟩ := I
  have R : i_Rel (k + 4) (nI p, nI a, nI b, nI c, ax, ay) (nI p, nI a, nI b, nI c, ax, ay) := ⟨p, a, b, c, ax, ay, h, rfl, rfl⟩
  have q := wk_b h
  unfold wpX_y wpY_y
  dsimp only
  rcases wk_ix v1 (c := c) (by omega) with g | ⟨i, hi, e⟩
  · refine xw_ip_f g ?_
    refine br_t rfl ?_
    refine yw_np_f g ?_
    exact br_f wk_10 ⟨rfl, R⟩
  · rw [e]
    refine xw_ip_t h hi ?_
    refine br_f wk_10 ?_
    by_cases z : nI i = 0
    · refine br_t z ?_
      refine yw_np_t h hi ?_
      refine br_t rfl ?_
      exact br_t z ⟨rfl, R⟩
    · refine br_f z ⟨vp_in_nI (by omega) (by omega), ?_⟩
      refine yw_np_t h hi ?_
      refine br_t rfl ?_
      exact br_f z ⟨vp_in_nI (by omega) (by omega), rfl, R⟩
theorem i_vc_find {k : Nat} {u : SX} {v : SY} (I : i_Rel k u v) (hk : k + 4 ≤ 2048) (v1 : Int32) (v2 : Int32) : wpX_find (fun r => wpY_find (fun r' => r' = r ∧ i_Rel (k + 4) u v) v v1 v2) u v1 v2 := by
  obtain ⟨p, a, b, c, ax, ay, h, rfl, rfl⟩ := I
  obtain ⟨r, hr⟩ := cg_fr_e c ax ay v1 v2
  exact xw_find h hr (yw_find h hr ⟨rfl, p, a, b, c, ax, ay, h, rfl, rfl⟩)
section WKX
variable {p a b c : Nat} {ax ay : Nat → Int32}
theorem xw_add_f (h : cg_L p a b c ax ay) {v1 v2 : Int32} (hv : (v1 < 0 ∨ nI c ≤ v1) ∨ (v2 < 0 ∨ nI c ≤ v2)) {post : Int32 → Prop} (hq : post (-1)) : wpX_add post (nI p, nI a, nI b, nI c, ax, ay) v1 v2 := by
  have q := wk_b h
  unfold wpX_add
  dsimp only
  rcases wk_ix v1 (c := c) (by omega) with g | ⟨i, hi, e⟩
  · refine xw_ip_f g ?_
    exact br_t rfl hq
  · rw [e] at hv ⊢
    refine xw_ip_t h hi ?_
    refine br_f wk_10 ?_
    rcases hv with (w | w) | w
    · exact absurd w (nI_pos (by omega))
    · exact absurd w (nI_ge hi (by omega))
    · refine xw_ip_f w ?_
      exact br_t rfl hq
theorem yw_add_f (h : cg_L p a b c ax ay) {v1 v2 : Int32} (hv : (v1 < 0 ∨ nI c ≤ v1) ∨ (v2 < 0 ∨ nI c ≤ v2)) {post : Int32 → Prop} (hq : post (-1)) : wpY_add post (nI p, nI a, nI b, nI c, ax, ay) v1 v2 := by
  have q := wk_b h
  unfold wpY_add
  dsimp only
  rcases wk_ix v1 (c := c) (by omega) with g | ⟨i, hi, e⟩
  · refine yw_np_f g ?_
    exact br_f wk_10 hq
  · rw [e] at hv ⊢
    refine yw_np_t h hi ?_
    refine br_t rfl ?_
    rcases hv with (w | w) | w
    · exact absurd w (nI_pos (by omega))
    · exact absurd w (nI_ge hi (by omega))
    · refine yw_np_f w ?_
      exact br_f wk_10 hq
theorem xw_log_f (h : cg_L p a b c ax ay) {v1 v2 : Int32} (hv : (v1 < 0 ∨ nI c ≤ v1) ∨ (v2 < 0 ∨ nI c ≤ v2)) {post : Int32 → Prop} (hq : post (-1)) : wpX_logarithm post (nI p, nI a, nI b, nI c, ax, ay) v1 v2 := by
  have q := wk_b h
  unfold wpX_logarithm
  dsimp only
  rcases wk_ix v1 (c := c) (by omega) with g | ⟨i, hi, e⟩
  · refine xw_ip_f g ?_
    exact br_t rfl hq
  · rw [e] at hv ⊢
    refine xw_ip_t h hi ?_
    refine br_f wk_10 ?_
    rcases hv with (w | w) | w
    · exact absurd w (nI_pos (by omega))
    · exact absurd w (nI_ge hi (by omega))
    · refine xw_ip_f w ?_
      exact br_t rfl hq
theorem yw_log_f (h : cg_L p a b c ax ay) {v1 v2 : Int32} (hv : (v1 < 0 ∨ nI c ≤ v1) ∨ (v2 < 0 ∨ nI c ≤ v2)) {post : Int32 → Prop} (hq : post (-1)) : wpY_logarithm post (nI p, nI a, nI b, nI c, ax, ay) v1 v2 := by
  have q := wk_b h
  unfold wpY_logarithm
  dsimp only
  rcases wk_ix v1 (c := c) (by omega) with g | ⟨i, hi, e⟩
  · refine yw_np_f g ?_
    exact br_f wk_10 hq
  · rw [e] at hv ⊢
    refine yw_np_t h hi ?_
    refine br_t rfl ?_
    rcases hv with (w | w) | w
    · exact absurd w (nI_pos (by omega))
    · exact absurd w (nI_ge hi (by omega))
    · refine yw_np_f w ?_
      exact br_f wk_10 hq
end WKX
theorem i_vc_add {k : Nat} {u : SX} {v : SY} (I : i_Rel k u v) (hk : k + 4 ≤ 2048) (v1 : Int32) (v2 : Int32) : wpX_add (fun r => wpY_add (fun r' => r' = r ∧ i_Rel (k + 4) u v) v v1 v2) u v1 v2 := by
  obtain ⟨p, a, b, c, ax, ay, h, rfl, rfl⟩ := I
  have R : i_Rel (k + 4) (nI p, nI a, nI b, nI c, ax, ay) (nI p, nI a, nI b, nI c, ax, ay) := ⟨p, a, b, c, ax, ay, h, rfl, rfl⟩
  have q := wk_b h
  rcases wk_ix v1 (c := c) (by omega) with g | ⟨i, hi, e⟩
  · exact xw_add_f h (Or.inl g) (yw_add_f h (Or.inl g) ⟨rfl, R⟩)
  · rcases wk_ix v2 (c := c) (by omega) with g | ⟨j, hj, f⟩
    · exact xw_add_f h (Or.inr g) (yw_add_f h (Or.inr g) ⟨rfl, R⟩)
    · rw [e, f]
      exact xw_add h hi hj (yw_add h hi hj ⟨rfl, R⟩)
theorem i_vc_negate {k : Nat} {u : SX} {v : SY} (I : i_Rel k u v) (hk : k + 4 ≤ 2048) (v1 : Int32) : wpX_negate (fun r => wpY_negate (fun r' => r' = r ∧ i_Rel (k + 4) u v) v v1) u v1 := by
  obtain ⟨p, a, b, c, ax, ay, h, rfl, rfl⟩ := I
  have R : i_Rel (k + 4) (nI p, nI a, nI b, nI c, ax, ay) (nI p, nI a, nI b, nI c, ax, ay) := ⟨p, a, b, c, ax, ay, h, rfl, rfl⟩
  have q := wk_b h
  rcases wk_ix v1 (c := c) (by omega) with g | ⟨i, hi, e⟩
  · unfold wpX_negate wpY_negate
    dsimp only
    refine xw_ip_f g ?_
    refine br_t rfl ?_
    refine yw_np_f g ?_
    exact br_f wk_10 ⟨rfl, R⟩
  · rw [e]
    refine xw_neg h hi ?_
    unfold wpY_negate
    dsimp only
    refine yw_np_t h hi ?_
    refine br_t rfl ?_
    exact yw_neg h hi ⟨rfl, R⟩
theorem i_vc_times {k : Nat} {u : SX} {v : SY} (I : i_Rel k u v) (hk : k + 4 ≤ 2048) (v1 : Int32) (v2 : Int32) : wpX_times (fun r => wpY_times (fun r' => r' = r ∧ i_Rel (k + 4) u v) v v1 v2) u v1 v2 := by
  obtain ⟨p, a, b, c, ax, ay, h, rfl, rfl⟩ := I
  have R : i_Rel (k + 4) (nI p, nI a, nI b, nI c, ax, ay) (nI p, nI a, nI b, nI c, ax, ay) := ⟨p, a, b, c, ax, ay, h, rfl, rfl⟩
  have q := wk_b h
  rcases wk_ix v1 (c := c) (by omega) with g | ⟨i, hi, e⟩
  · unfold wpX_times wpY_times
    dsimp only
    refine xw_ip_f g ?_
    refine br_t rfl ?_
    refine yw_np_f g ?_
    exact br_f wk_10 ⟨rfl, R⟩
  · rw [e]
    by_cases g1 : v2 < -1000000
    · unfold wpX_times wpY_times
      dsimp only
      refine xw_ip_t h hi ?_
      refine br_f wk_10 ?_
      refine br_t g1 ?_
      refine yw_np_t h hi ?_
      refine br_t rfl ?_
      exact br_t g1 ⟨rfl, R⟩
    · by_cases g2 : v2 ≤ 1000000
      · refine xw_times h hi g1 g2 ?_
        unfold wpY_times
        dsimp only
        refine yw_np_t h hi ?_
        refine br_t rfl ?_
        refine br_f g1 ?_
        refine br_t g2 ?_
        exact yw_mul h hi g1 g2 ⟨rfl, R⟩
      · unfold wpX_times wpY_times
        dsimp only
        refine xw_ip_t h hi ?_
        refine br_f wk_10 ?_
        refine br_f g1 ?_
        refine br_f g2 ?_
        refine yw_np_t h hi ?_
        refine br_t rfl ?_
        exact br_f g1 (br_f g2 ⟨rfl, R⟩)
theorem i_vc_order {k : Nat} {u : SX} {v : SY} (I : i_Rel k u v) (hk : k + 4 ≤ 2048) (v1 : Int32) : wpX_order (fun r => wpY_order (fun r' => r' = r ∧ i_Rel (k + 4) u v) v v1) u v1 := by
  obtain ⟨p, a, b, c, ax, ay, h, rfl, rfl⟩ := I
  have R : i_Rel (k + 4) (nI p, nI a, nI b, nI c, ax, ay) (nI p, nI a, nI b, nI c, ax, ay) := ⟨p, a, b, c, ax, ay, h, rfl, rfl⟩
  have q := wk_b h
  rcases wk_ix v1 (c := c) (by omega) with g | ⟨i, hi, e⟩
  · unfold wpX_order wpY_order
    dsimp only
    refine xw_ip_f g ?_
    refine br_t rfl ?_
    refine yw_np_f g ?_
    exact br_f wk_10 ⟨rfl, R⟩
  · rw [e]
    refine xw_ord h hi ?_
    unfold wpY_order
    dsimp only
    refine yw_np_t h hi ?_
    refine br_t rfl ?_
    exact yw_ord h hi ⟨rfl, R⟩
theorem i_vc_exponent {k : Nat} {u : SX} {v : SY} (I : i_Rel k u v) (hk : k + 4 ≤ 2048) : wpX_exponent (fun r => wpY_exponent (fun r' => r' = r ∧ i_Rel (k + 4) u v) v) u := by
  obtain ⟨p, a, b, c, ax, ay, h, rfl, rfl⟩ := I
  exact xw_exp h (yw_exp h ⟨rfl, p, a, b, c, ax, ay, h, rfl, rfl⟩)
theorem i_vc_width {k : Nat} {u : SX} {v : SY} (I : i_Rel k u v) (hk : k + 4 ≤ 2048) : wpX_width (fun r => wpY_width (fun r' => r' = r ∧ i_Rel (k + 4) u v) v) u := by
  obtain ⟨p, a, b, c, ax, ay, h, rfl, rfl⟩ := I
  exact xw_wid h (yw_wid h ⟨rfl, p, a, b, c, ax, ay, h, rfl, rfl⟩)
theorem i_vc_generator {k : Nat} {u : SX} {v : SY} (I : i_Rel k u v) (hk : k + 4 ≤ 2048) : wpX_generator (fun r => wpY_generator (fun r' => r' = r ∧ i_Rel (k + 4) u v) v) u := by
  obtain ⟨p, a, b, c, ax, ay, h, rfl, rfl⟩ := I
  exact xw_gen h (yw_gen h ⟨rfl, p, a, b, c, ax, ay, h, rfl, rfl⟩)
theorem wk_bm {v : Int32} (g : ¬ (¬ v < 1 ∧ v ≤ 1000)) : v < 1 ∨ ¬ v ≤ 1000 := by
  by_cases w : v < 1
  · exact Or.inl w
  · exact Or.inr (fun z => g ⟨w, z⟩)
theorem xw_rts_f {p a b c : Nat} {ax ay : Nat → Int32} (h : cg_L p a b c ax ay) {i : Nat} (hi : i < c) {v : Int32} (hv : v < 1 ∨ ¬ v ≤ 1000) {post : Int32 → Prop} (hq : post (-1)) : wpX_roots post (nI p, nI a, nI b, nI c, ax, ay) (nI i) v := by
  unfold wpX_roots
  dsimp only
  refine xw_ip_t h hi ?_
  refine br_f wk_10 ?_
  by_cases g : v < 1
  · exact br_t g hq
  · rcases hv with w | w
    · exact absurd w g
    · exact br_f g (br_f w hq)
theorem i_vc_torsion {k : Nat} {u : SX} {v : SY} (I : i_Rel k u v) (hk : k + 4 ≤ 2048) (v1 : Int32) : wpX_torsion (fun r => wpY_torsion (fun r' => r' = r ∧ i_Rel (k + 4) u v) v v1) u v1 := by
  obtain ⟨p, a, b, c, ax, ay, h, rfl, rfl⟩ := I
  have R : i_Rel (k + 4) (nI p, nI a, nI b, nI c, ax, ay) (nI p, nI a, nI b, nI c, ax, ay) := ⟨p, a, b, c, ax, ay, h, rfl, rfl⟩
  have q := wk_b h
  unfold wpX_torsion
  dsimp only
  by_cases g : ¬ v1 < 1 ∧ v1 ≤ 1000
  · refine xw_rts h (i := 0) (by omega) g.1 g.2 ?_
    exact yw_tor h g.1 g.2 ⟨rfl, R⟩
  · refine xw_rts_f h (i := 0) (by omega) (wk_bm g) ?_
    unfold wpY_torsion
    dsimp only
    refine yw_nt_f (wk_bm g) ?_
    exact br_f wk_10 ⟨rfl, R⟩
theorem i_vc_ofOrder {k : Nat} {u : SX} {v : SY} (I : i_Rel k u v) (hk : k + 4 ≤ 2048) (v1 : Int32) : wpX_ofOrder (fun r => wpY_ofOrder (fun r' => r' = r ∧ i_Rel (k + 4) u v) v v1) u v1 := by
  obtain ⟨p, a, b, c, ax, ay, h, rfl, rfl⟩ := I
  have R : i_Rel (k + 4) (nI p, nI a, nI b, nI c, ax, ay) (nI p, nI a, nI b, nI c, ax, ay) := ⟨p, a, b, c, ax, ay, h, rfl, rfl⟩
  by_cases g : ¬ v1 < 1 ∧ v1 ≤ 1000
  · obtain ⟨m, m1, m2, ev, _⟩ := wk_m g.1 g.2
    rw [ev]
    exact xw_oo h m1 m2 (yw_oo h m1 m2 ⟨rfl, R⟩)
  · have w := wk_bm g
    have y : wpY_ofOrder (fun r' => r' = -1 ∧ i_Rel (k + 4) (nI p, nI a, nI b, nI c, ax, ay) (nI p, nI a, nI b, nI c, ax, ay)) (nI p, nI a, nI b, nI c, ax, ay) v1 := by
      unfold wpY_ofOrder
      dsimp only
      refine yw_nt_f w ?_
      exact br_f wk_10 ⟨rfl, R⟩
    unfold wpX_ofOrder
    dsimp only
    by_cases g1 : v1 < 1
    · exact br_t g1 y
    · rcases w with w | w
      · exact absurd w g1
      · exact br_f g1 (br_f w y)
theorem i_vc_logarithm {k : Nat} {u : SX} {v : SY} (I : i_Rel k u v) (hk : k + 4 ≤ 2048) (v1 : Int32) (v2 : Int32) : wpX_logarithm (fun r => wpY_logarithm (fun r' => r' = r ∧ i_Rel (k + 4) u v) v v1 v2) u v1 v2 := by
  obtain ⟨p, a, b, c, ax, ay, h, rfl, rfl⟩ := I
  have R : i_Rel (k + 4) (nI p, nI a, nI b, nI c, ax, ay) (nI p, nI a, nI b, nI c, ax, ay) := ⟨p, a, b, c, ax, ay, h, rfl, rfl⟩
  have q := wk_b h
  rcases wk_ix v1 (c := c) (by omega) with g | ⟨i, hi, e⟩
  · exact xw_log_f h (Or.inl g) (yw_log_f h (Or.inl g) ⟨rfl, R⟩)
  · rcases wk_ix v2 (c := c) (by omega) with g | ⟨j, hj, f⟩
    · exact xw_log_f h (Or.inr g) (yw_log_f h (Or.inr g) ⟨rfl, R⟩)
    · rw [e, f]
      obtain ⟨r, hr⟩ := cg_lg_e (cg_S p a c ax ay) i j
      exact xw_log h hi hj hr (yw_log h hi hj hr ⟨rfl, R⟩)
theorem i_vc_roots {k : Nat} {u : SX} {v : SY} (I : i_Rel k u v) (hk : k + 4 ≤ 2048) (v1 : Int32) (v2 : Int32) : wpX_roots (fun r => wpY_roots (fun r' => r' = r ∧ i_Rel (k + 4) u v) v v1 v2) u v1 v2 := by
  obtain ⟨p, a, b, c, ax, ay, h, rfl, rfl⟩ := I
  have R : i_Rel (k + 4) (nI p, nI a, nI b, nI c, ax, ay) (nI p, nI a, nI b, nI c, ax, ay) := ⟨p, a, b, c, ax, ay, h, rfl, rfl⟩
  have q := wk_b h
  rcases wk_ix v1 (c := c) (by omega) with g | ⟨i, hi, e⟩
  · unfold wpX_roots wpY_roots
    dsimp only
    refine xw_ip_f g ?_
    refine br_t rfl ?_
    refine yw_np_f g ?_
    exact br_f wk_10 ⟨rfl, R⟩
  · rw [e]
    by_cases g : ¬ v2 < 1 ∧ v2 ≤ 1000
    · exact xw_rts h hi g.1 g.2 (yw_rts h hi g.1 g.2 ⟨rfl, R⟩)
    · refine xw_rts_f h hi (wk_bm g) ?_
      unfold wpY_roots
      dsimp only
      refine yw_np_t h hi ?_
      refine br_t rfl ?_
      refine yw_nt_f (wk_bm g) ?_
      exact br_f wk_10 ⟨rfl, R⟩
theorem i_vc_twist {k : Nat} {u : SX} {v : SY} (I : i_Rel k u v) (hk : k + 4 ≤ 2048) : wpX_twist (fun r => wpY_twist (fun r' => r' = r ∧ i_Rel (k + 4) u v) v) u := by
  obtain ⟨p, a, b, c, ax, ay, h, rfl, rfl⟩ := I
  obtain ⟨g, hg⟩ := cg_g_e h.1.1
  exact xw_twist h hg (yw_twist h hg ⟨rfl, p, a, b, c, ax, ay, h, rfl, rfl⟩)
theorem i_vc_changes {k : Nat} {u : SX} {v : SY} (I : i_Rel k u v) (hk : k + 4 ≤ 2048) (v1 : Int32) (v2 : Int32) : wpX_changes (fun r => wpY_changes (fun r' => r' = r ∧ i_Rel (k + 4) u v) v v1 v2) u v1 v2 := by
  obtain ⟨p, a, b, c, ax, ay, h, rfl, rfl⟩ := I
  have R : i_Rel (k + 4) (nI p, nI a, nI b, nI c, ax, ay) (nI p, nI a, nI b, nI c, ax, ay) := ⟨p, a, b, c, ax, ay, h, rfl, rfl⟩
  have q := wk_b h
  by_cases g : (v1 < 0 ∨ nI p ≤ v1) ∨ (v2 < 0 ∨ nI p ≤ v2)
  · unfold wpX_changes wpY_changes
    dsimp only
    by_cases g1 : v1 < 0
    · exact br_t g1 (br_t g1 ⟨rfl, R⟩)
    · by_cases g2 : nI p ≤ v1
      · exact br_f g1 (br_t g2 (br_f g1 (br_t g2 ⟨rfl, R⟩)))
      · by_cases g3 : v2 < 0
        · exact br_f g1 (br_f g2 (br_t g3 (br_f g1 (br_f g2 (br_t g3 ⟨rfl, R⟩)))))
        · have g4 : ¬ v2 < nI p := by
            rcases g with (w | w) | (w | w)
            · exact absurd w g1
            · exact absurd w g2
            · exact absurd w g3
            · exact Int32.not_lt.mpr w
          exact br_f g1 (br_f g2 (br_f g3 (br_f g4 (br_f g1 (br_f g2 (br_f g3 (br_f g4 ⟨rfl, R⟩)))))))
  · rcases wk_ix v1 (c := p) (by omega) with w | ⟨C, hC, e⟩
    · exact absurd (Or.inl w) g
    · rcases wk_ix v2 (c := p) (by omega) with w | ⟨D, hD, f⟩
      · exact absurd (Or.inr w) g
      · rw [e, f]
        exact xw_chg h hC hD (yw_chg h hC hD ⟨rfl, R⟩)
