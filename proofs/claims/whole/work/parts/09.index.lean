/-! the list of points, its indices, and their sum -/
def cg_n (p a b : Nat) : Prop := ec_P p ∧ a < p ∧ b < p ∧ (4 * (a * (a * a)) + 27 * (b * b)) % p ≠ 0
def cg_L (p a b c : Nat) (ax ay : Nat → Int32) : Prop := cg_n p a b ∧ 1 ≤ c ∧ c ≤ 123 ∧ (∀ k, 1 ≤ k → k < c → ∃ x y, x < p ∧ y < p ∧ ec_on p a b x y ∧ ax k = nI x ∧ ay k = nI y) ∧ (∀ x y, x < p → y < p → ec_on p a b x y → ∃ k, 1 ≤ k ∧ k < c ∧ ax k = nI x ∧ ay k = nI y) ∧ (∀ k l, 1 ≤ k → k < c → 1 ≤ l → l < c → ax k = ax l → ay k = ay l → k = l)
def cg_cd (ax ay : Nat → Int32) (k : Nat) : Nat := if k = 0 then 4095 else 64 * (ax k).toNatClampNeg + (ay k).toNatClampNeg
theorem cg_cd_0 (ax ay : Nat → Int32) : cg_cd ax ay 0 = 4095 := rfl
theorem cg_cd_n {ax ay : Nat → Int32} {k x y : Nat} (hk : 1 ≤ k) (hx : x < 61) (hy : y < 61) (ex : ax k = nI x) (ey : ay k = nI y) : cg_cd ax ay k = 64 * x + y := by
  unfold cg_cd
  rw [if_neg (by omega), ex, ey, nI_clamp (by omega), nI_clamp (by omega)]
theorem cg_at {p a b c : Nat} {ax ay : Nat → Int32} (h : cg_L p a b c ax ay) {k : Nat} (h1 : 1 ≤ k) (hk : k < c) : ∃ x y, x < p ∧ y < p ∧ ec_on p a b x y ∧ ax k = nI x ∧ ay k = nI y ∧ cg_cd ax ay k = 64 * x + y := by
  have b' := ec_P_b h.1.1
  obtain ⟨x, y, hx, hy, ho, ex, ey⟩ := h.2.2.2.1 k h1 hk
  exact ⟨x, y, hx, hy, ho, ex, ey, cg_cd_n h1 (by omega) (by omega) ex ey⟩
theorem cg_pt {p a b c : Nat} {ax ay : Nat → Int32} (h : cg_L p a b c ax ay) {k : Nat} (hk : k < c) : ec_pt p a b (cg_cd ax ay k) := by
  have b' := ec_P_b h.1.1
  rcases Nat.eq_zero_or_pos k with e | e
  · rw [e]; exact Or.inl rfl
  · obtain ⟨x, y, hx, hy, ho, ex, ey, ec⟩ := cg_at h e hk
    rw [ec]; exact ec_pt_c b'.2 hx hy ho
theorem cg_inj {p a b c : Nat} {ax ay : Nat → Int32} (h : cg_L p a b c ax ay) {k l : Nat} (hk : k < c) (hl : l < c) (e : cg_cd ax ay k = cg_cd ax ay l) : k = l := by
  have b' := ec_P_b h.1.1
  rcases Nat.eq_zero_or_pos k with q | q
  · rcases Nat.eq_zero_or_pos l with w | w
    · omega
    · obtain ⟨x, y, hx, hy, ho, ex, ey, ec⟩ := cg_at h w hl
      rw [q, cg_cd_0, ec] at e
      omega
  · obtain ⟨x, y, hx, hy, ho, ex, ey, ec⟩ := cg_at h q hk
    rcases Nat.eq_zero_or_pos l with w | w
    · rw [w, cg_cd_0, ec] at e
      omega
    · obtain ⟨u, v, hu, hv, go, eu, ev, ed⟩ := cg_at h w hl
      rw [ec, ed] at e
      have e1 : x = u := by omega
      have e2 : y = v := by omega
      exact h.2.2.2.2.2 k l q hk w hl (by rw [ex, eu, e1]) (by rw [ey, ev, e2])
theorem cg_sur {p a b c : Nat} {ax ay : Nat → Int32} (h : cg_L p a b c ax ay) {P : Nat} (hP : ec_pt p a b P) : ∃ k, k < c ∧ cg_cd ax ay k = P := by
  have b' := ec_P_b h.1.1
  by_cases n : P = 4095
  · have := h.2.1
    exact ⟨0, by omega, by rw [n]; rfl⟩
  · obtain ⟨x, y, hx, hy, e, ho⟩ := ec_pt_n hP n
    obtain ⟨k, h1, hk, ex, ey⟩ := h.2.2.2.2.1 x y hx hy ho
    exact ⟨k, hk, by rw [e]; exact cg_cd_n h1 (by omega) (by omega) ex ey⟩
noncomputable def cg_S (p a c : Nat) (ax ay : Nat → Int32) (i j : Nat) : Nat := Classical.epsilon (fun k => k < c ∧ cg_cd ax ay k = ec_ad p a (cg_cd ax ay i) (cg_cd ax ay j))
theorem cg_G {p a b c : Nat} {ax ay : Nat → Int32} (h : cg_L p a b c ax ay) : ec_G p a b := ec_every h.1.1 h.1.2.1 h.1.2.2.1 h.1.2.2.2
theorem cg_S_s {p a b c : Nat} {ax ay : Nat → Int32} (h : cg_L p a b c ax ay) {i j : Nat} (hi : i < c) (hj : j < c) : cg_S p a c ax ay i j < c ∧ cg_cd ax ay (cg_S p a c ax ay i j) = ec_ad p a (cg_cd ax ay i) (cg_cd ax ay j) :=
  Classical.epsilon_spec (cg_sur h ((cg_G h).1 _ _ (cg_pt h hi) (cg_pt h hj)))
theorem cg_S_u {p a b c : Nat} {ax ay : Nat → Int32} (h : cg_L p a b c ax ay) {i j k : Nat} (hi : i < c) (hj : j < c) (hk : k < c) (e : cg_cd ax ay k = ec_ad p a (cg_cd ax ay i) (cg_cd ax ay j)) : cg_S p a c ax ay i j = k :=
  cg_inj h (cg_S_s h hi hj).1 hk ((cg_S_s h hi hj).2.trans e.symm)
theorem cg_on_neg {p a b x y : Nat} (hp : 0 < p) (hy : y < p) (h : ec_on p a b x y) : ec_on p a b x ((p - y) % p) := by
  rw [ec_on_q] at h ⊢
  refine mq_t ?_ h
  have q : mq_ p (((p - y) % p : Nat) : Int) (-(y : Int)) := by
    refine mq_t (mq_nm p (p - y)) ⟨1, ?_⟩
    omega
  refine mq_t (mq_m q q) (mq_e ?_)
  grind
theorem cg_neg_0 {p y : Nat} (hy : y < p) : (y + (p - y) % p) % p = 0 := by
  rcases Nat.eq_zero_or_pos y with e | e
  · rw [e, Nat.sub_zero, Nat.mod_self]; exact Nat.zero_mod p
  · rw [Nat.mod_eq_of_lt (show p - y < p by omega), show y + (p - y) = p by omega, Nat.mod_self]
theorem cg_S_n {p a b c : Nat} {ax ay : Nat → Int32} (h : cg_L p a b c ax ay) {i j x y u v : Nat} (hi : i < c) (hj : j < c) (h1 : 1 ≤ i) (h2 : 1 ≤ j) (hx : x < p) (hy : y < p) (hu : u < p) (hv : v < p) (ex : ax i = nI x) (ey : ay i = nI y) (eu : ax j = nI u) (ev : ay j = nI v) :
    ec_ad p a (cg_cd ax ay i) (cg_cd ax ay j) = ec_ad2 p a x y u v := by
  have b' := ec_P_b h.1.1
  rw [cg_cd_n h1 (by omega) (by omega) ex ey, cg_cd_n h2 (by omega) (by omega) eu ev, ec_ad_c b'.2 hx hy hu hv]
theorem cg_ok {p a b c : Nat} {ax ay : Nat → Int32} (h : cg_L p a b c ax ay) : gp_ok c (cg_S p a c ax ay) := by
  have b' := ec_P_b h.1.1
  have c0 : 0 < c := h.2.1
  refine ⟨c0, fun i j hi hj => (cg_S_s h hi hj).1, fun i hi => ?_, fun i hi => ?_, fun i j k hi hj hk => ?_, fun i hi => ?_⟩
  · exact cg_S_u h c0 hi hi (by rw [cg_cd_0, ec_ad_0])
  · exact cg_S_u h hi c0 hi (by rw [cg_cd_0, ec_ad_z])
  · have s1 := cg_S_s h hi hj
    have s2 := cg_S_s h hj hk
    have s3 := cg_S_s h hi s2.1
    refine cg_S_u h s1.1 hk s3.1 ?_
    rw [s3.2, s2.2, s1.2]
    exact ((cg_G h).2 _ _ _ (cg_pt h hi) (cg_pt h hj) (cg_pt h hk)).symm
  · rcases Nat.eq_zero_or_pos i with e | e
    · exact ⟨0, c0, by rw [e]; exact cg_S_u h c0 c0 c0 (by rw [cg_cd_0, ec_ad_0])⟩
    · obtain ⟨x, y, hx, hy, ho, ex, ey, ec⟩ := cg_at h e hi
      have hm : (p - y) % p < p := Nat.mod_lt _ (by omega)
      obtain ⟨j, h1, hj, ex', ey'⟩ := h.2.2.2.2.1 x _ hx hm (cg_on_neg (by omega) hy ho)
      refine ⟨j, hj, cg_S_u h hi hj c0 ?_⟩
      rw [cg_S_n h hi hj e h1 hx hy hx hm ex ey ex' ey', cg_cd_0]
      exact (ec_ad2_O rfl (cg_neg_0 hy)).symm
/-- the sum of two points that are not the zero point -/
theorem cg_S_O {p a b c : Nat} {ax ay : Nat → Int32} (h : cg_L p a b c ax ay) {i j x y u v : Nat} (hi : i < c) (hj : j < c) (h1 : 1 ≤ i) (h2 : 1 ≤ j) (hx : x < p) (hy : y < p) (hu : u < p) (hv : v < p) (ex : ax i = nI x) (ey : ay i = nI y) (eu : ax j = nI u) (ev : ay j = nI v) (z : x = u) (z2 : (y + v) % p = 0) : cg_S p a c ax ay i j = 0 := by
  refine cg_S_u h hi hj h.2.1 ?_
  rw [cg_S_n h hi hj h1 h2 hx hy hu hv ex ey eu ev, cg_cd_0]
  exact (ec_ad2_O z z2).symm
theorem cg_S_F {p a b c : Nat} {ax ay : Nat → Int32} (h : cg_L p a b c ax ay) {i j x y u v : Nat} (hi : i < c) (hj : j < c) (h1 : 1 ≤ i) (h2 : 1 ≤ j) (hx : x < p) (hy : y < p) (hu : u < p) (hv : v < p) (ex : ax i = nI x) (ey : ay i = nI y) (eu : ax j = nI u) (ev : ay j = nI v) (hz : ¬ (x = u ∧ (y + v) % p = 0)) :
    ∃ l, l < p ∧ ec_sl p a x y u v l ∧ (∀ l', l' < p → ec_sl p a x y u v l' → l' = l) ∧ 1 ≤ cg_S p a c ax ay i j ∧ cg_S p a c ax ay i j < c ∧ ax (cg_S p a c ax ay i j) = nI (ec_r p x u l) ∧ ay (cg_S p a c ax ay i j) = nI (ec_s p x y (ec_r p x u l) l) := by
  have hp := h.1.1
  have b' := ec_P_b hp
  have oi : ec_on p a b x y := by
    obtain ⟨x', y', hx', hy', ho, ex', ey', _⟩ := cg_at h h1 hi
    rw [ex, nI_eq (by omega) (by omega)] at ex'
    rw [ey, nI_eq (by omega) (by omega)] at ey'
    rw [ex', ey']; exact ho
  have oj : ec_on p a b u v := by
    obtain ⟨x', y', hx', hy', ho, ex', ey', _⟩ := cg_at h h2 hj
    rw [eu, nI_eq (by omega) (by omega)] at ex'
    rw [ev, nI_eq (by omega) (by omega)] at ey'
    rw [ex', ey']; exact ho
  have ho : x = u → y = v := fun e => ec_opp hp hy hv oi (e ▸ oj) (fun z => hz ⟨e, z⟩)
  obtain ⟨l, hl, s, e⟩ := ec_ad2_F (a := a) hp hx hy hu hv hz ho
  have ss := cg_S_s h hi hj
  rw [cg_S_n h hi hj h1 h2 hx hy hu hv ex ey eu ev, e] at ss
  have hr : ec_r p x u l < p := ec_m_lt (by omega) _
  have hs : ec_s p x y (ec_r p x u l) l < p := ec_m_lt (by omega) _
  have eF : ec_F p x y u l = 64 * ec_r p x u l + ec_s p x y (ec_r p x u l) l := rfl
  have n0 : 1 ≤ cg_S p a c ax ay i j := by
    rcases Nat.eq_zero_or_pos (cg_S p a c ax ay i j) with q | q
    · have w := ss.2
      rw [q, cg_cd_0, eF] at w
      omega
    · exact q
  refine ⟨l, hl, s, fun l' hl' s' => ec_sl_u hp hx hu hz ho hl' hl s' s, n0, ss.1, ?_⟩
  obtain ⟨x', y', hx', hy', _, ex', ey', ec'⟩ := cg_at h n0 ss.1
  have w := ss.2
  rw [ec', eF] at w
  have e1 : x' = ec_r p x u l := by omega
  have e2 : y' = ec_s p x y (ec_r p x u l) l := by omega
  rw [ex', ey', e1, e2]
  exact ⟨rfl, rfl⟩
