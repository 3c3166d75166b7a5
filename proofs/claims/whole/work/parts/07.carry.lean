/-! a curve carried over by (t^2 x, t^3 y); every curve's sum is closed and associative -/
def ec_ph (p t P : Nat) : Nat := if P = 4095 then 4095 else 64 * (t * t * (P / 64) % p) + t * t * t * (P % 64) % p
theorem ec_ph_0 (p t : Nat) : ec_ph p t 4095 = 4095 := rfl
theorem ec_ph_c {p t x y : Nat} (hp : p ≤ 61) (hx : x < p) (hy : y < p) : ec_ph p t (64 * x + y) = 64 * (t * t * x % p) + t * t * t * y % p := by
  have c := ec_cd hp hx hy
  unfold ec_ph
  rw [if_neg c.1, c.2.1, c.2.2]
theorem ec_x2 (p t x : Nat) : mq_ p ((t * t * x % p : Nat) : Int) ((t : Int) * t * x) := by
  have h := mq_nm p (t * t * x)
  rwa [Int.natCast_mul (t * t) x, Int.natCast_mul t t] at h
theorem ec_y3 (p t y : Nat) : mq_ p ((t * t * t * y % p : Nat) : Int) ((t : Int) * t * t * y) := by
  have h := mq_nm p (t * t * t * y)
  rwa [Int.natCast_mul (t * t * t) y, Int.natCast_mul (t * t) t, Int.natCast_mul t t] at h
theorem ec_T1 {p a b a0 b0 t x y : Nat} (qa : mq_ p (a : Int) ((t : Int) ^ 4 * a0)) (qb : mq_ p (b : Int) ((t : Int) ^ 6 * b0)) (h : ec_on p a0 b0 x y) : ec_on p a b (t * t * x % p) (t * t * t * y % p) := by
  rw [ec_on_q] at h ⊢
  have q1 := ec_x2 p t x
  have q2 := ec_y3 p t y
  refine mq_t (mq_m q2 q2) (mq_s (mq_t (mq_a (mq_a (mq_m q1 (mq_m q1 q1)) (mq_m qa q1)) qb) ?_))
  have h1 : mq_ p ((t : Int) ^ 6 * (y * y)) ((t : Int) ^ 6 * (x * (x * x) + a0 * x + b0)) := mq_m mq_r h
  have e1 : (t : Int) * t * x * (t * t * x * (t * t * x)) + (t : Int) ^ 4 * a0 * (t * t * x) + (t : Int) ^ 6 * b0 = (t : Int) ^ 6 * (x * (x * x) + a0 * x + b0) := by grind
  have e2 : (t : Int) * t * t * y * (t * t * t * y) = (t : Int) ^ 6 * (y * y) := by grind
  rw [e1, e2]
  exact mq_s h1
theorem ec_tn {p t : Nat} (h0 : 0 < t) (ht : t < p) : ¬ mq_ p (t : Int) 0 := by
  intro z
  have e := mq_0.mp z
  rw [Nat.mod_eq_of_lt ht] at e
  omega
theorem ec_tt {p t : Nat} (hp : ec_P p) (h0 : 0 < t) (ht : t < p) : ∃ s : Nat, mq_ p ((t : Int) * s) 1 := by
  obtain ⟨w, hw⟩ := mq_inv hp (ec_tn h0 ht)
  have b := ec_P_b hp
  exact ⟨ec_m p w, mq_t (mq_m mq_r (ec_m_q (by omega) w)) hw⟩
theorem ec_T2 {p a b a0 b0 t x y : Nat} (hp : ec_P p) (h0 : 0 < t) (ht : t < p) (qa : mq_ p (a : Int) ((t : Int) ^ 4 * a0)) (qb : mq_ p (b : Int) ((t : Int) ^ 6 * b0)) (hx : x < p) (hy : y < p) (h : ec_on p a b x y) :
    ∃ x0 y0, x0 < p ∧ y0 < p ∧ ec_on p a0 b0 x0 y0 ∧ t * t * x0 % p = x ∧ t * t * t * y0 % p = y := by
  have b' := ec_P_b hp
  have hp0 : 0 < p := by omega
  obtain ⟨s, hs⟩ := ec_tt hp h0 ht
  have s2 : mq_ p ((t : Int) * s * (t * s)) 1 := mq_t (mq_m hs hs) (mq_e (by decide))
  have s3 : mq_ p ((t : Int) * s * (t * s) * (t * s)) 1 := mq_t (mq_m s2 hs) (mq_e (by decide))
  refine ⟨s * s * x % p, s * s * s * y % p, Nat.mod_lt _ hp0, Nat.mod_lt _ hp0, ?_, ?_, ?_⟩
  · rw [ec_on_q] at h ⊢
    have q1 := ec_x2 p s x
    have q2 := ec_y3 p s y
    have s4 : mq_ p ((t : Int) * s * (t * s) * (t * s * (t * s))) 1 := mq_t (mq_m s2 s2) (mq_e (by decide))
    have s6 : mq_ p ((t : Int) * s * (t * s) * (t * s) * (t * s * (t * s) * (t * s))) 1 := mq_t (mq_m s3 s3) (mq_e (by decide))
    refine mq_t (mq_m q2 q2) (mq_s (mq_t (mq_a (mq_a (mq_m q1 (mq_m q1 q1)) (mq_m (mq_r (x := (a0 : Int))) q1)) (mq_r (x := (b0 : Int)))) ?_))
    have h1 : mq_ p ((s : Int) ^ 6 * (y * y)) ((s : Int) ^ 6 * (x * (x * x) + a * x + b)) := mq_m mq_r h
    have h2 : mq_ p ((s : Int) ^ 6 * (x * (x * x) + a * x + b)) ((s : Int) ^ 6 * (x * (x * x) + (t : Int) ^ 4 * a0 * x + (t : Int) ^ 6 * b0)) := mq_m mq_r (mq_a (mq_a mq_r (mq_m qa mq_r)) qb)
    have e1 : (s : Int) ^ 6 * (x * (x * x) + (t : Int) ^ 4 * a0 * x + (t : Int) ^ 6 * b0) = (s : Int) * s * x * (s * s * x * (s * s * x)) + (t : Int) * s * (t * s) * (t * s * (t * s)) * (a0 * (s * s * x)) + (t : Int) * s * (t * s) * (t * s) * (t * s * (t * s) * (t * s)) * b0 := by grind
    have h3 : mq_ p ((s : Int) * s * x * (s * s * x * (s * s * x)) + (t : Int) * s * (t * s) * (t * s * (t * s)) * (a0 * (s * s * x)) + (t : Int) * s * (t * s) * (t * s) * (t * s * (t * s) * (t * s)) * b0) ((s : Int) * s * x * (s * s * x * (s * s * x)) + 1 * (a0 * (s * s * x)) + 1 * b0) := mq_a (mq_a mq_r (mq_m s4 mq_r)) (mq_m s6 mq_r)
    rw [e1] at h2
    rw [Int.one_mul, Int.one_mul] at h3
    have e2 : (s : Int) * s * s * y * (s * s * s * y) = (s : Int) ^ 6 * (y * y) := by grind
    rw [e2]
    exact mq_s (mq_t h1 (mq_t h2 h3))
  · refine mq_eq (Nat.mod_lt _ hp0) hx (mq_t (ec_x2 p t _) (mq_t (mq_m mq_r (ec_x2 p s x)) ?_))
    have e1 : (t : Int) * t * (s * s * x) = (t : Int) * s * (t * s) * x := by grind
    have h1 : mq_ p ((t : Int) * s * (t * s) * x) (1 * x) := mq_m s2 mq_r
    rw [Int.one_mul] at h1
    rw [e1]; exact h1
  · refine mq_eq (Nat.mod_lt _ hp0) hy (mq_t (ec_y3 p t _) (mq_t (mq_m mq_r (ec_y3 p s y)) ?_))
    have e1 : (t : Int) * t * t * (s * s * s * y) = (t : Int) * s * (t * s) * (t * s) * y := by grind
    have h1 : mq_ p ((t : Int) * s * (t * s) * (t * s) * y) (1 * y) := mq_m s3 mq_r
    rw [Int.one_mul] at h1
    rw [e1]; exact h1
theorem ec_mn {p : Nat} (hp : ec_P p) {x y : Int} (hx : ¬ mq_ p x 0) (hy : ¬ mq_ p y 0) : ¬ mq_ p (x * y) 0 := by
  intro z
  have e : x * 0 = 0 := Int.mul_zero x
  exact hy (mq_can hp hx (e.symm ▸ z))
theorem ec_T3 {p a b0 a0 t x y u v : Nat} (hp : ec_P p) (h0 : 0 < t) (ht : t < p) (qa : mq_ p (a : Int) ((t : Int) ^ 4 * a0)) (hx : x < p) (hy : y < p) (hu : u < p) (hv : v < p) (hP : ec_on p a0 b0 x y) (hQ : ec_on p a0 b0 u v) :
    ec_ad2 p a (t * t * x % p) (t * t * t * y % p) (t * t * u % p) (t * t * t * v % p) = ec_ph p t (ec_ad2 p a0 x y u v) := by
  have b := ec_P_b hp
  have hp0 : 0 < p := by omega
  have n1 := ec_tn h0 ht
  have n2 := ec_mn hp n1 n1
  have n3 := ec_mn hp n2 n1
  have qx := ec_x2 p t x
  have qu := ec_x2 p t u
  have qy := ec_y3 p t y
  have qv := ec_y3 p t v
  have kx : t * t * x % p = t * t * u % p → x = u := by
    intro e
    rw [e] at qx
    exact mq_eq hx hu (mq_can hp n2 (mq_t (mq_s qx) qu))
  have ks : mq_ p ((t * t * t * y % p + t * t * t * v % p : Nat) : Int) ((t : Int) * t * t * ((y : Int) + v)) := by
    have e : (t : Int) * t * t * ((y : Int) + v) = (t : Int) * t * t * y + (t : Int) * t * t * v := by grind
    rw [Int.natCast_add, e]
    exact mq_a qy qv
  by_cases hz : x = u ∧ (y + v) % p = 0
  · rw [ec_ad2_O hz.1 hz.2, ec_ph_0]
    refine ec_ad2_O (by rw [hz.1]) (mq_0.mp (mq_t ks ?_))
    have z : mq_ p ((y : Int) + v) 0 := by rw [← Int.natCast_add]; exact mq_0.mpr hz.2
    have e : (t : Int) * t * t * 0 = 0 := Int.mul_zero _
    have z1 := mq_m (mq_r (p := p) (x := (t : Int) * t * t)) z
    rwa [e] at z1
  · have ho : x = u → y = v := fun e => ec_opp hp hy hv hP (e ▸ hQ) (fun z => hz ⟨e, z⟩)
    obtain ⟨l, hl, s, e⟩ := ec_ad2_F (a := a0) hp hx hy hu hv hz ho
    have hz' : ¬ (t * t * x % p = t * t * u % p ∧ (t * t * t * y % p + t * t * t * v % p) % p = 0) := by
      rintro ⟨z1, z2⟩
      refine hz ⟨kx z1, ?_⟩
      have z3 := mq_t (mq_s ks) (mq_0.mpr z2)
      have e : (t : Int) * t * t * 0 = 0 := Int.mul_zero _
      have z4 : mq_ p ((y : Int) + v) 0 := mq_can hp n3 (e.symm ▸ z3)
      rw [← Int.natCast_add] at z4
      exact mq_0.mp z4
    have ho' : t * t * x % p = t * t * u % p → t * t * t * y % p = t * t * t * v % p := by
      intro z
      rw [ho (kx z)]
    have ql : mq_ p ((t * l % p : Nat) : Int) ((t : Int) * l) := by
      have h := mq_nm p (t * l)
      rwa [Int.natCast_mul] at h
    have s' : ec_sl p a (t * t * x % p) (t * t * t * y % p) (t * t * u % p) (t * t * t * v % p) (t * l % p) := by
      constructor
      · intro z
        have w := s.1 (kx z)
        have w1 : mq_ p ((t : Int) ^ 4 * (2 * y * l)) ((t : Int) ^ 4 * (3 * ((x : Int) * x) + a0)) := mq_m mq_r w
        have e1 : (2 * ((t : Int) * t * t * y)) * ((t : Int) * l) = (t : Int) ^ 4 * (2 * y * l) := by grind
        have e2 : 3 * (((t : Int) * t * x) * ((t : Int) * t * x)) + (t : Int) ^ 4 * a0 = (t : Int) ^ 4 * (3 * ((x : Int) * x) + a0) := by grind
        refine mq_t (mq_m (mq_m mq_r qy) ql) (mq_s (mq_t (mq_a (mq_m mq_r (mq_m qx qx)) qa) ?_))
        rw [e1, e2]
        exact mq_s w1
      · intro z
        have z' : x ≠ u := fun q => z (by rw [q])
        have w := s.2 z'
        have w1 : mq_ p ((t : Int) ^ 3 * (((u : Int) - x) * l)) ((t : Int) ^ 3 * ((v : Int) - y)) := mq_m mq_r w
        have e1 : ((t : Int) * t * u - (t : Int) * t * x) * ((t : Int) * l) = (t : Int) ^ 3 * (((u : Int) - x) * l) := by grind
        have e2 : (t : Int) * t * t * v - (t : Int) * t * t * y = (t : Int) ^ 3 * ((v : Int) - y) := by grind
        refine mq_t (mq_m (mq_d qu qx) ql) (mq_s (mq_t (mq_d qv qy) ?_))
        rw [e1, e2]
        exact mq_s w1
    rw [e, ec_adF hp (Nat.mod_lt _ hp0) (Nat.mod_lt _ hp0) (Nat.mod_lt _ hp0) (Nat.mod_lt _ hp0) hz' ho' (Nat.mod_lt _ hp0) s']
    have hr : ec_r p x u l < p := ec_m_lt hp0 _
    have hs : ec_s p x y (ec_r p x u l) l < p := ec_m_lt hp0 _
    have er : ec_r p (t * t * x % p) (t * t * u % p) (t * l % p) = t * t * ec_r p x u l % p := by
      refine ec_m_of (Nat.mod_lt _ hp0) (mq_t (ec_x2 p t _) ?_)
      have w : mq_ p ((t : Int) * t * ((ec_r p x u l : Nat) : Int)) ((t : Int) * t * ((l : Int) * l - x - u)) := mq_m mq_r (ec_m_q hp0 _)
      have e1 : (t : Int) * l * (t * l) - t * t * x - t * t * u = (t : Int) * t * ((l : Int) * l - x - u) := by grind
      refine mq_t w (mq_s (mq_t (mq_d (mq_d (mq_m ql ql) qx) qu) ?_))
      rw [e1]
      exact mq_r
    have es : ec_s p (t * t * x % p) (t * t * t * y % p) (t * t * ec_r p x u l % p) (t * l % p) = t * t * t * ec_s p x y (ec_r p x u l) l % p := by
      refine ec_m_of (Nat.mod_lt _ hp0) (mq_t (ec_y3 p t _) ?_)
      have w : mq_ p ((t : Int) * t * t * ((ec_s p x y (ec_r p x u l) l : Nat) : Int)) ((t : Int) * t * t * ((l : Int) * ((x : Int) - (ec_r p x u l : Nat)) - y)) := mq_m mq_r (ec_m_q hp0 _)
      have e1 : (t : Int) * l * ((t : Int) * t * x - (t : Int) * t * (ec_r p x u l : Nat)) - (t : Int) * t * t * y = (t : Int) * t * t * ((l : Int) * ((x : Int) - (ec_r p x u l : Nat)) - y) := by grind
      refine mq_t w (mq_s (mq_t (mq_d (mq_m ql (mq_d qx (ec_x2 p t _))) qy) ?_))
      rw [e1]
      exact mq_r
    show 64 * ec_r p (t * t * x % p) (t * t * u % p) (t * l % p) + ec_s p (t * t * x % p) (t * t * t * y % p) (ec_r p (t * t * x % p) (t * t * u % p) (t * l % p)) (t * l % p) = ec_ph p t (64 * ec_r p x u l + ec_s p x y (ec_r p x u l) l)
    rw [ec_ph_c b.2 hr hs, er, es]
theorem ec_carry {p a b a0 b0 t : Nat} (hp : ec_P p) (h0 : 0 < t) (ht : t < p) (ea : t ^ 4 * a0 % p = a) (eb : t ^ 6 * b0 % p = b) (h : ec_G p a0 b0) : ec_G p a b := by
  have b' := ec_P_b hp
  have hp0 : 0 < p := by omega
  have qa : mq_ p (a : Int) ((t : Int) ^ 4 * a0) := by
    have q := mq_nm p (t ^ 4 * a0)
    rw [ea, Int.natCast_mul, Int.natCast_pow] at q
    exact q
  have qb : mq_ p (b : Int) ((t : Int) ^ 6 * b0) := by
    have q := mq_nm p (t ^ 6 * b0)
    rw [eb, Int.natCast_mul, Int.natCast_pow] at q
    exact q
  have k1 : ∀ P, ec_pt p a0 b0 P → ec_pt p a b (ec_ph p t P) := by
    intro P hP
    by_cases n : P = 4095
    · rw [n, ec_ph_0]; exact Or.inl rfl
    · obtain ⟨x, y, hx, hy, e, ho⟩ := ec_pt_n hP n
      rw [e, ec_ph_c b'.2 hx hy]
      exact ec_pt_c b'.2 (Nat.mod_lt _ hp0) (Nat.mod_lt _ hp0) (ec_T1 qa qb ho)
  have k2 : ∀ Q, ec_pt p a b Q → ∃ P, ec_pt p a0 b0 P ∧ ec_ph p t P = Q := by
    intro Q hQ
    by_cases n : Q = 4095
    · exact ⟨4095, Or.inl rfl, by rw [n]; exact ec_ph_0 p t⟩
    · obtain ⟨x, y, hx, hy, e, ho⟩ := ec_pt_n hQ n
      obtain ⟨x0, y0, h1, h2, h3, h4, h5⟩ := ec_T2 hp h0 ht qa qb hx hy ho
      refine ⟨64 * x0 + y0, ec_pt_c b'.2 h1 h2 h3, ?_⟩
      rw [ec_ph_c b'.2 h1 h2, h4, h5, e]
  have k3 : ∀ P Q, ec_pt p a0 b0 P → ec_pt p a0 b0 Q → ec_ad p a (ec_ph p t P) (ec_ph p t Q) = ec_ph p t (ec_ad p a0 P Q) := by
    intro P Q hP hQ
    by_cases n : P = 4095
    · rw [n, ec_ph_0, ec_ad_0, ec_ad_0]
    · by_cases m : Q = 4095
      · rw [m, ec_ph_0, ec_ad_z, ec_ad_z]
      · obtain ⟨x, y, hx, hy, e, ho⟩ := ec_pt_n hP n
        obtain ⟨u, v, hu, hv, f, go⟩ := ec_pt_n hQ m
        rw [e, f, ec_ph_c b'.2 hx hy, ec_ph_c b'.2 hu hv, ec_ad_c b'.2 (Nat.mod_lt _ hp0) (Nat.mod_lt _ hp0) (Nat.mod_lt _ hp0) (Nat.mod_lt _ hp0), ec_ad_c b'.2 hx hy hu hv]
        exact ec_T3 hp h0 ht qa hx hy hu hv ho go
  refine ⟨?_, ?_⟩
  · intro P1 Q1 hP hQ
    obtain ⟨P, g1, rfl⟩ := k2 P1 hP
    obtain ⟨Q, g2, rfl⟩ := k2 Q1 hQ
    rw [k3 P Q g1 g2]
    exact k1 _ (h.1 P Q g1 g2)
  · intro P1 Q1 R1 hP hQ hR
    obtain ⟨P, g1, rfl⟩ := k2 P1 hP
    obtain ⟨Q, g2, rfl⟩ := k2 Q1 hQ
    obtain ⟨R, g3, rfl⟩ := k2 R1 hR
    rw [k3 P Q g1 g2, k3 Q R g2 g3, k3 _ R (h.1 P Q g1 g2) g3, k3 P _ g1 (h.1 Q R g2 g3), h.2 P Q R g1 g2 g3]
theorem ec_allof {p : Nat} {l : List Nat} (hp : ec_P p) (hK : ec_GL p l) (hC : ec_rep p l = true) {a b : Nat} (ha : a < p) (hb : b < p) (hn : (4 * (a * (a * a)) + 27 * (b * b)) % p ≠ 0) : ec_G p a b := by
  have b' := ec_P_b hp
  obtain ⟨c, t, hc, h0, ht, e1, e2⟩ := ec_rep_t (by omega) (by omega) hC ha hb hn
  exact ec_carry hp h0 ht e1 e2 (hK c hc)
theorem ec_every {p a b : Nat} (hp : ec_P p) (ha : a < p) (hb : b < p) (hn : (4 * (a * (a * a)) + 27 * (b * b)) % p ≠ 0) : ec_G p a b := by
  have h := hp
  rcases h with rfl | rfl | rfl | rfl | rfl | rfl | rfl | rfl | rfl | rfl | rfl | rfl | rfl | rfl | rfl | rfl
  · exact ec_allof hp ec_K5 ec_C5 ha hb hn
  · exact ec_allof hp ec_K7 ec_C7 ha hb hn
  · exact ec_allof hp ec_K11 ec_C11 ha hb hn
  · exact ec_allof hp ec_K13 ec_C13 ha hb hn
  · exact ec_allof hp ec_K17 ec_C17 ha hb hn
  · exact ec_allof hp ec_K19 ec_C19 ha hb hn
  · exact ec_allof hp ec_K23 ec_C23 ha hb hn
  · exact ec_allof hp ec_K29 ec_C29 ha hb hn
  · exact ec_allof hp ec_K31 ec_C31 ha hb hn
  · exact ec_allof hp ec_K37 ec_C37 ha hb hn
  · exact ec_allof hp ec_K41 ec_C41 ha hb hn
  · exact ec_allof hp ec_K43 ec_C43 ha hb hn
  · exact ec_allof hp ec_K47 ec_C47 ha hb hn
  · exact ec_allof hp ec_K53 ec_C53 ha hb hn
  · exact ec_allof hp ec_K59 ec_C59 ha hb hn
  · exact ec_allof hp ec_K61 ec_C61 ha hb hn
