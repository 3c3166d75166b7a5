/-! the field of p elements by congruences, the sum by its slope, and curves carried over by (t^2 x, t^3 y) -/
def ec_P (p : Nat) : Prop := p = 5 ∨ p = 7 ∨ p = 11 ∨ p = 13 ∨ p = 17 ∨ p = 19 ∨ p = 23 ∨ p = 29 ∨ p = 31 ∨ p = 37 ∨ p = 41 ∨ p = 43 ∨ p = 47 ∨ p = 53 ∨ p = 59 ∨ p = 61
theorem ec_P_b {p : Nat} (h : ec_P p) : 5 ≤ p ∧ p ≤ 61 := by unfold ec_P at h; omega
theorem ec_inv0 {p : Nat} (h : ec_P p) : ∀ w, w < p → 0 < w → w * w ^ (p - 2) % p = 1 := by
  rcases h with rfl | rfl | rfl | rfl | rfl | rfl | rfl | rfl | rfl | rfl | rfl | rfl | rfl | rfl | rfl | rfl <;> decide +kernel
theorem ec_inv1 {p w : Nat} (h : ec_P p) (hw : w % p ≠ 0) : w * w ^ (p - 2) % p = 1 := by
  have b := ec_P_b h
  have e := ec_inv0 h (w % p) (Nat.mod_lt _ (by omega)) (by omega)
  rw [Nat.mul_mod, Nat.pow_mod] at e ⊢
  rw [Nat.mod_mod] at e
  exact e
def mq_ (p : Nat) (x y : Int) : Prop := ∃ k : Int, x = y + p * k
theorem mq_e {p : Nat} {x y : Int} (h : x = y) : mq_ p x y := ⟨0, by rw [h, Int.mul_zero, Int.add_zero]⟩
theorem mq_r {p : Nat} {x : Int} : mq_ p x x := mq_e rfl
theorem mq_s {p : Nat} {x y : Int} (h : mq_ p x y) : mq_ p y x := by
  obtain ⟨k, e⟩ := h
  exact ⟨-k, by rw [e]; grind⟩
theorem mq_t {p : Nat} {x y z : Int} (h : mq_ p x y) (g : mq_ p y z) : mq_ p x z := by
  obtain ⟨k, e⟩ := h
  obtain ⟨l, f⟩ := g
  exact ⟨k + l, by rw [e, f]; grind⟩
theorem mq_a {p : Nat} {x y z w : Int} (h : mq_ p x y) (g : mq_ p z w) : mq_ p (x + z) (y + w) := by
  obtain ⟨k, e⟩ := h
  obtain ⟨l, f⟩ := g
  exact ⟨k + l, by rw [e, f]; grind⟩
theorem mq_d {p : Nat} {x y z w : Int} (h : mq_ p x y) (g : mq_ p z w) : mq_ p (x - z) (y - w) := by
  obtain ⟨k, e⟩ := h
  obtain ⟨l, f⟩ := g
  exact ⟨k - l, by rw [e, f]; grind⟩
theorem mq_m {p : Nat} {x y z w : Int} (h : mq_ p x y) (g : mq_ p z w) : mq_ p (x * z) (y * w) := by
  obtain ⟨k, e⟩ := h
  obtain ⟨l, f⟩ := g
  exact ⟨y * l + k * w + p * k * l, by rw [e, f]; grind⟩
theorem mq_i {p : Nat} {x y : Int} (h : mq_ p x y) : x % (p : Int) = y % (p : Int) := by
  obtain ⟨k, e⟩ := h
  rw [e, Int.add_mul_emod_self_left]
theorem mq_mod {p x y : Nat} : mq_ p (x : Int) (y : Int) ↔ x % p = y % p := by
  constructor
  · intro h
    have e := mq_i h
    exact_mod_cast e
  · intro h
    have e1 := Nat.div_add_mod x p
    have e2 := Nat.div_add_mod y p
    have f1 : (p : Int) * ((x / p : Nat) : Int) + ((x % p : Nat) : Int) = (x : Int) := by exact_mod_cast e1
    have f2 : (p : Int) * ((y / p : Nat) : Int) + ((y % p : Nat) : Int) = (y : Int) := by exact_mod_cast e2
    rw [h] at f1
    refine ⟨((x / p : Nat) : Int) - ((y / p : Nat) : Int), ?_⟩
    rw [← f1, ← f2]
    grind
theorem mq_eq {p x y : Nat} (hx : x < p) (hy : y < p) (h : mq_ p (x : Int) (y : Int)) : x = y := by
  have e := mq_mod.mp h
  rwa [Nat.mod_eq_of_lt hx, Nat.mod_eq_of_lt hy] at e
theorem mq_nm (p x : Nat) : mq_ p ((x % p : Nat) : Int) (x : Int) := mq_mod.mpr (Nat.mod_mod _ _)
theorem mq_0 {p x : Nat} : mq_ p (x : Int) 0 ↔ x % p = 0 := by
  have h := mq_mod (p := p) (x := x) (y := 0)
  rw [Nat.zero_mod] at h
  exact h
def ec_m (p : Nat) (z : Int) : Nat := (z % (p : Int)).toNat
theorem ec_m_c {p : Nat} (hp : 0 < p) (z : Int) : ((ec_m p z : Nat) : Int) = z % (p : Int) := by
  unfold ec_m
  exact Int.toNat_of_nonneg (Int.emod_nonneg _ (by omega))
theorem ec_m_lt {p : Nat} (hp : 0 < p) (z : Int) : ec_m p z < p := by
  have h := ec_m_c hp z
  have g := Int.emod_lt_of_pos z (b := (p : Int)) (by omega)
  omega
theorem ec_m_q {p : Nat} (hp : 0 < p) (z : Int) : mq_ p ((ec_m p z : Nat) : Int) z := by
  refine ⟨-(z / (p : Int)), ?_⟩
  rw [ec_m_c hp, Int.emod_def]
  grind
theorem ec_m_e {p : Nat} {z w : Int} (h : mq_ p z w) : ec_m p z = ec_m p w := by
  unfold ec_m
  rw [mq_i h]
theorem ec_m_n (p x : Nat) : ec_m p (x : Int) = x % p := by
  unfold ec_m
  have e : ((x : Int) % (p : Int)) = ((x % p : Nat) : Int) := (Int.natCast_emod x p).symm
  rw [e]
  exact Int.toNat_natCast _
theorem ec_m_id {p x : Nat} (h : x < p) : ec_m p (x : Int) = x := by rw [ec_m_n, Nat.mod_eq_of_lt h]
theorem ec_m_of {p x : Nat} {z : Int} (hx : x < p) (h : mq_ p (x : Int) z) : ec_m p z = x := by
  rw [← ec_m_e h, ec_m_id hx]
theorem mq_inv {p : Nat} (hp : ec_P p) {w : Int} (hw : ¬ mq_ p w 0) : ∃ w' : Int, mq_ p (w * w') 1 := by
  have b := ec_P_b hp
  have q := ec_m_q (p := p) (by omega) w
  have hn : ec_m p w % p ≠ 0 := by
    intro h
    exact hw (mq_t (mq_s q) (mq_0.mpr h))
  have e := ec_inv1 hp hn
  have e1 : mq_ p ((ec_m p w * ec_m p w ^ (p - 2) : Nat) : Int) ((1 : Nat) : Int) := mq_mod.mpr (by rw [e, Nat.mod_eq_of_lt (by omega)])
  refine ⟨((ec_m p w ^ (p - 2) : Nat) : Int), mq_t (mq_m (mq_s q) mq_r) ?_⟩
  rw [← Int.natCast_mul]
  exact e1
theorem mq_can {p : Nat} (hp : ec_P p) {w x y : Int} (hw : ¬ mq_ p w 0) (h : mq_ p (w * x) (w * y)) : mq_ p x y := by
  obtain ⟨w', e⟩ := mq_inv hp hw
  have h1 : mq_ p (w' * (w * x)) (w' * (w * y)) := mq_m mq_r h
  have h2 : mq_ p (w * w' * x) (1 * x) := mq_m e mq_r
  have h3 : mq_ p (w * w' * y) (1 * y) := mq_m e mq_r
  have h4 : w' * (w * x) = w * w' * x := by grind
  have h5 : w' * (w * y) = w * w' * y := by grind
  rw [h4, h5] at h1
  have h6 := mq_t (mq_s h2) (mq_t h1 h3)
  rwa [Int.one_mul, Int.one_mul] at h6
theorem ec_on_q {p a b x y : Nat} : ec_on p a b x y ↔ mq_ p ((y : Int) * y) ((x : Int) * (x * x) + a * x + b) := by
  have h := mq_mod (p := p) (x := y * y) (y := x * (x * x) + a * x + b)
  have e1 : ((y * y : Nat) : Int) = (y : Int) * y := by first | rfl | (push_cast; rfl) | push_cast
  have e2 : ((x * (x * x) + a * x + b : Nat) : Int) = (x : Int) * (x * x) + a * x + b := by first | rfl | (push_cast; rfl) | push_cast
  rw [e1, e2] at h
  exact h.symm
theorem ec_opp {p a b x y v : Nat} (hp : ec_P p) (hy : y < p) (hv : v < p) (h : ec_on p a b x y) (g : ec_on p a b x v) (n : ¬ (y + v) % p = 0) : y = v := by
  have q := mq_t (ec_on_q.mp h) (mq_s (ec_on_q.mp g))
  have n1 : ¬ mq_ p ((y : Int) + v) 0 := by
    intro z
    have z1 : mq_ p ((y + v : Nat) : Int) 0 := by rw [Int.natCast_add]; exact z
    exact n (mq_0.mp z1)
  refine mq_eq hy hv (mq_can hp n1 ?_)
  have h1 := mq_a q (mq_r (p := p) (x := (y : Int) * v))
  have e1 : ((y : Int) + v) * y = y * y + y * v := by grind
  have e2 : ((y : Int) + v) * v = v * v + y * v := by grind
  rw [e1, e2]
  exact h1
def ec_r (p x u l : Nat) : Nat := ec_m p ((l : Int) * l - x - u)
def ec_s (p x y r l : Nat) : Nat := ec_m p ((l : Int) * ((x : Int) - r) - y)
def ec_F (p x y u l : Nat) : Nat := 64 * ec_r p x u l + ec_s p x y (ec_r p x u l) l
theorem ec_fin_F {p x y u l : Nat} (hx : x < p) (hy : y < p) (hu : u < p) : ec_fin p x y u l = ec_F p x y u l := by
  have e1 : (l * l + ((p - x) + (p - u))) % p = ec_r p x u l := by
    unfold ec_r
    rw [← ec_m_n]
    refine ec_m_e ⟨2, ?_⟩
    have c1 : ((p - x : Nat) : Int) = (p : Int) - x := by omega
    have c2 : ((p - u : Nat) : Int) = (p : Int) - u := by omega
    rw [Int.natCast_add, Int.natCast_add, c1, c2, Int.natCast_mul]
    grind
  have hr : ec_r p x u l < p := ec_m_lt (by omega) _
  have e2 : ∀ r, r < p → (l * ((x + p) - r) + (p - y)) % p = ec_s p x y r l := by
    intro r hr
    unfold ec_s
    rw [← ec_m_n]
    refine ec_m_e ⟨(l : Int) + 1, ?_⟩
    have c1 : ((x + p - r : Nat) : Int) = (x : Int) + p - r := by omega
    have c2 : ((p - y : Nat) : Int) = (p : Int) - y := by omega
    rw [Int.natCast_add, Int.natCast_mul, c1, c2]
    grind
  show 64 * ((l * l + ((p - x) + (p - u))) % p) + (l * ((x + p) - ((l * l + ((p - x) + (p - u))) % p)) + (p - y)) % p = _
  rw [e1, e2 _ hr]
  rfl
/-- l is the slope of the line through (x, y) and (u, v), or of the tangent -/
def ec_sl (p a x y u v l : Nat) : Prop := (x = u → mq_ p (2 * (y : Int) * l) (3 * ((x : Int) * x) + a)) ∧ (x ≠ u → mq_ p (((u : Int) - x) * l) ((v : Int) - y))
theorem ec_ne {p x u : Nat} (hx : x < p) (hu : u < p) (h : x ≠ u) : ¬ mq_ p ((u : Int) - x) 0 := by
  intro z
  have z1 := mq_a z (mq_r (p := p) (x := (x : Int)))
  have e1 : (u : Int) - x + x = u := by grind
  have e2 : (0 : Int) + x = x := by grind
  rw [e1, e2] at z1
  exact h (mq_eq hu hx z1).symm
theorem ec_2y {p y : Nat} (h : ¬ (y + y) % p = 0) : ¬ mq_ p (2 * (y : Int)) 0 := by
  intro z
  have e : (2 * (y : Int)) = ((y + y : Nat) : Int) := by omega
  rw [e] at z
  exact h (mq_0.mp z)
theorem ec_div {p w z : Nat} (hp : ec_P p) (hw : ¬ w % p = 0) : mq_ p ((w : Int) * ((z * w ^ (p - 2) % p : Nat) : Int)) (z : Int) := by
  have b := ec_P_b hp
  have e := ec_inv1 hp hw
  have e1 : mq_ p ((w * w ^ (p - 2) : Nat) : Int) ((1 : Nat) : Int) := mq_mod.mpr (by rw [e, Nat.mod_eq_of_lt (by omega)])
  have q1 : mq_ p ((w : Int) * ((z * w ^ (p - 2) % p : Nat) : Int)) ((w : Int) * ((z * w ^ (p - 2) : Nat) : Int)) := mq_m mq_r (mq_nm _ _)
  refine mq_t q1 ?_
  have q2 : mq_ p ((z : Int) * ((w * w ^ (p - 2) : Nat) : Int)) ((z : Int) * ((1 : Nat) : Int)) := mq_m mq_r e1
  have e2 : (w : Int) * ((z * w ^ (p - 2) : Nat) : Int) = (z : Int) * ((w * w ^ (p - 2) : Nat) : Int) := by
    rw [Int.natCast_mul, Int.natCast_mul]; grind
  have e3 : (z : Int) * ((1 : Nat) : Int) = z := Int.mul_one _
  rw [e2]
  rw [e3] at q2
  exact q2
theorem ec_ad2_O {p a x y u v : Nat} (h : x = u) (g : (y + v) % p = 0) : ec_ad2 p a x y u v = 4095 := by
  have h1 : Nat.beq x u = true := by rw [h]; exact Nat.beq_refl u
  have h2 : Nat.beq (Nat.mod (Nat.add y v) p) 0 = true := by
    show Nat.beq ((y + v) % p) 0 = true
    rw [g]; rfl
  unfold ec_ad2
  rw [h1, h2] <;> rfl
theorem ec_bf {x u : Nat} (h : x ≠ u) : Nat.beq x u = false := by
  cases q : Nat.beq x u with
  | false => rfl
  | true => exact absurd (Nat.eq_of_beq_eq_true q) h
theorem ec_ad2_F {p a x y u v : Nat} (hp : ec_P p) (hx : x < p) (hy : y < p) (hu : u < p) (hv : v < p) (h : ¬ (x = u ∧ (y + v) % p = 0)) (ho : x = u → y = v) : ∃ l, l < p ∧ ec_sl p a x y u v l ∧ ec_ad2 p a x y u v = ec_F p x y u l := by
  have b := ec_P_b hp
  by_cases e : x = u
  · have hn : ¬ (y + v) % p = 0 := fun z => h ⟨e, z⟩
    have h1 : Nat.beq x u = true := by rw [e]; exact Nat.beq_refl u
    have h2 : Nat.beq (Nat.mod (Nat.add y v) p) 0 = false := ec_bf hn
    refine ⟨(3 * (x * x) + a) * (2 * y) ^ (p - 2) % p, Nat.mod_lt _ (by omega), ⟨fun _ => ?_, fun z => absurd e z⟩, ?_⟩
    · have hw : ¬ (2 * y) % p = 0 := by
        have z := ho e
        rw [← z] at hn
        rwa [Nat.two_mul]
      have q := ec_div (z := 3 * (x * x) + a) hp hw
      have e1 : ((2 * y : Nat) : Int) = 2 * (y : Int) := by first | rfl | (push_cast; rfl) | push_cast
      have e2 : ((3 * (x * x) + a : Nat) : Int) = 3 * ((x : Int) * x) + a := by first | rfl | (push_cast; rfl) | push_cast
      rw [e1, e2] at q
      exact q
    · rw [← ec_fin_F hx hy hu]
      unfold ec_ad2
      rw [h1, h2] <;> rfl
  · have h1 : Nat.beq x u = false := ec_bf e
    refine ⟨(v + p - y) * (u + p - x) ^ (p - 2) % p, Nat.mod_lt _ (by omega), ⟨fun z => absurd z e, fun _ => ?_⟩, ?_⟩
    · have c1 : ((u + p - x : Nat) : Int) = (u : Int) - x + p * 1 := by omega
      have c2 : ((v + p - y : Nat) : Int) = (v : Int) - y + p * 1 := by omega
      have d1 : mq_ p ((u + p - x : Nat) : Int) ((u : Int) - x) := ⟨1, c1⟩
      have d2 : mq_ p ((v + p - y : Nat) : Int) ((v : Int) - y) := ⟨1, c2⟩
      have hw : ¬ (u + p - x) % p = 0 := fun z => ec_ne hx hu e (mq_t (mq_s d1) (mq_0.mpr z))
      exact mq_t (mq_m (mq_s d1) mq_r) (mq_t (ec_div (z := v + p - y) hp hw) d2)
    · rw [← ec_fin_F hx hy hu]
      unfold ec_ad2
      rw [h1] <;> rfl
theorem ec_sl_u {p a x y u v l l' : Nat} (hp : ec_P p) (hx : x < p) (hu : u < p) (h : ¬ (x = u ∧ (y + v) % p = 0)) (ho : x = u → y = v) (hl : l < p) (hl' : l' < p) (s : ec_sl p a x y u v l) (s' : ec_sl p a x y u v l') : l = l' := by
  by_cases e : x = u
  · have hn : ¬ (y + y) % p = 0 := fun z => h ⟨e, by rw [← ho e]; exact z⟩
    exact mq_eq hl hl' (mq_can hp (ec_2y hn) (mq_t (s.1 e) (mq_s (s'.1 e))))
  · exact mq_eq hl hl' (mq_can hp (ec_ne hx hu e) (mq_t (s.2 e) (mq_s (s'.2 e))))
theorem ec_adF {p a x y u v l : Nat} (hp : ec_P p) (hx : x < p) (hy : y < p) (hu : u < p) (hv : v < p) (h : ¬ (x = u ∧ (y + v) % p = 0)) (ho : x = u → y = v) (hl : l < p) (s : ec_sl p a x y u v l) : ec_ad2 p a x y u v = ec_F p x y u l := by
  obtain ⟨l', hl', s', e⟩ := ec_ad2_F (a := a) hp hx hy hu hv h ho
  rw [e, ec_sl_u hp hx hu h ho hl hl' s s']
theorem ec_ad_0 (p a Q : Nat) : ec_ad p a 4095 Q = Q := rfl
theorem ec_ad_z (p a P : Nat) : ec_ad p a P 4095 = P := by
  cases q : Nat.beq P 4095 with
  | true =>
    have e := Nat.eq_of_beq_eq_true q
    rw [e]; rfl
  | false =>
    unfold ec_ad
    rw [q] <;> rfl
theorem ec_ad_n {p a P Q : Nat} (hP : P ≠ 4095) (hQ : Q ≠ 4095) : ec_ad p a P Q = ec_ad2 p a (P / 64) (P % 64) (Q / 64) (Q % 64) := by
  unfold ec_ad
  rw [ec_bf hP, ec_bf hQ] <;> rfl
theorem ec_cd {p x y : Nat} (hp : p ≤ 61) (hx : x < p) (hy : y < p) : 64 * x + y ≠ 4095 ∧ (64 * x + y) / 64 = x ∧ (64 * x + y) % 64 = y := by omega
theorem ec_ad_c {p a x y u v : Nat} (hp : p ≤ 61) (hx : x < p) (hy : y < p) (hu : u < p) (hv : v < p) : ec_ad p a (64 * x + y) (64 * u + v) = ec_ad2 p a x y u v := by
  have c1 := ec_cd hp hx hy
  have c2 := ec_cd hp hu hv
  rw [ec_ad_n c1.1 c2.1, c1.2.1, c1.2.2, c2.2.1, c2.2.2]
theorem ec_pt_n {p a b P : Nat} (h : ec_pt p a b P) (n : P ≠ 4095) : ∃ x y, x < p ∧ y < p ∧ P = 64 * x + y ∧ ec_on p a b x y := by
  rcases h with e | ⟨h1, h2, h3⟩
  · exact absurd e n
  · exact ⟨P / 64, P % 64, h1, h2, by omega, h3⟩
theorem ec_pt_c {p a b x y : Nat} (hp : p ≤ 61) (hx : x < p) (hy : y < p) (h : ec_on p a b x y) : ec_pt p a b (64 * x + y) := by
  have c1 := ec_cd hp hx hy
  refine Or.inr ?_
  rw [c1.2.1, c1.2.2]
  exact ⟨hx, hy, h⟩
