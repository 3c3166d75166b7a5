/-! the twist and the changes on both sides -/
theorem yw_rest0 {p : Nat} (p0 : 0 < p) (hp : p ≤ 1000) {f2 f3 f4 : Int32} {g1 g2 : Nat → Int32} {w : Int32} {z : Int} (e : w = zi_ z) (hz : zi_in z) {post : Int32 → Prop} (hq : post (nI (ec_m p z))) : wpY_rest post (nI p, f2, f3, f4, g1, g2) w := by
  have er := zi_rs (p := p) (a := z) p0 hp hz
  rw [← e] at er
  refine ⟨nI_ne0 p0 (by omega), nI_ne0 p0 (by omega), ?_⟩
  rw [er]; exact hq
theorem wk_on_e {p A B x y : Nat} (hb : 5 ≤ p ∧ p ≤ 61) (hx : x < 61) (hy : y < 61) (hA : A < 61) (hB : B < 61) :
    nI y * nI y - nI y * nI y / nI p * nI p = nI (y * y % p) ∧ nI x * nI x * nI x + nI A * nI x + nI B - (nI x * nI x * nI x + nI A * nI x + nI B) / nI p * nI p = nI ((x * (x * x) + A * x + B) % p) := by
  have b1 : y * y ≤ 61 * 61 := Nat.mul_le_mul (by omega) (by omega)
  have b2 : x * x ≤ 61 * 61 := Nat.mul_le_mul (by omega) (by omega)
  have b3 : x * (x * x) ≤ 61 * (61 * 61) := Nat.mul_le_mul (by omega) b2
  have b4 : A * x ≤ 61 * 61 := Nat.mul_le_mul (by omega) (by omega)
  refine ⟨by rw [wk_mul, wk_rem (by omega) (by omega)], ?_⟩
  rw [wk_mul, wk_mul, wk_mul, nI_add, nI_add, Nat.mul_assoc x x x, wk_rem (by omega) (by omega)]
theorem xw_on_t {p A B x y : Nat} (hb : 5 ≤ p ∧ p ≤ 61) (hx : x < 61) (hy : y < 61) (hA : A < 61) (hB : B < 61) (ho : ec_on p A B x y) {f2 f3 f4 : Int32} {g1 g2 : Nat → Int32} {post : Int32 → Prop} (hp : post 1) : wpX_isOnCurve post (nI p, f2, f3, f4, g1, g2) (nI x) (nI y) (nI A) (nI B) := by
  have e := wk_on_e hb hx hy hA hB
  refine ⟨nI_ne0 (by omega) (by omega), nI_ne0 (by omega) (by omega), br_t ?_ hp⟩
  rw [e.1, e.2]
  exact congrArg nI ho
theorem xw_on_f {p A B x y : Nat} (hb : 5 ≤ p ∧ p ≤ 61) (hx : x < 61) (hy : y < 61) (hA : A < 61) (hB : B < 61) (ho : ¬ ec_on p A B x y) {f2 f3 f4 : Int32} {g1 g2 : Nat → Int32} {post : Int32 → Prop} (hp : post 0) : wpX_isOnCurve post (nI p, f2, f3, f4, g1, g2) (nI x) (nI y) (nI A) (nI B) := by
  have e := wk_on_e hb hx hy hA hB
  refine ⟨nI_ne0 (by omega) (by omega), nI_ne0 (by omega) (by omega), br_f ?_ hp⟩
  rw [e.1, e.2]
  intro g
  have l1 : y * y % p < p := Nat.mod_lt _ (by omega)
  have l2 : (x * (x * x) + A * x + B) % p < p := Nat.mod_lt _ (by omega)
  exact ho ((nI_eq (by omega) (by omega)).mp g)
theorem ec_m_z {p : Nat} (p0 : 0 < p) {z : Int} : ec_m p z = 0 ↔ mq_ p z 0 := by
  constructor
  · intro g
    have q := ec_m_q p0 z
    rw [g] at q
    exact mq_s q
  · intro g
    exact ec_m_of p0 (mq_s g)
theorem mq_d0 {p : Nat} {x y : Int} : mq_ p (x - y) 0 ↔ mq_ p x y := by
  constructor
  · intro g
    have q := mq_a g (mq_r (p := p) (x := y))
    have e : x - y + y = x := by grind
    rw [e, Int.zero_add] at q
    exact q
  · intro g
    have q := mq_d g (mq_r (p := p) (x := y))
    rwa [Int.sub_self] at q
/-- the count of the points before row x -/
noncomputable def cg_tw (p A B : Nat) : Nat → Nat
  | 0 => 1
  | x + 1 => cg_tw p A B x + gp_cn (fun z => ec_onb p A B x z) p
section WKT
variable {p a b c : Nat} {ax ay : Nat → Int32}
/-- the least g that is no square -/
def cg_g (p g : Nat) : Prop := 2 ≤ g ∧ g < p - 1 ∧ cg_sq p g = true ∧ ∀ k, 1 ≤ k → k < g → ¬ cg_sq p k = true
theorem cg_g_e (hp : ec_P p) : ∃ g, cg_g p g := by
  have b' := ec_P_b hp
  obtain ⟨g1, h1, h2, h3⟩ := cg_ns hp
  obtain ⟨g, ⟨k1, k2⟩, k3⟩ := gp_least (fun g => 1 ≤ g ∧ cg_sq p g = true) ⟨g1, by omega, h3⟩
  have n1 : ¬ cg_sq p 1 = true := fun z => cg_sq_t.mp z 1 (by omega) rfl
  have l : g ≤ g1 := by
    rcases Nat.lt_or_ge g1 g with w | w
    · exact absurd ⟨by omega, h3⟩ (k3 g1 w)
    · exact w
  refine ⟨g, ?_, by omega, k2, fun k a1 a2 z => k3 k a2 ⟨a1, z⟩⟩
  rcases Nat.lt_or_ge 1 g with w | w
  · exact w
  · have e : g = 1 := by omega
    rw [e] at k2
    exact absurd k2 n1
theorem xw_sq (h : cg_L p a b c ax ay) {g : Nat} (hg : g < p) {r : Int32} (hr : (cg_sq p g = true ∧ r = 0) ∨ (¬ cg_sq p g = true ∧ r = 1)) {post : Int32 → Prop} (hp : post r) : wpX_isSquare post (nI p, nI a, nI b, nI c, ax, ay) (nI g) := by
  have q := wk_b h
  have lp : ∀ d k, k + d = p → (∀ z, z < k → ¬ z * z % p = g) → wX_isSquare_2 post (nI g) (nI p) (nI a) (nI b) (nI c) ax ay (d + 1) (nI k) := by
    intro d
    induction d with
    | zero =>
      intro k hk hn
      refine br_t (nI_le (by omega) (by omega)) ?_
      rcases hr with ⟨_, er⟩ | ⟨w, _⟩
      · rw [← er]; exact hp
      · refine absurd (cg_sq_t.mpr (fun z hz e => ?_)) w
        rw [Nat.mod_eq_of_lt hg] at e
        exact hn z (by omega) e
    | succ d ih =>
      intro k hk hn
      have b1 : k * k ≤ 61 * 61 := Nat.mul_le_mul (by omega) (by omega)
      have er : nI k * nI k - nI k * nI k / nI p * nI p = nI (k * k % p) := by rw [wk_mul, wk_rem (by omega) (by omega)]
      have l1 : k * k % p < p := Nat.mod_lt _ (by omega)
      refine br_f (nI_ge (by omega) (by omega)) ⟨nI_ne0 (by omega) (by omega), ?_⟩
      rw [er]
      by_cases e : k * k % p = g
      · refine br_t (by rw [e]) ?_
        rcases hr with ⟨w, _⟩ | ⟨_, er⟩
        · exact absurd (by rw [Nat.mod_eq_of_lt hg]; exact e) (cg_sq_t.mp w k (by omega))
        · rw [← er]; exact hp
      · refine br_f (fun t => e ((nI_eq (by omega) (by omega)).mp t)) (nm_r (nI_1 k) (ih (k + 1) (by omega) (fun z hz => ?_)))
        rcases Nat.lt_or_ge z k with w | w
        · exact hn z w
        · rw [show z = k by omega]; exact e
  have w := lp p 0 (by omega) (fun z hz => absurd hz (Nat.not_lt_zero z))
  rw [nI_0] at w
  exact ⟨_, w⟩
theorem yw_sq (h : cg_L p a b c ax ay) {g : Nat} (hg : g < p) {r : Int32} (hr : (cg_sq p g = true ∧ r = 0) ∨ (¬ cg_sq p g = true ∧ r = 1)) {post : Int32 → Prop} (hp : post r) : wpY_isSquare post (nI p, nI a, nI b, nI c, ax, ay) (nI g) := by
  have q := wk_b h
  have p0 : 0 < p := by omega
  have lp : ∀ d k, k + d = p → (∀ z, z < k → ¬ z * z % p = g) → wY_isSquare_2 post (nI g) (nI p) (nI a) (nI b) (nI c) ax ay (d + 1) (nI k) := by
    intro d
    induction d with
    | zero =>
      intro k hk hn
      refine br_t (nI_le (by omega) (by omega)) ?_
      rcases hr with ⟨_, er⟩ | ⟨w, _⟩
      · rw [← er]; exact hp
      · refine absurd (cg_sq_t.mpr (fun z hz e => ?_)) w
        rw [Nat.mod_eq_of_lt hg] at e
        exact hn z (by omega) e
    | succ d ih =>
      intro k hk hn
      have k0 : ec_m p ((k : Int) * k - g) = 0 ↔ k * k % p = g := by
        rw [ec_m_z p0, mq_d0, ← Int.natCast_mul, mq_mod, Nat.mod_eq_of_lt hg]
      have l1 : ec_m p ((k : Int) * k - g) < p := ec_m_lt p0 _
      refine br_f (nI_ge (by omega) (by omega)) ?_
      refine yw_rest h (z := (k : Int) * k - g) (by simp only [zi_n, zi_mul, zi_sub]) (zb_in (zb_s (zb_m (zb_n (N := 61) (by omega)) (zb_n (N := 61) (by omega))) (zb_n (N := 61) (by omega))) (by decide)) ?_
      by_cases e : k * k % p = g
      · refine br_t (by rw [k0.mpr e]; exact nI_0) ?_
        rcases hr with ⟨w, _⟩ | ⟨_, er⟩
        · exact absurd (by rw [Nat.mod_eq_of_lt hg]; exact e) (cg_sq_t.mp w k (by omega))
        · rw [← er]; exact hp
      · refine br_f (fun t => e (k0.mp ((wk_eq0 (by omega)).mp t))) (nm_r (nI_1 k) (ih (k + 1) (by omega) (fun z hz => ?_)))
        rcases Nat.lt_or_ge z k with w | w
        · exact hn z w
        · rw [show z = k by omega]; exact e
  have w := lp p 0 (by omega) (fun z hz => absurd hz (Nat.not_lt_zero z))
  rw [nI_0] at w
  exact ⟨_, w⟩
theorem xw_lns (h : cg_L p a b c ax ay) {g : Nat} (hg : cg_g p g) {post : Int32 → Prop} (hp : post (nI g)) : wpX_leastNonSquare post (nI p, nI a, nI b, nI c, ax, ay) := by
  have q := wk_b h
  obtain ⟨g1, g2, g3, g4⟩ := hg
  have e1 : nI p - 1 = nI (p - 1) := wk_sub (a := p) (b := 1) (by omega)
  have lp : ∀ d k, k + d = g → 2 ≤ k → wX_leastNonSquare_2 post (nI p) (nI a) (nI b) (nI c) ax ay (d + 1) (nI k) := by
    intro d
    induction d with
    | zero =>
      intro k hk k1
      have ek : k = g := by omega
      refine br_f (by rw [e1]; exact nI_ge (by omega) (by omega)) ?_
      refine xw_sq h (by omega) (Or.inl ⟨by rw [ek]; exact g3, rfl⟩) ?_
      refine br_t rfl ?_
      rw [ek]; exact hp
    | succ d ih =>
      intro k hk k1
      refine br_f (by rw [e1]; exact nI_ge (by omega) (by omega)) ?_
      refine xw_sq h (by omega) (Or.inr ⟨g4 k (by omega) (by omega), rfl⟩) ?_
      exact br_f wk_10 (nm_r (nI_1 k) (ih (k + 1) (by omega) (by omega)))
  have w := lp (g - 2) 2 (by omega) (by omega)
  exact ⟨_, w⟩
theorem xw_tw_l (h : cg_L p a b c ax ay) {A B : Nat} (hA : A < p) (hB : B < p) {post : Int32 → Prop} (hp : post (nI (cg_tw p A B p))) : ∀ d x, x + d = p → wX_twist_41 post (nI A) (nI B) (nI p) (nI a) (nI b) (nI c) ax ay (d + 1) (nI (cg_tw p A B x)) (nI x) := by
  have q := wk_b h
  intro d
  induction d with
  | zero =>
    intro x hx
    refine br_t (nI_le (by omega) (by omega)) ?_
    rw [show x = p by omega]; exact hp
  | succ d ih =>
    intro x hx
    refine br_f (nI_ge (by omega) (by omega)) ?_
    have nx := ih (x + 1) (by omega)
    have lp : ∀ d' y, y + d' = p → wX_twist_53 post (wX_twist_41 post (nI A) (nI B) (nI p) (nI a) (nI b) (nI c) ax ay (d + 1)) (nI A) (nI B) (nI x) (nI p) (nI a) (nI b) (nI c) ax ay (d' + 1) (nI (cg_tw p A B x + gp_cn (fun z => ec_onb p A B x z) y)) (nI y) := by
      intro d'
      induction d' with
      | zero =>
        intro y hy
        refine br_t (nI_le (by omega) (by omega)) (nm_r (nI_1 x) ?_)
        rw [show y = p by omega]; exact nx
      | succ d' ih' =>
        intro y hy
        have ny := ih' (y + 1) (by omega)
        refine br_f (nI_ge (by omega) (by omega)) ?_
        by_cases o : ec_on p A B x y
        · refine xw_on_t ⟨q.1, q.2.1⟩ (by omega) (by omega) (by omega) (by omega) o ?_
          rw [gp_cn_t (f := fun z => ec_onb p A B x z) (ec_onb_t.mpr o), ← Nat.add_assoc] at ny
          exact br_f wk_10 (nm_r (nI_1 _) (nm_r (nI_1 y) ny))
        · refine xw_on_f ⟨q.1, q.2.1⟩ (by omega) (by omega) (by omega) (by omega) o ?_
          rw [gp_cn_f (f := fun z => ec_onb p A B x z) (fun t => o (ec_onb_t.mp t))] at ny
          exact br_t rfl (nm_r (nI_1 y) ny)
    have w := lp p 0 (by omega)
    have e0 : gp_cn (fun z => ec_onb p A B x z) 0 = 0 := rfl
    rw [e0, Nat.add_zero, nI_0] at w
    exact ⟨_, w⟩
theorem xw_twist (h : cg_L p a b c ax ay) {g : Nat} (hg : cg_g p g) {post : Int32 → Prop} (hp : post (nI (cg_tw p (a * g * g % p) (b * g * g * g % p) p))) : wpX_twist post (nI p, nI a, nI b, nI c, ax, ay) := by
  have q := wk_b h
  have p0 : 0 < p := by omega
  have ha := h.1.2.1
  have hb := h.1.2.2.1
  have g2 := hg.2.1
  have b1 : a * g ≤ 61 * 61 := Nat.mul_le_mul (by omega) (by omega)
  have b2 : a * g * g ≤ 61 * 61 * 61 := Nat.mul_le_mul b1 (by omega)
  have b3 : b * g ≤ 61 * 61 := Nat.mul_le_mul (by omega) (by omega)
  have b4 : b * g * g ≤ 61 * 61 * 61 := Nat.mul_le_mul b3 (by omega)
  have b5 : b * g * g * g ≤ 61 * 61 * 61 * 61 := Nat.mul_le_mul b4 (by omega)
  have e1 : nI a * nI g * nI g - nI a * nI g * nI g / nI p * nI p = nI (a * g * g % p) := by rw [wk_mul, wk_mul, wk_rem (by omega) (by omega)]
  have e2 : nI b * nI g * nI g * nI g - nI b * nI g * nI g * nI g / nI p * nI p = nI (b * g * g * g % p) := by rw [wk_mul, wk_mul, wk_mul, wk_rem (by omega) (by omega)]
  have n0 := nI_ne0 p0 (show p < 2 ^ 31 by omega)
  unfold wpX_twist
  dsimp only
  refine xw_lns h hg ?_
  refine ⟨n0, nm_r e1 ⟨n0, nm_r e2 ?_⟩⟩
  have w := xw_tw_l h (Nat.mod_lt (a * g * g) p0) (Nat.mod_lt (b * g * g * g) p0) hp p 0 (by omega)
  rw [nI_0] at w
  exact ⟨_, w⟩
theorem yw_tw_l (h : cg_L p a b c ax ay) {g A D B : Nat} (hg : g < p) (hA : A < p) (hD : D < p) (hB : B < p) (eB : mq_ p ((D : Int) * g) B) {post : Int32 → Prop} (hp : post (nI (cg_tw p A B p))) : ∀ d x, x + d = p → wY_twist_48 post (nI g) (nI A) (nI D) (nI p) (nI a) (nI b) (nI c) ax ay (d + 1) (nI (cg_tw p A B x)) (nI x) := by
  have q := wk_b h
  have p0 : 0 < p := by omega
  intro d
  induction d with
  | zero =>
    intro x hx
    refine br_t (nI_le (by omega) (by omega)) ?_
    rw [show x = p by omega]; exact hp
  | succ d ih =>
    intro x hx
    refine br_f (nI_ge (by omega) (by omega)) ?_
    have nx := ih (x + 1) (by omega)
    have lp : ∀ d' y, y + d' = p → wY_twist_60 post (wY_twist_48 post (nI g) (nI A) (nI D) (nI p) (nI a) (nI b) (nI c) ax ay (d + 1)) (nI g) (nI A) (nI D) (nI x) (nI p) (nI a) (nI b) (nI c) ax ay (d' + 1) (nI (cg_tw p A B x + gp_cn (fun z => ec_onb p A B x z) y)) (nI y) := by
      intro d'
      induction d' with
      | zero =>
        intro y hy
        refine br_t (nI_le (by omega) (by omega)) (nm_r (nI_1 x) ?_)
        rw [show y = p by omega]; exact nx
      | succ d' ih' =>
        intro y hy
        have ny := ih' (y + 1) (by omega)
        have k0 : ec_m p ((y : Int) * y - x * x * x - A * x - D * g) = 0 ↔ ec_on p A B x y := by
          rw [ec_m_z p0, ec_on_q]
          have e : (y : Int) * y - x * x * x - A * x - D * g = (y : Int) * y - (x * (x * x) + A * x + D * g) := by grind
          rw [e, mq_d0]
          constructor
          · intro t; exact mq_t t (mq_a mq_r eB)
          · intro t; exact mq_t t (mq_a mq_r (mq_s eB))
        have l1 : ec_m p ((y : Int) * y - x * x * x - A * x - D * g) < p := ec_m_lt p0 _
        refine br_f (nI_ge (by omega) (by omega)) ?_
        refine yw_rest h (z := (y : Int) * y - x * x * x - A * x - D * g) (by simp only [zi_n, zi_mul, zi_sub]) (zb_in (zb_s (zb_s (zb_s (zb_m (zb_n (N := 61) (by omega)) (zb_n (N := 61) (by omega))) (zb_m (zb_m (zb_n (N := 61) (by omega)) (zb_n (N := 61) (by omega))) (zb_n (N := 61) (by omega)))) (zb_m (zb_n (N := 61) (by omega)) (zb_n (N := 61) (by omega)))) (zb_m (zb_n (N := 61) (by omega)) (zb_n (N := 61) (by omega)))) (by decide)) ?_
        by_cases o : ec_on p A B x y
        · rw [gp_cn_t (f := fun z => ec_onb p A B x z) (ec_onb_t.mpr o), ← Nat.add_assoc] at ny
          exact br_t (by rw [k0.mpr o]; exact nI_0) (nm_r (nI_1 _) (nm_r (nI_1 y) ny))
        · rw [gp_cn_f (f := fun z => ec_onb p A B x z) (fun t => o (ec_onb_t.mp t))] at ny
          exact br_f (fun t => o (k0.mp ((wk_eq0 (by omega)).mp t))) (nm_r (nI_1 y) ny)
    have w := lp p 0 (by omega)
    have e0 : gp_cn (fun z => ec_onb p A B x z) 0 = 0 := rfl
    rw [e0, Nat.add_zero, nI_0] at w
    exact ⟨_, w⟩
theorem yw_twist (h : cg_L p a b c ax ay) {g : Nat} (hg : cg_g p g) {post : Int32 → Prop} (hp : post (nI (cg_tw p (a * g * g % p) (b * g * g * g % p) p))) : wpY_twist post (nI p, nI a, nI b, nI c, ax, ay) := by
  have q := wk_b h
  have p0 : 0 < p := by omega
  have ha := h.1.2.1
  have hb := h.1.2.2.1
  obtain ⟨g1, g2, g3, g4⟩ := hg
  have eA : ec_m p ((a : Int) * g * g) = a * g * g % p := by rw [← Int.natCast_mul, ← Int.natCast_mul, ec_m_n]
  have eD : ec_m p ((b : Int) * g * g) = b * g * g % p := by rw [← Int.natCast_mul, ← Int.natCast_mul, ec_m_n]
  have qB : mq_ p (((b * g * g % p : Nat) : Int) * g) ((b * g * g * g % p : Nat) : Int) := by
    rw [← Int.natCast_mul, mq_mod, Nat.mod_mul_mod, Nat.mod_mod]
  have lp : ∀ d k, k + d = g → 1 ≤ k → wY_twist_2 post (nI p) (nI a) (nI b) (nI c) ax ay (d + 1) (nI k) := by
    intro d
    induction d with
    | zero =>
      intro k hk k1
      have ek : k = g := by omega
      rw [ek]
      unfold wY_twist_2
      refine yw_sq h (by omega) (Or.inl ⟨g3, rfl⟩) ?_
      refine br_t rfl ?_
      refine yw_rest h (z := (a : Int) * g * g) (by simp only [zi_n, zi_mul]) (zb_in (zb_m (zb_m (zb_n (N := 61) (by omega)) (zb_n (N := 61) (by omega))) (zb_n (N := 61) (by omega))) (by decide)) ?_
      refine yw_rest h (z := (b : Int) * g * g) (by simp only [zi_n, zi_mul]) (zb_in (zb_m (zb_m (zb_n (N := 61) (by omega)) (zb_n (N := 61) (by omega))) (zb_n (N := 61) (by omega))) (by decide)) ?_
      rw [eA, eD]
      have w := yw_tw_l h (show g < p by omega) (Nat.mod_lt (a * g * g) p0) (Nat.mod_lt (b * g * g) p0) (Nat.mod_lt (b * g * g * g) p0) qB hp p 0 (by omega)
      rw [nI_0] at w
      exact ⟨_, w⟩
    | succ d ih =>
      intro k hk k1
      unfold wY_twist_2
      refine yw_sq h (by omega) (Or.inr ⟨g4 k (by omega) (by omega), rfl⟩) ?_
      exact br_f wk_10 (nm_r (nI_1 k) (ih (k + 1) (by omega) (by omega)))
  have w := lp (g - 1) 1 (by omega) (by omega)
  exact ⟨_, w⟩
/-- u changes the curve to C, D -/
def cg_ch (p a b C D u : Nat) : Prop := a * (u * u % p * (u * u % p) % p) % p = C ∧ b * (u * u % p * (u * u % p) % p * (u * u % p) % p) % p = D
noncomputable def cg_cn (p a b C D k : Nat) : Nat := gp_cn (fun t => @decide (cg_ch p a b C D (t + 1)) (Classical.propDecidable _)) k
theorem cg_cn_t {p a b C D k : Nat} (g : cg_ch p a b C D (k + 1)) : cg_cn p a b C D (k + 1) = cg_cn p a b C D k + 1 := gp_cn_t (f := fun t => @decide (cg_ch p a b C D (t + 1)) (Classical.propDecidable _)) (@decide_eq_true _ (Classical.propDecidable _) g)
theorem cg_cn_f {p a b C D k : Nat} (g : ¬ cg_ch p a b C D (k + 1)) : cg_cn p a b C D (k + 1) = cg_cn p a b C D k := gp_cn_f (f := fun t => @decide (cg_ch p a b C D (t + 1)) (Classical.propDecidable _)) (fun t => g (@of_decide_eq_true _ (Classical.propDecidable _) t))
theorem xw_chg (h : cg_L p a b c ax ay) {C D : Nat} (hC : C < p) (hD : D < p) {post : Int32 → Prop} (hp : post (nI (cg_cn p a b C D (p - 1)))) : wpX_changes post (nI p, nI a, nI b, nI c, ax, ay) (nI C) (nI D) := by
  have q := wk_b h
  have p0 : 0 < p := by omega
  have ha := h.1.2.1
  have hb := h.1.2.2.1
  have n0 := nI_ne0 p0 (show p < 2 ^ 31 by omega)
  have mm : ∀ s t, s < p → t < p → nI s * nI t - nI s * nI t / nI p * nI p = nI (s * t % p) := by
    intro s t hs ht
    have b1 : s * t ≤ 61 * 61 := Nat.mul_le_mul (by omega) (by omega)
    rw [wk_mul, wk_rem (by omega) (by omega)]
  refine br_f (nI_pos (by omega)) (br_f (nI_ge hC (by omega)) (br_f (nI_pos (by omega)) (br_t (nI_lt hD (by omega)) ?_)))
  have lp : ∀ d k, k + d = p - 1 → wX_changes_31 post (nI C) (nI D) (nI p) (nI a) (nI b) (nI c) ax ay (d + 1) (nI (cg_cn p a b C D k)) (nI (k + 1)) := by
    intro d
    induction d with
    | zero =>
      intro k hk
      refine br_t (nI_le (by omega) (by omega)) ?_
      rw [show k = p - 1 by omega]; exact hp
    | succ d ih =>
      intro k hk
      have nx := ih (k + 1) (by omega)
      have l2 : (k + 1) * (k + 1) % p < p := Nat.mod_lt _ p0
      have l4 : (k + 1) * (k + 1) % p * ((k + 1) * (k + 1) % p) % p < p := Nat.mod_lt _ p0
      have l6 : (k + 1) * (k + 1) % p * ((k + 1) * (k + 1) % p) % p * ((k + 1) * (k + 1) % p) % p < p := Nat.mod_lt _ p0
      have la : a * ((k + 1) * (k + 1) % p * ((k + 1) * (k + 1) % p) % p) % p < p := Nat.mod_lt _ p0
      have lb : b * ((k + 1) * (k + 1) % p * ((k + 1) * (k + 1) % p) % p * ((k + 1) * (k + 1) % p) % p) % p < p := Nat.mod_lt _ p0
      refine br_f (nI_ge (by omega) (by omega)) ⟨n0, nm_r (mm _ _ (by omega) (by omega)) ⟨n0, nm_r (mm _ _ l2 l2) ⟨n0, nm_r (mm _ _ l4 l2) ⟨n0, ?_⟩⟩⟩⟩
      rw [mm _ _ ha l4, mm _ _ hb l6]
      by_cases g1 : a * ((k + 1) * (k + 1) % p * ((k + 1) * (k + 1) % p) % p) % p = C
      · refine br_t (by rw [g1]) ⟨n0, ?_⟩
        by_cases g2 : b * ((k + 1) * (k + 1) % p * ((k + 1) * (k + 1) % p) % p * ((k + 1) * (k + 1) % p) % p) % p = D
        · rw [cg_cn_t ⟨g1, g2⟩] at nx
          exact br_t (by rw [g2]) (nm_r (nI_1 _) (nm_r (nI_1 (k + 1)) nx))
        · rw [cg_cn_f (fun t => g2 t.2)] at nx
          exact br_f (fun t => g2 ((nI_eq (by omega) (by omega)).mp t)) (nm_r (nI_1 (k + 1)) nx)
      · rw [cg_cn_f (fun t => g1 t.1)] at nx
        exact br_f (fun t => g1 ((nI_eq (by omega) (by omega)).mp t)) (nm_r (nI_1 (k + 1)) nx)
  have w := lp (p - 1) 0 (by omega)
  have e0 : cg_cn p a b C D 0 = 0 := rfl
  rw [e0, nI_0] at w
  exact ⟨_, w⟩
theorem yw_chg (h : cg_L p a b c ax ay) {C D : Nat} (hC : C < p) (hD : D < p) {post : Int32 → Prop} (hp : post (nI (cg_cn p a b C D (p - 1)))) : wpY_changes post (nI p, nI a, nI b, nI c, ax, ay) (nI C) (nI D) := by
  have q := wk_b h
  have p0 : 0 < p := by omega
  have ha := h.1.2.1
  have hb := h.1.2.2.1
  have mm : ∀ s t, s < p → t < p → ∀ {Q : Int32 → Prop}, Q (nI (s * t % p)) → wpY_rest Q (nI p, nI a, nI b, nI c, ax, ay) (nI s * nI t) := by
    intro s t hs ht Q hQ
    refine yw_rest h (z := (s : Int) * t) (by simp only [zi_n, zi_mul]) (zb_in (zb_m (zb_n (N := 61) (by omega)) (zb_n (N := 61) (by omega))) (by decide)) ?_
    rw [← Int.natCast_mul, ec_m_n]; exact hQ
  have md : ∀ s t E, s < p → t < p → E < p → ∀ {Q : Int32 → Prop}, (∀ r, (r < p ∧ (r = 0 ↔ s * t % p = E)) → Q (nI r)) → wpY_rest Q (nI p, nI a, nI b, nI c, ax, ay) (nI s * nI t - nI E) := by
    intro s t E hs ht hE Q hQ
    refine yw_rest h (z := (s : Int) * t - E) (by simp only [zi_n, zi_mul, zi_sub]) (zb_in (zb_s (zb_m (zb_n (N := 61) (by omega)) (zb_n (N := 61) (by omega))) (zb_n (N := 61) (by omega))) (by decide)) ?_
    refine hQ _ ⟨ec_m_lt p0 _, ?_⟩
    rw [ec_m_z p0, mq_d0, ← Int.natCast_mul, mq_mod, Nat.mod_eq_of_lt hE]
  refine br_f (nI_pos (by omega)) (br_f (nI_ge hC (by omega)) (br_f (nI_pos (by omega)) (br_t (nI_lt hD (by omega)) ?_)))
  have lp : ∀ d k, k + d = p - 1 → wY_changes_31 post (nI C) (nI D) (nI p) (nI a) (nI b) (nI c) ax ay (d + 1) (nI (cg_cn p a b C D k)) (nI (k + 1)) := by
    intro d
    induction d with
    | zero =>
      intro k hk
      refine br_t (nI_le (by omega) (by omega)) ?_
      rw [show k = p - 1 by omega]; exact hp
    | succ d ih =>
      intro k hk
      have nx := ih (k + 1) (by omega)
      have l2 : (k + 1) * (k + 1) % p < p := Nat.mod_lt _ p0
      have l4 : (k + 1) * (k + 1) % p * ((k + 1) * (k + 1) % p) % p < p := Nat.mod_lt _ p0
      have l6 : (k + 1) * (k + 1) % p * ((k + 1) * (k + 1) % p) % p * ((k + 1) * (k + 1) % p) % p < p := Nat.mod_lt _ p0
      refine br_f (nI_ge (by omega) (by omega)) ?_
      refine mm _ _ (by omega) (by omega) ?_
      refine mm _ _ l2 l2 ?_
      refine mm _ _ l4 l2 ?_
      refine md _ _ C ha l4 hC ?_
      intro r1 r1s
      by_cases g1 : a * ((k + 1) * (k + 1) % p * ((k + 1) * (k + 1) % p) % p) % p = C
      · refine br_t (by rw [r1s.2.mpr g1]; exact nI_0) ?_
        refine md _ _ D hb l6 hD ?_
        intro r2 r2s
        by_cases g2 : b * ((k + 1) * (k + 1) % p * ((k + 1) * (k + 1) % p) % p * ((k + 1) * (k + 1) % p) % p) % p = D
        · rw [cg_cn_t ⟨g1, g2⟩] at nx
          exact br_t (by rw [r2s.2.mpr g2]; exact nI_0) (nm_r (nI_1 _) (nm_r (nI_1 (k + 1)) nx))
        · rw [cg_cn_f (fun t => g2 t.2)] at nx
          exact br_f (fun t => g2 (r2s.2.mp ((wk_eq0 (by omega)).mp t))) (nm_r (nI_1 (k + 1)) nx)
      · rw [cg_cn_f (fun t => g1 t.1)] at nx
        exact br_f (fun t => g1 (r1s.2.mp ((wk_eq0 (by omega)).mp t))) (nm_r (nI_1 (k + 1)) nx)
  have w := lp (p - 1) 0 (by omega)
  have e0 : cg_cn p a b C D 0 = 0 := rfl
  rw [e0, nI_0] at w
  exact ⟨_, w⟩
end WKT
