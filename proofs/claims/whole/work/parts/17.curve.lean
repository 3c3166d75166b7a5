/-! the listing and the choice of a curve on both sides -/
noncomputable def cg_ry (p a b x : Nat) (s : Nat × (Nat → Int32) × (Nat → Int32)) : Nat → Nat × (Nat → Int32) × (Nat → Int32)
  | 0 => s
  | y + 1 => if ec_onb p a b x y = true then ((cg_ry p a b x s y).1 + 1, upd (cg_ry p a b x s y).2.1 (cg_ry p a b x s y).1 (nI x), upd (cg_ry p a b x s y).2.2 (cg_ry p a b x s y).1 (nI y)) else cg_ry p a b x s y
noncomputable def cg_rx (p a b : Nat) (s : Nat × (Nat → Int32) × (Nat → Int32)) : Nat → Nat × (Nat → Int32) × (Nat → Int32)
  | 0 => s
  | x + 1 => cg_ry p a b x (cg_rx p a b s x) p
theorem cg_ry_t {p a b x y : Nat} {s : Nat × (Nat → Int32) × (Nat → Int32)} (o : ec_on p a b x y) : cg_ry p a b x s (y + 1) = ((cg_ry p a b x s y).1 + 1, upd (cg_ry p a b x s y).2.1 (cg_ry p a b x s y).1 (nI x), upd (cg_ry p a b x s y).2.2 (cg_ry p a b x s y).1 (nI y)) := if_pos (ec_onb_t.mpr o)
theorem cg_ry_f {p a b x y : Nat} {s : Nat × (Nat → Int32) × (Nat → Int32)} (o : ¬ ec_on p a b x y) : cg_ry p a b x s (y + 1) = cg_ry p a b x s y := if_neg (fun z => o (ec_onb_t.mp z))
theorem cg_ry_I {p a b x : Nat} {s : Nat × (Nat → Int32) × (Nat → Int32)} (hp : ec_P p) (hx : x < p) (h : cg_I p a b x 0 s.1 s.2.1 s.2.2) : ∀ y, y ≤ p → cg_I p a b x y (cg_ry p a b x s y).1 (cg_ry p a b x s y).2.1 (cg_ry p a b x s y).2.2 := by
  intro y
  induction y with
  | zero => intro _; exact h
  | succ y ih =>
    intro hy
    have i := ih (by omega)
    by_cases o : ec_on p a b x y
    · rw [cg_ry_t o]
      exact cg_I_on hp hx (by omega) o i
    · rw [cg_ry_f o]
      exact cg_I_off o i
theorem cg_rx_I {p a b : Nat} {s : Nat × (Nat → Int32) × (Nat → Int32)} (hp : ec_P p) (h : cg_I p a b 0 0 s.1 s.2.1 s.2.2) : ∀ x, x ≤ p → cg_I p a b x 0 (cg_rx p a b s x).1 (cg_rx p a b s x).2.1 (cg_rx p a b s x).2.2 := by
  intro x
  induction x with
  | zero => intro _; exact h
  | succ x ih =>
    intro hx
    have i := ih (by omega)
    exact cg_I_row hp (cg_ry_I hp (by omega) i p (Nat.le_refl p))
theorem xw_ls_y {p a b x : Nat} (hp : ec_P p) (hx : x < p) (ha : a < p) (hb : b < p) {s : Nat × (Nat → Int32) × (Nat → Int32)} (h : cg_I p a b x 0 s.1 s.2.1 s.2.2) {post : SX → Prop} {J : Int32 → Int32 → (Nat → Int32) → (Nat → Int32) → Prop} (hJ : J (nI (x + 1)) (nI (cg_ry p a b x s p).1) (cg_ry p a b x s p).2.1 (cg_ry p a b x s p).2.2) : ∀ d y, y + d = p → wX_listPoints_17 post J (nI x) (nI p) (nI a) (nI b) (d + 1) (nI y) (nI (cg_ry p a b x s y).1) (cg_ry p a b x s y).2.1 (cg_ry p a b x s y).2.2 := by
  have q := ec_P_b hp
  intro d
  induction d with
  | zero =>
    intro y hy
    refine br_t (nI_le (by omega) (by omega)) (nm_r (nI_1 x) ?_)
    rw [show y = p by omega]; exact hJ
  | succ d ih =>
    intro y hy
    have nx := ih (y + 1) (by omega)
    have i := cg_ry_I hp hx h y (by omega)
    refine br_f (nI_ge (by omega) (by omega)) ?_
    by_cases o : ec_on p a b x y
    · have lc := cg_I_c hp hx (by omega) o i
      have vi : vp_in (nI (cg_ry p a b x s y).1) 123 := vp_in_nI lc (by omega)
      have cl : (nI (cg_ry p a b x s y).1).toNatClampNeg = (cg_ry p a b x s y).1 := nI_clamp (by omega)
      rw [cg_ry_t o] at nx
      refine xw_on_t q (by omega) (by omega) (by omega) (by omega) o ?_
      refine br_f wk_10 (br_f (nI_ge (b := 123) lc (by omega)) ⟨vi, nm_r (by rw [cl]) ⟨vi, nm_r (by rw [cl]) (nm_r (nI_1 _) (nm_r (nI_1 y) ?_))⟩⟩)
      exact nx
    · rw [cg_ry_f o] at nx
      refine xw_on_f q (by omega) (by omega) (by omega) (by omega) o ?_
      exact br_t rfl (nm_r (nI_1 y) nx)
theorem yw_ls_y {p a b x : Nat} (hp : ec_P p) (hx : x < p) (ha : a < p) (hb : b < p) {s : Nat × (Nat → Int32) × (Nat → Int32)} (h : cg_I p a b x 0 s.1 s.2.1 s.2.2) {post : SY → Prop} {J : Int32 → Int32 → (Nat → Int32) → (Nat → Int32) → Prop} (hJ : J (nI (x + 1)) (nI (cg_ry p a b x s p).1) (cg_ry p a b x s p).2.1 (cg_ry p a b x s p).2.2) : ∀ d y, y + d = p → wY_list_17 post J (nI x) (nI p) (nI a) (nI b) (d + 1) (nI y) (nI (cg_ry p a b x s y).1) (cg_ry p a b x s y).2.1 (cg_ry p a b x s y).2.2 := by
  have q := ec_P_b hp
  have p0 : 0 < p := by omega
  intro d
  induction d with
  | zero =>
    intro y hy
    refine br_t (nI_le (by omega) (by omega)) (nm_r (nI_1 x) ?_)
    rw [show y = p by omega]; exact hJ
  | succ d ih =>
    intro y hy
    have nx := ih (y + 1) (by omega)
    have i := cg_ry_I hp hx h y (by omega)
    have k0 : ec_m p ((y : Int) * y - x * x * x - a * x - b) = 0 ↔ ec_on p a b x y := by
      rw [ec_m_z p0, ec_on_q]
      have e : (y : Int) * y - x * x * x - a * x - b = (y : Int) * y - (x * (x * x) + a * x + b) := by grind
      rw [e, mq_d0]
    have l1 : ec_m p ((y : Int) * y - x * x * x - a * x - b) < p := ec_m_lt p0 _
    refine br_f (nI_ge (by omega) (by omega)) ?_
    refine yw_rest0 p0 (by omega) (z := (y : Int) * y - x * x * x - a * x - b) (by simp only [zi_n, zi_mul, zi_sub]) (zb_in (zb_s (zb_s (zb_s (zb_m (zb_n (N := 61) (by omega)) (zb_n (N := 61) (by omega))) (zb_m (zb_m (zb_n (N := 61) (by omega)) (zb_n (N := 61) (by omega))) (zb_n (N := 61) (by omega)))) (zb_m (zb_n (N := 61) (by omega)) (zb_n (N := 61) (by omega)))) (zb_n (N := 61) (by omega))) (by decide)) ?_
    by_cases o : ec_on p a b x y
    · have lc := cg_I_c hp hx (by omega) o i
      have vi : vp_in (nI (cg_ry p a b x s y).1) 140 := vp_in_nI (by omega) (by omega)
      have cl : (nI (cg_ry p a b x s y).1).toNatClampNeg = (cg_ry p a b x s y).1 := nI_clamp (by omega)
      rw [cg_ry_t o] at nx
      refine br_t (by rw [k0.mpr o]; exact nI_0) ⟨vi, nm_r (by rw [cl]) ⟨vi, nm_r (by rw [cl]) (nm_r (nI_1 _) (nm_r (nI_1 y) ?_))⟩⟩
      exact nx
    · rw [cg_ry_f o] at nx
      exact br_f (fun t => o (k0.mp ((wk_eq0 (by omega)).mp t))) (nm_r (nI_1 y) nx)
theorem xw_ls {p a b : Nat} (hn : cg_n p a b) {bx bz : Nat → Int32} {post : SX → Prop} (hq : post (nI p, nI a, nI b, nI (cg_rx p a b (1, bx, bz) p).1, (cg_rx p a b (1, bx, bz) p).2.1, (cg_rx p a b (1, bx, bz) p).2.2)) (f4 : Int32) : wpX_listPoints post (nI p, nI a, nI b, f4, bx, bz) := by
  obtain ⟨hp, ha, hb, hs⟩ := hn
  have q := ec_P_b hp
  have i0 : cg_I p a b 0 0 ((1, bx, bz) : Nat × (Nat → Int32) × (Nat → Int32)).1 ((1, bx, bz) : Nat × (Nat → Int32) × (Nat → Int32)).2.1 ((1, bx, bz) : Nat × (Nat → Int32) × (Nat → Int32)).2.2 := cg_I_0 p a b bx bz
  have lp : ∀ d x, x + d = p → wX_listPoints_7 post (nI p) (nI a) (nI b) (d + 1) (nI x) (nI (cg_rx p a b (1, bx, bz) x).1) (cg_rx p a b (1, bx, bz) x).2.1 (cg_rx p a b (1, bx, bz) x).2.2 := by
    intro d
    induction d with
    | zero =>
      intro x hx
      refine br_t (nI_le (by omega) (by omega)) ?_
      rw [show x = p by omega]; exact hq
    | succ d ih =>
      intro x hx
      refine br_f (nI_ge (by omega) (by omega)) ?_
      have w := xw_ls_y (post := post) hp (show x < p by omega) ha hb (cg_rx_I hp i0 x (by omega)) (ih (x + 1) (by omega)) p 0 (by omega)
      rw [nI_0] at w
      exact ⟨_, w⟩
  have w := lp p 0 (by omega)
  rw [nI_0] at w
  exact ⟨_, w⟩
theorem yw_ls {p a b : Nat} (hn : cg_n p a b) {bx bz : Nat → Int32} {post : SY → Prop} (hq : post (nI p, nI a, nI b, nI (cg_rx p a b (1, bx, bz) p).1, (cg_rx p a b (1, bx, bz) p).2.1, (cg_rx p a b (1, bx, bz) p).2.2)) (f4 : Int32) : wpY_list post (nI p, nI a, nI b, f4, bx, bz) := by
  obtain ⟨hp, ha, hb, hs⟩ := hn
  have q := ec_P_b hp
  have i0 : cg_I p a b 0 0 ((1, bx, bz) : Nat × (Nat → Int32) × (Nat → Int32)).1 ((1, bx, bz) : Nat × (Nat → Int32) × (Nat → Int32)).2.1 ((1, bx, bz) : Nat × (Nat → Int32) × (Nat → Int32)).2.2 := cg_I_0 p a b bx bz
  have lp : ∀ d x, x + d = p → wY_list_7 post (nI p) (nI a) (nI b) (d + 1) (nI x) (nI (cg_rx p a b (1, bx, bz) x).1) (cg_rx p a b (1, bx, bz) x).2.1 (cg_rx p a b (1, bx, bz) x).2.2 := by
    intro d
    induction d with
    | zero =>
      intro x hx
      refine br_t (nI_le (by omega) (by omega)) ?_
      rw [show x = p by omega]; exact hq
    | succ d ih =>
      intro x hx
      refine br_f (nI_ge (by omega) (by omega)) ?_
      have w := yw_ls_y (post := post) hp (show x < p by omega) ha hb (cg_rx_I hp i0 x (by omega)) (ih (x + 1) (by omega)) p 0 (by omega)
      rw [nI_0] at w
      exact ⟨_, w⟩
  have w := lp p 0 (by omega)
  rw [nI_0] at w
  exact ⟨_, w⟩
theorem cg_rx_L {p a b : Nat} (hn : cg_n p a b) (bx bz : Nat → Int32) : cg_L p a b (cg_rx p a b (1, bx, bz) p).1 (cg_rx p a b (1, bx, bz) p).2.1 (cg_rx p a b (1, bx, bz) p).2.2 :=
  cg_I_end hn (cg_rx_I hn.1 (cg_I_0 p a b bx bz) p (Nat.le_refl p))
theorem xw_take {p a b : Nat} (hn : cg_n p a b) {bx bz : Nat → Int32} {post : SX → Prop} (hq : post (nI p, nI a, nI b, nI (cg_rx p a b (1, bx, bz) p).1, (cg_rx p a b (1, bx, bz) p).2.1, (cg_rx p a b (1, bx, bz) p).2.2)) (f1 f2 f3 f4 : Int32) : wpX_take post (f1, f2, f3, f4, bx, bz) (nI p) (nI a) (nI b) := by
  unfold wpX_take
  dsimp only
  refine xw_ls hn ?_ f4
  exact hq
/-! which p are allowed -/
def cg_no (v : Int32) : Prop := ∀ p, ec_P p → v ≠ nI p
theorem cg_no_of {v : Int32} {n : Nat} (e : v = nI n) (h : n < 100) (hn : ¬ ec_P n) : cg_no v := by
  intro p hp z
  have b' := ec_P_b hp
  rw [e, nI_eq (by omega) (by omega)] at z
  rw [z] at hn
  exact hn hp
theorem cg_npr1 {n : Nat} (h : ec_P n) : ∀ t, t < 8 → 2 ≤ t → t * t ≤ n → n % t ≠ 0 := by
  rcases h with rfl | rfl | rfl | rfl | rfl | rfl | rfl | rfl | rfl | rfl | rfl | rfl | rfl | rfl | rfl | rfl <;> decide +kernel
theorem cg_npr2 {n : Nat} (h5 : 5 ≤ n) (h61 : n ≤ 61) (h : ∀ t, t < 8 → 2 ≤ t → t * t ≤ n → n % t ≠ 0) : ec_P n := by
  have h2 : n % 2 ≠ 0 := h 2 (by decide) (by decide) (by omega)
  have h3 : 9 ≤ n → n % 3 ≠ 0 := fun g => h 3 (by decide) (by decide) (by omega)
  have h5' : 25 ≤ n → n % 5 ≠ 0 := fun g => h 5 (by decide) (by decide) (by omega)
  have h7 : 49 ≤ n → n % 7 ≠ 0 := fun g => h 7 (by decide) (by decide) (by omega)
  have w : n = 5 ∨ n = 6 ∨ n = 7 ∨ n = 8 ∨ n = 9 ∨ n = 10 ∨ n = 11 ∨ n = 12 ∨ n = 13 ∨ n = 14 ∨ n = 15 ∨ n = 16 ∨ n = 17 ∨ n = 18 ∨ n = 19 ∨ n = 20 ∨ n = 21 ∨ n = 22 ∨ n = 23 ∨ n = 24 ∨ n = 25 ∨ n = 26 ∨ n = 27 ∨ n = 28 ∨ n = 29 ∨ n = 30 ∨ n = 31 ∨ n = 32 ∨ n = 33 ∨ n = 34 ∨ n = 35 ∨ n = 36 ∨ n = 37 ∨ n = 38 ∨ n = 39 ∨ n = 40 ∨ n = 41 ∨ n = 42 ∨ n = 43 ∨ n = 44 ∨ n = 45 ∨ n = 46 ∨ n = 47 ∨ n = 48 ∨ n = 49 ∨ n = 50 ∨ n = 51 ∨ n = 52 ∨ n = 53 ∨ n = 54 ∨ n = 55 ∨ n = 56 ∨ n = 57 ∨ n = 58 ∨ n = 59 ∨ n = 60 ∨ n = 61 := by omega
  rcases w with rfl | rfl | rfl | rfl | rfl | rfl | rfl | rfl | rfl | rfl | rfl | rfl | rfl | rfl | rfl | rfl | rfl | rfl | rfl | rfl | rfl | rfl | rfl | rfl | rfl | rfl | rfl | rfl | rfl | rfl | rfl | rfl | rfl | rfl | rfl | rfl | rfl | rfl | rfl | rfl | rfl | rfl | rfl | rfl | rfl | rfl | rfl | rfl | rfl | rfl | rfl | rfl | rfl | rfl | rfl | rfl | rfl
  · unfold ec_P; omega
  · exact absurd rfl h2
  · unfold ec_P; omega
  · exact absurd rfl h2
  · exact absurd rfl (h3 (by decide))
  · exact absurd rfl h2
  · unfold ec_P; omega
  · exact absurd rfl h2
  · unfold ec_P; omega
  · exact absurd rfl h2
  · exact absurd rfl (h3 (by decide))
  · exact absurd rfl h2
  · unfold ec_P; omega
  · exact absurd rfl h2
  · unfold ec_P; omega
  · exact absurd rfl h2
  · exact absurd rfl (h3 (by decide))
  · exact absurd rfl h2
  · unfold ec_P; omega
  · exact absurd rfl h2
  · exact absurd rfl (h5' (by decide))
  · exact absurd rfl h2
  · exact absurd rfl (h3 (by decide))
  · exact absurd rfl h2
  · unfold ec_P; omega
  · exact absurd rfl h2
  · unfold ec_P; omega
  · exact absurd rfl h2
  · exact absurd rfl (h3 (by decide))
  · exact absurd rfl h2
  · exact absurd rfl (h5' (by decide))
  · exact absurd rfl h2
  · unfold ec_P; omega
  · exact absurd rfl h2
  · exact absurd rfl (h3 (by decide))
  · exact absurd rfl h2
  · unfold ec_P; omega
  · exact absurd rfl h2
  · unfold ec_P; omega
  · exact absurd rfl h2
  · exact absurd rfl (h3 (by decide))
  · exact absurd rfl h2
  · unfold ec_P; omega
  · exact absurd rfl h2
  · exact absurd rfl (h7 (by decide))
  · exact absurd rfl h2
  · exact absurd rfl (h3 (by decide))
  · exact absurd rfl h2
  · unfold ec_P; omega
  · exact absurd rfl h2
  · exact absurd rfl (h5' (by decide))
  · exact absurd rfl h2
  · exact absurd rfl (h3 (by decide))
  · exact absurd rfl h2
  · unfold ec_P; omega
  · exact absurd rfl h2
  · unfold ec_P; omega
theorem cg_npr (n : Nat) (h61 : n < 62) (h5 : 5 ≤ n) : ec_P n ↔ ∀ t, t < 8 → 2 ≤ t → t * t ≤ n → n % t ≠ 0 := ⟨cg_npr1, cg_npr2 h5 (by omega)⟩
theorem yw_pr_l {n : Nat} (h5 : 5 ≤ n) (h61 : n ≤ 61) {f1 f2 f3 f4 : Int32} {g1 g2 : Nat → Int32} {r : Int32} (hr : (ec_P n ∧ r = 1) ∨ (¬ ec_P n ∧ r = 0)) {post : Int32 → Prop} (hq : post r) : ∀ d k, k + d = 8 → 2 ≤ k → (∀ t, 2 ≤ t → t < k → n % t ≠ 0) → wY_isPrime_15 post (nI n) f1 f2 f3 f4 g1 g2 (d + 1) (nI k) := by
  have key : ec_P n ↔ ∀ t, t < 8 → 2 ≤ t → t * t ≤ n → n % t ≠ 0 := cg_npr n (by omega) h5
  intro d
  have out : ∀ k, k ≤ 8 → n < k * k → (∀ t, 2 ≤ t → t < k → n % t ≠ 0) → r = 1 := by
    intro k k8 hk hn
    rcases hr with ⟨_, e⟩ | ⟨w, _⟩
    · exact e
    · refine absurd (key.mpr (fun t t8 t2 tt => hn t t2 ?_)) w
      rcases Nat.lt_or_ge t k with g | g
      · exact g
      · have := Nat.mul_le_mul g g
        omega
  induction d with
  | zero =>
    intro k hk k2 hn
    have ek : k = 8 := by omega
    rw [ek] at hn ⊢
    refine br_t ?_ ?_
    · rw [wk_mul]; exact nI_lt (by omega) (by omega)
    · rw [← out 8 (Nat.le_refl 8) (by omega) hn]; exact hq
  | succ d ih =>
    intro k hk k2 hn
    have kb : k * k ≤ 8 * 8 := Nat.mul_le_mul (by omega) (by omega)
    by_cases g : n < k * k
    · refine br_t ?_ ?_
      · rw [wk_mul]; exact nI_lt g (by omega)
      · rw [← out k (by omega) g hn]; exact hq
    · refine br_f ?_ ⟨nI_ne0 (by omega) (by omega), ?_⟩
      · rw [wk_mul]; exact nI_nlt (by omega) (by omega)
      · rw [wk_rem (by omega) (by omega)]
        have lm : n % k < k := Nat.mod_lt _ (by omega)
        by_cases z : n % k = 0
        · refine br_t (by rw [z]; exact nI_0) ?_
          rcases hr with ⟨w, _⟩ | ⟨_, e⟩
          · exact absurd z (key.mp w k (by omega) k2 (by omega))
          · rw [← e]; exact hq
        · refine br_f (fun t => z ((wk_eq0 (by omega)).mp t)) (nm_r (nI_1 k) (ih (k + 1) (by omega) (by omega) (fun t t2 tk => ?_)))
          rcases Nat.lt_or_ge t k with w | w
          · exact hn t t2 w
          · rw [show t = k by omega]; exact z
theorem yw_pr {n : Nat} (h5 : 5 ≤ n) (h61 : n ≤ 61) {f1 f2 f3 f4 : Int32} {g1 g2 : Nat → Int32} {r : Int32} (hr : (ec_P n ∧ r = 1) ∨ (¬ ec_P n ∧ r = 0)) {post : Int32 → Prop} (hq : post r) : wpY_isPrime post (f1, f2, f3, f4, g1, g2) (nI n) := by
  refine br_f (nI_nlt (b := 5) h5 (by omega)) (br_t (nI_le (b := 61) h61 (by omega)) ?_)
  exact ⟨_, yw_pr_l h5 h61 hr hq 6 2 (by omega) (by omega) (fun t t2 tk => by omega)⟩
theorem yw_ip_t {p : Nat} (hp : ec_P p) {f1 f2 f3 f4 : Int32} {g1 g2 : Nat → Int32} {post : Int32 → Prop} (hq : post 1) : wpY_isPrime post (f1, f2, f3, f4, g1, g2) (nI p) := by
  have b' := ec_P_b hp
  exact yw_pr b'.1 b'.2 (Or.inl ⟨hp, rfl⟩) hq
theorem yw_ip_f {v : Int32} (hv : cg_no v) {f1 f2 f3 f4 : Int32} {g1 g2 : Nat → Int32} {post : Int32 → Prop} (hq : post 0) : wpY_isPrime post (f1, f2, f3, f4, g1, g2) v := by
  by_cases h1 : v < 5
  · exact br_t h1 hq
  · by_cases h2 : v ≤ 61
    · have k1 : ¬ v.toInt < 5 := fun g => h1 (Int32.lt_iff_toInt_lt.mpr g)
      have k2 : v.toInt ≤ 61 := Int32.le_iff_toInt_le.mp h2
      obtain ⟨n, hn⟩ := Int.eq_ofNat_of_zero_le (show 0 ≤ v.toInt by omega)
      have ev : v = nI n := by rw [zi_n, ← hn]; exact wk_ti v
      rw [ev]
      exact yw_pr (by omega) (by omega) (Or.inr ⟨fun z => hv n z ev, rfl⟩) hq
    · exact br_f h1 (br_f h2 hq)
theorem xw_ap {v : Int32} {f1 f2 f3 f4 : Int32} {g1 g2 : Nat → Int32} {post : Int32 → Prop} (H1 : ∀ p, ec_P p → v = nI p → post 1) (H0 : cg_no v → post 0) : wpX_isAllowedPrime post (f1, f2, f3, f4, g1, g2) v := by
  by_cases l5 : v < 5
  · refine br_t l5 (H0 (fun p hp e => ?_))
    have b' := ec_P_b hp
    rw [e] at l5
    exact nI_nlt (b := 5) b'.1 (by omega) l5
  refine br_f l5 ?_
  by_cases l61 : 61 < v
  · refine br_t l61 (H0 (fun p hp e => ?_))
    have b' := ec_P_b hp
    rw [e] at l61
    exact nI_nlt (a := 61) b'.2 (by omega) l61
  refine br_f l61 ?_
  refine br_c (fun e => H1 5 (by unfold ec_P; omega) e) (fun _ => ?_)
  refine br_c (fun e => H0 (cg_no_of (n := 6) e (by decide) (by unfold ec_P; omega))) (fun _ => ?_)
  refine br_c (fun e => H1 7 (by unfold ec_P; omega) e) (fun _ => ?_)
  refine br_c (fun e => H0 (cg_no_of (n := 8) e (by decide) (by unfold ec_P; omega))) (fun _ => ?_)
  refine br_c (fun e => H0 (cg_no_of (n := 9) e (by decide) (by unfold ec_P; omega))) (fun _ => ?_)
  refine br_c (fun e => H0 (cg_no_of (n := 10) e (by decide) (by unfold ec_P; omega))) (fun _ => ?_)
  refine br_c (fun e => H1 11 (by unfold ec_P; omega) e) (fun _ => ?_)
  refine br_c (fun e => H0 (cg_no_of (n := 12) e (by decide) (by unfold ec_P; omega))) (fun _ => ?_)
  refine br_c (fun e => H1 13 (by unfold ec_P; omega) e) (fun _ => ?_)
  refine br_c (fun e => H0 (cg_no_of (n := 14) e (by decide) (by unfold ec_P; omega))) (fun _ => ?_)
  refine br_c (fun e => H0 (cg_no_of (n := 15) e (by decide) (by unfold ec_P; omega))) (fun _ => ?_)
  refine br_c (fun e => H0 (cg_no_of (n := 16) e (by decide) (by unfold ec_P; omega))) (fun _ => ?_)
  refine br_c (fun e => H1 17 (by unfold ec_P; omega) e) (fun _ => ?_)
  refine br_c (fun e => H0 (cg_no_of (n := 18) e (by decide) (by unfold ec_P; omega))) (fun _ => ?_)
  refine br_c (fun e => H1 19 (by unfold ec_P; omega) e) (fun _ => ?_)
  refine br_c (fun e => H0 (cg_no_of (n := 20) e (by decide) (by unfold ec_P; omega))) (fun _ => ?_)
  refine br_c (fun e => H0 (cg_no_of (n := 21) e (by decide) (by unfold ec_P; omega))) (fun _ => ?_)
  refine br_c (fun e => H0 (cg_no_of (n := 22) e (by decide) (by unfold ec_P; omega))) (fun _ => ?_)
  refine br_c (fun e => H1 23 (by unfold ec_P; omega) e) (fun _ => ?_)
  refine br_c (fun e => H0 (cg_no_of (n := 24) e (by decide) (by unfold ec_P; omega))) (fun _ => ?_)
  refine br_c (fun e => H0 (cg_no_of (n := 25) e (by decide) (by unfold ec_P; omega))) (fun _ => ?_)
  refine br_c (fun e => H0 (cg_no_of (n := 26) e (by decide) (by unfold ec_P; omega))) (fun _ => ?_)
  refine br_c (fun e => H0 (cg_no_of (n := 27) e (by decide) (by unfold ec_P; omega))) (fun _ => ?_)
  refine br_c (fun e => H0 (cg_no_of (n := 28) e (by decide) (by unfold ec_P; omega))) (fun _ => ?_)
  refine br_c (fun e => H1 29 (by unfold ec_P; omega) e) (fun _ => ?_)
  refine br_c (fun e => H0 (cg_no_of (n := 30) e (by decide) (by unfold ec_P; omega))) (fun _ => ?_)
  refine br_c (fun e => H1 31 (by unfold ec_P; omega) e) (fun _ => ?_)
  refine br_c (fun e => H0 (cg_no_of (n := 32) e (by decide) (by unfold ec_P; omega))) (fun _ => ?_)
  refine br_c (fun e => H0 (cg_no_of (n := 33) e (by decide) (by unfold ec_P; omega))) (fun _ => ?_)
  refine br_c (fun e => H0 (cg_no_of (n := 34) e (by decide) (by unfold ec_P; omega))) (fun _ => ?_)
  refine br_c (fun e => H0 (cg_no_of (n := 35) e (by decide) (by unfold ec_P; omega))) (fun _ => ?_)
  refine br_c (fun e => H0 (cg_no_of (n := 36) e (by decide) (by unfold ec_P; omega))) (fun _ => ?_)
  refine br_c (fun e => H1 37 (by unfold ec_P; omega) e) (fun _ => ?_)
  refine br_c (fun e => H0 (cg_no_of (n := 38) e (by decide) (by unfold ec_P; omega))) (fun _ => ?_)
  refine br_c (fun e => H0 (cg_no_of (n := 39) e (by decide) (by unfold ec_P; omega))) (fun _ => ?_)
  refine br_c (fun e => H0 (cg_no_of (n := 40) e (by decide) (by unfold ec_P; omega))) (fun _ => ?_)
  refine br_c (fun e => H1 41 (by unfold ec_P; omega) e) (fun _ => ?_)
  refine br_c (fun e => H0 (cg_no_of (n := 42) e (by decide) (by unfold ec_P; omega))) (fun _ => ?_)
  refine br_c (fun e => H1 43 (by unfold ec_P; omega) e) (fun _ => ?_)
  refine br_c (fun e => H0 (cg_no_of (n := 44) e (by decide) (by unfold ec_P; omega))) (fun _ => ?_)
  refine br_c (fun e => H0 (cg_no_of (n := 45) e (by decide) (by unfold ec_P; omega))) (fun _ => ?_)
  refine br_c (fun e => H0 (cg_no_of (n := 46) e (by decide) (by unfold ec_P; omega))) (fun _ => ?_)
  refine br_c (fun e => H1 47 (by unfold ec_P; omega) e) (fun _ => ?_)
  refine br_c (fun e => H0 (cg_no_of (n := 48) e (by decide) (by unfold ec_P; omega))) (fun _ => ?_)
  refine br_c (fun e => H0 (cg_no_of (n := 49) e (by decide) (by unfold ec_P; omega))) (fun _ => ?_)
  refine br_c (fun e => H0 (cg_no_of (n := 50) e (by decide) (by unfold ec_P; omega))) (fun _ => ?_)
  refine br_c (fun e => H0 (cg_no_of (n := 51) e (by decide) (by unfold ec_P; omega))) (fun _ => ?_)
  refine br_c (fun e => H0 (cg_no_of (n := 52) e (by decide) (by unfold ec_P; omega))) (fun _ => ?_)
  refine br_c (fun e => H1 53 (by unfold ec_P; omega) e) (fun _ => ?_)
  refine br_c (fun e => H0 (cg_no_of (n := 54) e (by decide) (by unfold ec_P; omega))) (fun _ => ?_)
  refine br_c (fun e => H0 (cg_no_of (n := 55) e (by decide) (by unfold ec_P; omega))) (fun _ => ?_)
  refine br_c (fun e => H0 (cg_no_of (n := 56) e (by decide) (by unfold ec_P; omega))) (fun _ => ?_)
  refine br_c (fun e => H0 (cg_no_of (n := 57) e (by decide) (by unfold ec_P; omega))) (fun _ => ?_)
  refine br_c (fun e => H0 (cg_no_of (n := 58) e (by decide) (by unfold ec_P; omega))) (fun _ => ?_)
  refine br_c (fun e => H1 59 (by unfold ec_P; omega) e) (fun _ => ?_)
  refine br_c (fun e => H0 (cg_no_of (n := 60) e (by decide) (by unfold ec_P; omega))) (fun _ => ?_)
  refine br_c (fun e => H1 61 (by unfold ec_P; omega) e) (fun _ => ?_)
  trivial
theorem xw_ap_t {p : Nat} (hp : ec_P p) {f1 f2 f3 f4 : Int32} {g1 g2 : Nat → Int32} {post : Int32 → Prop} (hq : post 1) : wpX_isAllowedPrime post (f1, f2, f3, f4, g1, g2) (nI p) := xw_ap (fun _ _ _ => hq) (fun z => absurd rfl (z p hp))
theorem xw_ap_f {v : Int32} (hv : cg_no v) {f1 f2 f3 f4 : Int32} {g1 g2 : Nat → Int32} {post : Int32 → Prop} (hq : post 0) : wpX_isAllowedPrime post (f1, f2, f3, f4, g1, g2) v := xw_ap (fun p hp e => absurd e (hv p hp)) (fun _ => hq)
theorem xw_cv_bad {p a b c : Nat} {ax ay : Nat → Int32} {v1 v2 v3 : Int32} (hv : cg_no v1 ∨ ∃ q, ec_P q ∧ v1 = nI q ∧ ((v2 < 0 ∨ nI q ≤ v2) ∨ (v3 < 0 ∨ nI q ≤ v3))) {post : Int32 → SX → Prop} (hq : post (-1) (nI p, nI a, nI b, nI c, ax, ay)) : wpX_curve post (nI p, nI a, nI b, nI c, ax, ay) v1 v2 v3 := by
  unfold wpX_curve
  dsimp only
  rcases hv with hv | ⟨q, hp, e1, hv⟩
  · refine xw_ap_f hv ?_
    exact br_t rfl hq
  · have b' := ec_P_b hp
    rw [e1]
    refine xw_ap_t hp ?_
    refine br_f wk_10 ?_
    by_cases g1 : v2 < 0
    · exact br_t g1 hq
    refine br_f g1 ?_
    by_cases g2 : nI q ≤ v2
    · exact br_t g2 hq
    refine br_f g2 ?_
    by_cases g3 : v3 < 0
    · exact br_t g3 hq
    refine br_f g3 ?_
    by_cases g4 : nI q ≤ v3
    · exact br_f (Int32.not_lt.mpr g4) hq
    · rcases hv with (w | w) | (w | w)
      · exact absurd w g1
      · exact absurd w g2
      · exact absurd w g3
      · exact absurd w g4
theorem xw_cv {p a b c : Nat} {ax ay : Nat → Int32} {q m n : Nat} (hp : ec_P q) (hm : m < q) (hn : n < q) {post : Int32 → SX → Prop} (hs : (4 * (m * (m * m)) + 27 * (n * n)) % q = 0 → post (-4) (nI p, nI a, nI b, nI c, ax, ay)) (hg : cg_n q m n → post (nI (cg_rx q m n (1, ax, ay) q).1) (nI q, nI m, nI n, nI (cg_rx q m n (1, ax, ay) q).1, (cg_rx q m n (1, ax, ay) q).2.1, (cg_rx q m n (1, ax, ay) q).2.2)) : wpX_curve post (nI p, nI a, nI b, nI c, ax, ay) (nI q) (nI m) (nI n) := by
  have b' := ec_P_b hp
  have b1 : m * m ≤ 61 * 61 := Nat.mul_le_mul (by omega) (by omega)
  have b2 : m * (m * m) ≤ 61 * (61 * 61) := Nat.mul_le_mul (by omega) b1
  have b3 : n * n ≤ 61 * 61 := Nat.mul_le_mul (by omega) (by omega)
  have e4 : (4 : Int32) = nI 4 := rfl
  have e27 : (27 : Int32) = nI 27 := rfl
  have er : 4 * nI m * nI m * nI m + 27 * nI n * nI n - (4 * nI m * nI m * nI m + 27 * nI n * nI n) / nI q * nI q = nI ((4 * (m * (m * m)) + 27 * (n * n)) % q) := by
    rw [e4, e27, wk_mul, wk_mul, wk_mul, wk_mul, wk_mul, nI_add]
    have e : 4 * m * m * m + 27 * n * n = 4 * (m * (m * m)) + 27 * (n * n) := by simp only [Nat.mul_assoc]
    rw [e, wk_rem (by omega) (by omega)]
  have lm : (4 * (m * (m * m)) + 27 * (n * n)) % q < q := Nat.mod_lt _ (by omega)
  unfold wpX_curve
  dsimp only
  refine xw_ap_t hp ?_
  refine br_f wk_10 ?_
  refine br_f (nI_pos (by omega)) ?_
  refine br_f (nI_ge hm (by omega)) ?_
  refine br_f (nI_pos (by omega)) ?_
  refine br_t (nI_lt hn (by omega)) ?_
  refine ⟨nI_ne0 (by omega) (by omega), ?_⟩
  rw [er]
  by_cases z : (4 * (m * (m * m)) + 27 * (n * n)) % q = 0
  · exact br_t (by rw [z]; exact nI_0) (hs z)
  · refine br_f (fun t => z ((wk_eq0 (by omega)).mp t)) ?_
    have hN : cg_n q m n := ⟨hp, hm, hn, z⟩
    refine xw_take hN ?_ _ _ _ _
    exact hg hN
theorem yw_cv_bad {p a b c : Nat} {ax ay : Nat → Int32} {v1 v2 v3 : Int32} (hv : cg_no v1 ∨ ∃ q, ec_P q ∧ v1 = nI q ∧ ((v2 < 0 ∨ nI q ≤ v2) ∨ (v3 < 0 ∨ nI q ≤ v3))) {post : Int32 → SY → Prop} (hq : post (-1) (nI p, nI a, nI b, nI c, ax, ay)) : wpY_curve post (nI p, nI a, nI b, nI c, ax, ay) v1 v2 v3 := by
  unfold wpY_curve
  dsimp only
  rcases hv with hv | ⟨q, hp, e1, hv⟩
  · refine yw_ip_f hv ?_
    exact br_t rfl hq
  · have b' := ec_P_b hp
    rw [e1]
    refine yw_ip_t hp ?_
    refine br_f wk_10 ?_
    by_cases g1 : v2 < 0
    · exact br_t g1 hq
    refine br_f g1 ?_
    by_cases g2 : nI q ≤ v2
    · exact br_t g2 hq
    refine br_f g2 ?_
    by_cases g3 : v3 < 0
    · exact br_t g3 hq
    refine br_f g3 ?_
    by_cases g4 : nI q ≤ v3
    · exact br_f (Int32.not_lt.mpr g4) hq
    · rcases hv with (w | w) | (w | w)
      · exact absurd w g1
      · exact absurd w g2
      · exact absurd w g3
      · exact absurd w g4
theorem yw_cv {p a b c : Nat} {ax ay : Nat → Int32} {q m n : Nat} (hp : ec_P q) (hm : m < q) (hn : n < q) {post : Int32 → SY → Prop} (hs : (4 * (m * (m * m)) + 27 * (n * n)) % q = 0 → post (-4) (nI p, nI a, nI b, nI c, ax, ay)) (hg : cg_n q m n → post (nI (cg_rx q m n (1, ax, ay) q).1) (nI q, nI m, nI n, nI (cg_rx q m n (1, ax, ay) q).1, (cg_rx q m n (1, ax, ay) q).2.1, (cg_rx q m n (1, ax, ay) q).2.2)) : wpY_curve post (nI p, nI a, nI b, nI c, ax, ay) (nI q) (nI m) (nI n) := by
  have b' := ec_P_b hp
  have b1 : m * m ≤ 61 * 61 := Nat.mul_le_mul (by omega) (by omega)
  have b2 : m * (m * m) ≤ 61 * (61 * 61) := Nat.mul_le_mul (by omega) b1
  have b3 : n * n ≤ 61 * 61 := Nat.mul_le_mul (by omega) (by omega)
  have e4 : (4 : Int32) = nI 4 := rfl
  have e27 : (27 : Int32) = nI 27 := rfl
  have er : 4 * nI m * nI m * nI m + 27 * nI n * nI n - (4 * nI m * nI m * nI m + 27 * nI n * nI n) / nI q * nI q = nI ((4 * (m * (m * m)) + 27 * (n * n)) % q) := by
    rw [e4, e27, wk_mul, wk_mul, wk_mul, wk_mul, wk_mul, nI_add]
    have e : 4 * m * m * m + 27 * n * n = 4 * (m * (m * m)) + 27 * (n * n) := by simp only [Nat.mul_assoc]
    rw [e, wk_rem (by omega) (by omega)]
  have lm : (4 * (m * (m * m)) + 27 * (n * n)) % q < q := Nat.mod_lt _ (by omega)
  unfold wpY_curve
  dsimp only
  refine yw_ip_t hp ?_
  refine br_f wk_10 ?_
  refine br_f (nI_pos (by omega)) ?_
  refine br_f (nI_ge hm (by omega)) ?_
  refine br_f (nI_pos (by omega)) ?_
  refine br_t (nI_lt hn (by omega)) ?_
  refine ⟨nI_ne0 (by omega) (by omega), ?_⟩
  rw [er]
  by_cases z : (4 * (m * (m * m)) + 27 * (n * n)) % q = 0
  · exact br_t (by rw [z]; exact nI_0) (hs z)
  · refine br_f (fun t => z ((wk_eq0 (by omega)).mp t)) ?_
    have hN : cg_n q m n := ⟨hp, hm, hn, z⟩
    refine yw_ls hN ?_ _
    exact hg hN
