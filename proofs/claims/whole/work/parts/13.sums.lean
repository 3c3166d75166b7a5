/-! the sum of two points on both sides -/
section WKS
variable {p a b c : Nat} {ax ay : Nat → Int32}
theorem xw_quo_l (hb : 5 ≤ p ∧ p ≤ 61) {z w : Nat} (hw : w < p) {post : Int32 → Prop} (hp : post (nI (z * w ^ (p - 2) % p))) : ∀ d k, k + d = p - 2 → wX_quotient_5 post (nI w) (nI p) (nI a) (nI b) (nI c) ax ay (d + 1) (nI (z * w ^ k % p)) (nI k) := by
  have p0 : 0 < p := by omega
  have e2 : nI p - 2 = nI (p - 2) := wk_sub (a := p) (b := 2) (by omega)
  intro d
  induction d with
  | zero =>
    intro k hk
    refine br_t (by rw [e2]; exact nI_le (by omega) (by omega)) ?_
    rw [show k = p - 2 by omega]; exact hp
  | succ d ih =>
    intro k hk
    have hm : z * w ^ k % p < p := Nat.mod_lt _ p0
    have hb2 : z * w ^ k % p * w < 1000000000 := by
      have q := Nat.mul_le_mul (Nat.le_of_lt hm) (Nat.le_of_lt hw)
      have q2 : p * p ≤ 61 * 61 := Nat.mul_le_mul hb.2 hb.2
      omega
    have er : nI (z * w ^ k % p) * nI w - nI (z * w ^ k % p) * nI w / nI p * nI p = nI (z * w ^ (k + 1) % p) := by
      rw [wk_mul, wk_rem hb2 (by omega), Nat.mod_mul_mod, Nat.pow_succ, Nat.mul_assoc]
    refine br_f (by rw [e2]; exact nI_ge (by omega) (by omega)) ⟨nI_ne0 p0 (by omega), nm_r er (nm_r (nI_1 k) (ih (k + 1) (by omega)))⟩
theorem xw_quo (h : cg_L p a b c ax ay) {z w : Nat} (hz : z < p) (hw : w < p) {post : Int32 → Prop} (hp : post (nI (z * w ^ (p - 2) % p))) : wpX_quotient post (nI p, nI a, nI b, nI c, ax, ay) (nI z) (nI w) := by
  have q := wk_b h
  have w1 := xw_quo_l (a := a) (b := b) (c := c) (ax := ax) (ay := ay) ⟨q.1, q.2.1⟩ hw hp (p - 2) 0 (by omega)
  have e : z * w ^ 0 % p = z := by rw [Nat.pow_zero, Nat.mul_one, Nat.mod_eq_of_lt hz]
  rw [e, nI_0] at w1
  exact ⟨p - 2 + 1, w1⟩
/-- rise and run of the slope -/
def cg_top (a x y u v : Nat) : Int := if x = u then 3 * (x : Int) * x + a else (v : Int) - y
def cg_bot (x y u : Nat) : Int := if x = u then 2 * (y : Int) else (u : Int) - x
theorem cg_sl_of {l z w : Nat} {x y u v : Nat} (hz : z = ec_m p (cg_top a x y u v)) (hw : w = ec_m p (cg_bot x y u)) (p0 : 0 < p) : mq_ p ((w : Int) * l) (z : Int) ↔ ec_sl p a x y u v l := by
  have q1 : mq_ p (z : Int) (cg_top a x y u v) := by rw [hz]; exact ec_m_q p0 _
  have q2 : mq_ p (w : Int) (cg_bot x y u) := by rw [hw]; exact ec_m_q p0 _
  have k : mq_ p ((w : Int) * l) (z : Int) ↔ mq_ p (cg_bot x y u * l) (cg_top a x y u v) := by
    constructor
    · intro g; exact mq_t (mq_m (mq_s q2) mq_r) (mq_t g q1)
    · intro g; exact mq_t (mq_m q2 mq_r) (mq_t g (mq_s q1))
  rw [k]
  unfold cg_top cg_bot ec_sl
  by_cases e : x = u
  · rw [if_pos e, if_pos e]
    have e1 : 3 * (x : Int) * x + a = 3 * ((x : Int) * x) + a := by rw [Int.mul_assoc]
    rw [e1]
    exact ⟨fun g => ⟨fun _ => g, fun n => absurd e n⟩, fun g => g.1 e⟩
  · rw [if_neg e, if_neg e]
    exact ⟨fun g => ⟨fun n => absurd n e, fun _ => g⟩, fun g => g.2 e⟩
theorem cg_bot_n {x y u v : Nat} (hp : ec_P p) (hx : x < p) (hu : u < p) (ho : x = u → y = v) (hz : ¬ (x = u ∧ (y + v) % p = 0)) : ¬ ec_m p (cg_bot x y u) % p = 0 := by
  have b' := ec_P_b hp
  intro g
  have g1 : mq_ p (cg_bot x y u) 0 := mq_t (mq_s (ec_m_q (by omega) _)) (mq_0.mpr g)
  unfold cg_bot at g1
  by_cases e : x = u
  · rw [if_pos e] at g1
    exact ec_2y (fun z => hz ⟨e, by rw [← ho e]; exact z⟩) g1
  · rw [if_neg e] at g1
    exact ec_ne hx hu e g1
theorem cg_on_at (h : cg_L p a b c ax ay) {i x y : Nat} (h1 : 1 ≤ i) (hi : i < c) (hx : x < p) (hy : y < p) (ex : ax i = nI x) (ey : ay i = nI y) : ec_on p a b x y := by
  have q := wk_b h
  obtain ⟨x', y', hx', hy', ho, ex', ey', _⟩ := cg_at h h1 hi
  rw [ex, nI_eq (by omega) (by omega)] at ex'
  rw [ey, nI_eq (by omega) (by omega)] at ey'
  rw [ex', ey']; exact ho
theorem cg_same (h : cg_L p a b c ax ay) {i j x y u v : Nat} (hi : i < c) (hj : j < c) (h1 : 1 ≤ i) (h2 : 1 ≤ j) (hx : x < p) (hy : y < p) (hu : u < p) (hv : v < p) (ex : ax i = nI x) (ey : ay i = nI y) (eu : ax j = nI u) (ev : ay j = nI v) (hz : ¬ (x = u ∧ (y + v) % p = 0)) : x = u → y = v := by
  intro e
  have o1 := cg_on_at h h1 hi hx hy ex ey
  have o2 := cg_on_at h h2 hj hu hv eu ev
  exact ec_opp h.1.1 hy hv o1 (e ▸ o2) (fun z => hz ⟨e, z⟩)
theorem cg_top_i {x y u v : Nat} (ha : a < 61) (hx : x < 61) (hy : y < 61) (hv : v < 61) : zi_in (cg_top a x y u v) := by
  unfold cg_top
  by_cases e : x = u
  · rw [if_pos e]
    exact zb_in (zb_a (zb_m (zb_m (A := 3) (by decide) (zb_n hx)) (zb_n hx)) (zb_n ha)) (by decide)
  · rw [if_neg e]
    exact zb_in (zb_s (zb_n hv) (zb_n hy)) (by decide)
theorem cg_bot_i {x y u : Nat} (hx : x < 61) (hy : y < 61) (hu : u < 61) : zi_in (cg_bot x y u) := by
  unfold cg_bot
  by_cases e : x = u
  · rw [if_pos e]
    exact zb_in (zb_m (A := 2) (by decide) (zb_n hy)) (by decide)
  · rw [if_neg e]
    exact zb_in (zb_s (zb_n hu) (zb_n hx)) (by decide)
theorem zi_3 : (3 : Int32) = zi_ 3 := by decide
theorem zi_2 : (2 : Int32) = zi_ 2 := by decide
theorem xw_s62 (h : cg_L p a b c ax ay) {i j x y u v : Nat} (hi : i < c) (hj : j < c) (h1 : 1 ≤ i) (h2 : 1 ≤ j) (hx : x < p) (hy : y < p) (hu : u < p) (hv : v < p) (ex : ax i = nI x) (ey : ay i = nI y) (eu : ax j = nI u) (ev : ay j = nI v) (hz : ¬ (x = u ∧ (y + v) % p = 0)) {z0 : Int32} (e0 : z0 = zi_ (cg_bot x y u)) {post : Int32 → Prop} (hp : post (nI (cg_S p a c ax ay i j))) : wX_sumOfPairs_62 post (nI x) (nI y) (nI u) (nI (ec_m p (cg_top a x y u v))) z0 (nI p) (nI a) (nI b) (nI c) ax ay := by
  have q := wk_b h
  have p0 : 0 < p := by omega
  have ho := cg_same h hi hj h1 h2 hx hy hu hv ex ey eu ev hz
  obtain ⟨l, hl, s, un, n1, hS, eX, eY⟩ := cg_S_F h hi hj h1 h2 hx hy hu hv ex ey eu ev hz
  have el : ec_m p (cg_top a x y u v) * ec_m p (cg_bot x y u) ^ (p - 2) % p = l := by
    refine un _ (Nat.mod_lt _ p0) ((cg_sl_of rfl rfl p0).mp ?_)
    exact ec_div h.1.1 (cg_bot_n h.1.1 hx hu ho hz)
  unfold wX_sumOfPairs_62
  refine xw_red h e0 (cg_bot_i (by omega) (by omega) (by omega)) ?_
  refine xw_quo h (ec_m_lt p0 _) (ec_m_lt p0 _) ?_
  rw [el]
  refine xw_red h (z := (l : Int) * l - x - u) (by simp only [zi_n, zi_mul, zi_sub]) (zb_in (zb_s (zb_s (zb_m (zb_n (N := 61) (by omega)) (zb_n (N := 61) (by omega))) (zb_n (N := 61) (by omega))) (zb_n (N := 61) (by omega))) (by decide)) ?_
  have hr : ec_r p x u l < p := ec_m_lt p0 _
  refine xw_red h (z := (l : Int) * ((x : Int) - (ec_r p x u l : Nat)) - y) (by simp only [zi_n, zi_mul, zi_sub]; rfl) (zb_in (zb_s (zb_m (zb_n (N := 61) (by omega)) (zb_s (zb_n (N := 61) (by omega)) (zb_n (N := 61) (by omega)))) (zb_n (N := 61) (by omega))) (by decide)) ?_
  have fr := cg_fr_at h n1 hS
  rw [eX, eY] at fr
  exact xw_find h fr hp
theorem xw_s19 (h : cg_L p a b c ax ay) {i j x y u v : Nat} (hi : i < c) (hj : j < c) (h1 : 1 ≤ i) (h2 : 1 ≤ j) (hx : x < p) (hy : y < p) (hu : u < p) (hv : v < p) (ex : ax i = nI x) (ey : ay i = nI y) (eu : ax j = nI u) (ev : ay j = nI v) (hz : ¬ (x = u ∧ (y + v) % p = 0)) {post : Int32 → Prop} (hp : post (nI (cg_S p a c ax ay i j))) : wX_sumOfPairs_19 post (nI x) (nI y) (nI u) (nI v) (nI p) (nI a) (nI b) (nI c) ax ay := by
  have q := wk_b h
  have ha := h.1.2.1
  have hi1 : zi_in (cg_top a x y u v) := cg_top_i (by omega) (by omega) (by omega) (by omega)
  have k : ∀ {z0 : Int32}, z0 = zi_ (cg_top a x y u v) → wX_sumOfPairs_42 post (nI x) (nI y) (nI u) z0 (nI p) (nI a) (nI b) (nI c) ax ay := by
    intro z0 e0
    unfold wX_sumOfPairs_42
    refine xw_red h e0 hi1 ?_
    by_cases e : x = u
    · refine br_t (by rw [e]) (xw_s62 h hi hj h1 h2 hx hy hu hv ex ey eu ev hz ?_ hp)
      unfold cg_bot
      rw [if_pos e, zi_2, zi_n, zi_mul]
    · refine br_f (fun w => e ((nI_eq (by omega) (by omega)).mp w)) (xw_s62 h hi hj h1 h2 hx hy hu hv ex ey eu ev hz ?_ hp)
      unfold cg_bot
      rw [if_neg e, zi_n, zi_n, zi_sub]
  unfold wX_sumOfPairs_19
  by_cases e : x = u
  · refine br_t (by rw [e]) (k ?_)
    unfold cg_top
    rw [if_pos e, zi_3, zi_n, zi_n, zi_mul, zi_mul, zi_add]
  · refine br_f (fun w => e ((nI_eq (by omega) (by omega)).mp w)) (k ?_)
    unfold cg_top
    rw [if_neg e, zi_n, zi_n, zi_sub]
theorem xw_sop (h : cg_L p a b c ax ay) {i j x y u v : Nat} (hi : i < c) (hj : j < c) (h1 : 1 ≤ i) (h2 : 1 ≤ j) (hx : x < p) (hy : y < p) (hu : u < p) (hv : v < p) (ex : ax i = nI x) (ey : ay i = nI y) (eu : ax j = nI u) (ev : ay j = nI v) {post : Int32 → Prop} (hp : post (nI (cg_S p a c ax ay i j))) : wpX_sumOfPairs post (nI p, nI a, nI b, nI c, ax, ay) (nI x) (nI y) (nI u) (nI v) := by
  have q := wk_b h
  have er : nI y + nI v - (nI y + nI v) / nI p * nI p = nI ((y + v) % p) := by
    rw [nI_add, wk_rem (by omega) (by omega)]
  by_cases e : x = u
  · refine br_t (by rw [e]) ⟨nI_ne0 (by omega) (by omega), ?_⟩
    have hm : (y + v) % p < p := Nat.mod_lt _ (by omega)
    by_cases g : (y + v) % p = 0
    · refine br_t (by rw [er, g]; exact nI_0) ?_
      rw [cg_S_O h hi hj h1 h2 hx hy hu hv ex ey eu ev e g, nI_0] at hp
      exact hp
    · refine br_f (by rw [er]; exact fun w => g ((wk_eq0 (by omega)).mp w)) ?_
      exact xw_s19 h hi hj h1 h2 hx hy hu hv ex ey eu ev (fun w => g w.2) hp
  · refine br_f (fun w => e ((nI_eq (by omega) (by omega)).mp w)) ?_
    exact xw_s19 h hi hj h1 h2 hx hy hu hv ex ey eu ev (fun w => e w.1) hp
theorem xw_add (h : cg_L p a b c ax ay) {i j : Nat} (hi : i < c) (hj : j < c) {post : Int32 → Prop} (hp : post (nI (cg_S p a c ax ay i j))) : wpX_add post (nI p, nI a, nI b, nI c, ax, ay) (nI i) (nI j) := by
  have q := wk_b h
  have g := cg_ok h
  unfold wpX_add
  dsimp only
  refine xw_ip_t h hi ?_
  refine br_f wk_10 ?_
  refine xw_ip_t h hj ?_
  refine br_f wk_10 ?_
  rcases Nat.eq_zero_or_pos i with e | e
  · refine br_t (by rw [e]; exact nI_0) ?_
    rw [e, g.2.2.1 j hj] at hp
    exact hp
  · refine br_f (nI_ne0 e (by omega)) ?_
    rcases Nat.eq_zero_or_pos j with e' | e'
    · refine br_t (by rw [e']; exact nI_0) ?_
      rw [e', g.2.2.2.1 i hi] at hp
      exact hp
    · refine br_f (nI_ne0 e' (by omega)) ⟨vp_in_nI (by omega) (by omega), vp_in_nI (by omega) (by omega), vp_in_nI (by omega) (by omega), vp_in_nI (by omega) (by omega), ?_⟩
      obtain ⟨x, y, hx, hy, _, ex, ey, _⟩ := cg_at h e hi
      obtain ⟨u, v, hu, hv, _, eu, ev, _⟩ := cg_at h e' hj
      rw [nI_clamp (by omega), nI_clamp (by omega), ex, ey, eu, ev]
      exact xw_sop h hi hj e e' hx hy hu hv ex ey eu ev hp
theorem yw_div (h : cg_L p a b c ax ay) {z w l : Nat} (hz : z < p) (hw : w < p) (hl : l < p) (e : mq_ p ((w : Int) * l) z) (hn : ∀ q, q < l → ¬ mq_ p ((w : Int) * q) z) {post : Int32 → Prop} (hp : post (nI l)) : wpY_divide post (nI p, nI a, nI b, nI c, ax, ay) (nI z) (nI w) := by
  have q := wk_b h
  have p0 : 0 < p := by omega
  have st : ∀ k, k < p → ∀ {Q : Int32 → Prop}, Q (nI (ec_m p ((k : Int) * w - z))) → wpY_rest Q (nI p, nI a, nI b, nI c, ax, ay) (nI k * nI w - nI z) := by
    intro k hk Q hQ
    exact yw_rest h (z := (k : Int) * w - z) (by simp only [zi_n, zi_mul, zi_sub]) (zb_in (zb_s (zb_m (zb_n (N := 61) (by omega)) (zb_n (N := 61) (by omega))) (zb_n (N := 61) (by omega))) (by decide)) hQ
  have k0 : ∀ k : Nat, ec_m p ((k : Int) * w - z) = 0 ↔ mq_ p ((w : Int) * k) z := by
    intro k
    constructor
    · intro g
      have g1 := ec_m_q p0 ((k : Int) * w - z)
      rw [g] at g1
      have g2 := mq_a (mq_s g1) (mq_r (p := p) (x := (z : Int)))
      have e1 : (k : Int) * w - z + z = (w : Int) * k := by grind
      have e2 : ((0 : Nat) : Int) + z = z := Int.zero_add _
      rw [e1, e2] at g2
      exact g2
    · intro g
      refine ec_m_of p0 ?_
      have g1 := mq_d g (mq_r (p := p) (x := (z : Int)))
      have e1 : (w : Int) * k - z = (k : Int) * w - z := by grind
      have e2 : (z : Int) - z = ((0 : Nat) : Int) := Int.sub_self _
      rw [e1, e2] at g1
      exact mq_s g1
  have lp : ∀ d k, k + d = l → wY_divide_2 post (nI z) (nI w) (nI p) (nI a) (nI b) (nI c) ax ay (d + 1) (nI k) := by
    intro d
    induction d with
    | zero =>
      intro k hk
      unfold wY_divide_2
      refine st k (by omega) (br_t ?_ ?_)
      · rw [(k0 k).mpr (by rw [show k = l by omega]; exact e)]; exact nI_0
      · rw [show k = l by omega]; exact hp
    | succ d ih =>
      intro k hk
      unfold wY_divide_2
      refine st k (by omega) (br_f ?_ ?_)
      · intro g
        have hm : ec_m p ((k : Int) * w - z) < p := ec_m_lt p0 _
        exact hn k (by omega) ((k0 k).mp ((wk_eq0 (by omega)).mp g))
      · exact nm_r (nI_1 k) (ih (k + 1) (by omega))
  have w1 := lp l 0 (by omega)
  rw [nI_0] at w1
  exact ⟨l + 1, w1⟩
theorem yw_s145 (h : cg_L p a b c ax ay) {i j x y u v : Nat} (hi : i < c) (hj : j < c) (h1 : 1 ≤ i) (h2 : 1 ≤ j) (hx : x < p) (hy : y < p) (hu : u < p) (hv : v < p) (ex : ax i = nI x) (ey : ay i = nI y) (eu : ax j = nI u) (ev : ay j = nI v) (hz : ¬ (x = u ∧ (y + v) % p = 0)) {post : Int32 → Prop} (hp : post (nI (cg_S p a c ax ay i j))) : wY_sum_145 post (nI i) (nI j) (nI (ec_m p (cg_top a x y u v))) (nI (ec_m p (cg_bot x y u))) (nI p) (nI a) (nI b) (nI c) ax ay := by
  have q := wk_b h
  have p0 : 0 < p := by omega
  have ho := cg_same h hi hj h1 h2 hx hy hu hv ex ey eu ev hz
  obtain ⟨l, hl, s, un, n1, hS, eX, eY⟩ := cg_S_F h hi hj h1 h2 hx hy hu hv ex ey eu ev hz
  have v1 : vp_in (nI i) 140 := vp_in_nI (by omega) (by omega)
  have v2 : vp_in (nI j) 140 := vp_in_nI (by omega) (by omega)
  unfold wY_sum_145
  refine yw_div h (ec_m_lt p0 _) (ec_m_lt p0 _) hl ((cg_sl_of rfl rfl p0).mpr s) (fun k hk g => ?_) ?_
  · have e := un k (by omega) ((cg_sl_of rfl rfl p0).mp g)
    omega
  · rw [nI_clamp (by omega), nI_clamp (by omega), ex, ey, eu]
    refine ⟨v1, v2, ?_⟩
    refine yw_rest h (z := (l : Int) * l - x - u) (by simp only [zi_n, zi_mul, zi_sub]) (zb_in (zb_s (zb_s (zb_m (zb_n (N := 61) (by omega)) (zb_n (N := 61) (by omega))) (zb_n (N := 61) (by omega))) (zb_n (N := 61) (by omega))) (by decide)) ?_
    have hr : ec_r p x u l < p := ec_m_lt p0 _
    refine ⟨v1, v1, ?_⟩
    refine yw_rest h (z := (l : Int) * ((x : Int) - (ec_r p x u l : Nat)) - y) (by simp only [zi_n, zi_mul, zi_sub]; rfl) (zb_in (zb_s (zb_m (zb_n (N := 61) (by omega)) (zb_s (zb_n (N := 61) (by omega)) (zb_n (N := 61) (by omega)))) (zb_n (N := 61) (by omega))) (by decide)) ?_
    have fr := cg_fr_at h n1 hS
    rw [eX, eY] at fr
    exact yw_find h fr hp
theorem yw_s59 (h : cg_L p a b c ax ay) {i j x y u v : Nat} (hi : i < c) (hj : j < c) (h1 : 1 ≤ i) (h2 : 1 ≤ j) (hx : x < p) (hy : y < p) (hu : u < p) (hv : v < p) (ex : ax i = nI x) (ey : ay i = nI y) (eu : ax j = nI u) (ev : ay j = nI v) (hz : ¬ (x = u ∧ (y + v) % p = 0)) {x3 : Int32} (e3 : x3 = 0 ↔ ¬ x = u) {post : Int32 → Prop} (hp : post (nI (cg_S p a c ax ay i j))) : wY_sum_59 post (nI i) (nI j) x3 (nI p) (nI a) (nI b) (nI c) ax ay := by
  have q := wk_b h
  have ha := h.1.2.1
  have v1 : vp_in (nI i) 140 := vp_in_nI (by omega) (by omega)
  have v2 : vp_in (nI j) 140 := vp_in_nI (by omega) (by omega)
  have c1 : (nI i).toNatClampNeg = i := nI_clamp (by omega)
  have c2 : (nI j).toNatClampNeg = j := nI_clamp (by omega)
  have it : zi_in (cg_top a x y u v) := cg_top_i (by omega) (by omega) (by omega) (by omega)
  have ib : zi_in (cg_bot x y u) := cg_bot_i (by omega) (by omega) (by omega)
  have fin := yw_s145 h hi hj h1 h2 hx hy hu hv ex ey eu ev hz hp
  have k : wY_sum_107 post (nI i) (nI j) x3 (nI (ec_m p (cg_top a x y u v))) (nI p) (nI a) (nI b) (nI c) ax ay := by
    unfold wY_sum_107
    rw [c1, c2, ex, ey, eu]
    by_cases e : x = u
    · refine br_f (fun w => e3.mp w e) ⟨v1, yw_rest h (z := cg_bot x y u) ?_ ib fin⟩
      unfold cg_bot
      rw [if_pos e, zi_2, zi_n, zi_mul]
    · refine br_t (e3.mpr e) ⟨v2, v1, yw_rest h (z := cg_bot x y u) ?_ ib fin⟩
      unfold cg_bot
      rw [if_neg e, zi_n, zi_n, zi_sub]
  unfold wY_sum_59
  rw [c1, c2, ex, ey, ev]
  by_cases e : x = u
  · refine br_f (fun w => e3.mp w e) ⟨v1, v1, yw_rest h (z := cg_top a x y u v) ?_ it k⟩
    unfold cg_top
    rw [if_pos e, zi_3, zi_n, zi_n, zi_mul, zi_mul, zi_add]
  · refine br_t (e3.mpr e) ⟨v2, v1, yw_rest h (z := cg_top a x y u v) ?_ it k⟩
    unfold cg_top
    rw [if_neg e, zi_n, zi_n, zi_sub]
theorem yw_sum (h : cg_L p a b c ax ay) {i j : Nat} (hi : i < c) (hj : j < c) {post : Int32 → Prop} (hp : post (nI (cg_S p a c ax ay i j))) : wpY_sum post (nI p, nI a, nI b, nI c, ax, ay) (nI i) (nI j) := by
  have q := wk_b h
  have g := cg_ok h
  rcases Nat.eq_zero_or_pos i with e | e
  · refine br_t (by rw [e]; exact nI_0) ?_
    rw [e, g.2.2.1 j hj] at hp
    exact hp
  · refine br_f (nI_ne0 e (by omega)) ?_
    rcases Nat.eq_zero_or_pos j with e' | e'
    · refine br_t (by rw [e']; exact nI_0) ?_
      rw [e', g.2.2.2.1 i hi] at hp
      exact hp
    · have v1 : vp_in (nI i) 140 := vp_in_nI (by omega) (by omega)
      have v2 : vp_in (nI j) 140 := vp_in_nI (by omega) (by omega)
      have c1 : (nI i).toNatClampNeg = i := nI_clamp (by omega)
      have c2 : (nI j).toNatClampNeg = j := nI_clamp (by omega)
      refine br_f (nI_ne0 e' (by omega)) ⟨v1, v2, ?_⟩
      obtain ⟨x, y, hx, hy, _, ex, ey, _⟩ := cg_at h e hi
      obtain ⟨u, v, hu, hv, _, eu, ev, _⟩ := cg_at h e' hj
      rw [c1, c2, ex, eu]
      by_cases w : x = u
      · refine br_t (by rw [w]) ?_
        unfold wY_sum_32
        refine br_f (by decide) ⟨v1, v2, ?_⟩
        rw [c1, c2, ey, ev]
        have em : ec_m p (((y + v : Nat) : Int)) = (y + v) % p := ec_m_n p (y + v)
        have hm : (y + v) % p < p := Nat.mod_lt _ (by omega)
        refine yw_rest h (z := ((y + v : Nat) : Int)) (by rw [nI_add, zi_n]) (zb_in (zb_n (N := 200) (by omega)) (by decide)) ?_
        rw [em]
        by_cases z : (y + v) % p = 0
        · refine br_t (by rw [z]; exact nI_0) ?_
          rw [cg_S_O h hi hj e e' hx hy hu hv ex ey eu ev w z, nI_0] at hp
          exact hp
        · refine br_f (fun t => z ((wk_eq0 (by omega)).mp t)) ?_
          exact yw_s59 h hi hj e e' hx hy hu hv ex ey eu ev (fun t => z t.2) ⟨fun t => absurd t (by decide), fun t => absurd w t⟩ hp
      · refine br_f (fun t => w ((nI_eq (by omega) (by omega)).mp t)) ?_
        unfold wY_sum_32
        refine br_t rfl ?_
        exact yw_s59 h hi hj e e' hx hy hu hv ex ey eu ev (fun t => w t.1) ⟨fun _ => w, fun _ => rfl⟩ hp
theorem yw_add (h : cg_L p a b c ax ay) {i j : Nat} (hi : i < c) (hj : j < c) {post : Int32 → Prop} (hp : post (nI (cg_S p a c ax ay i j))) : wpY_add post (nI p, nI a, nI b, nI c, ax, ay) (nI i) (nI j) := by
  unfold wpY_add
  dsimp only
  refine yw_np_t h hi ?_
  refine br_t rfl ?_
  refine yw_np_t h hj ?_
  refine br_t rfl ?_
  exact yw_sum h hi hj hp
end WKS
