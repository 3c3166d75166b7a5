/-! the methods that run over all points -/
section WKC
variable {p a b c : Nat} {ax ay : Nat → Int32}
theorem wk_mx1 (h : cg_L p a b c ax ay) : gp_mx (cg_S p a c ax ay) 1 = 1 ∧ gp_gn (cg_S p a c ax ay) 1 = 0 := by
  have e := gp_ord_0 (cg_ok h)
  have l : gp_mx (cg_S p a c ax ay) 0 < gp_ord (cg_S p a c ax ay) 0 := by rw [e]; exact Nat.zero_lt_one
  exact ⟨(if_pos l).trans e, if_pos l⟩
theorem wk_mxt {S : Nat → Nat → Nat} {n : Nat} (g : gp_mx S n < gp_ord S n) : gp_mx S (n + 1) = gp_ord S n ∧ gp_gn S (n + 1) = n := ⟨if_pos g, if_pos g⟩
theorem wk_mxf {S : Nat → Nat → Nat} {n : Nat} (g : ¬ gp_mx S n < gp_ord S n) : gp_mx S (n + 1) = gp_mx S n ∧ gp_gn S (n + 1) = gp_gn S n := ⟨if_neg g, if_neg g⟩
theorem xw_gen (h : cg_L p a b c ax ay) {post : Int32 → Prop} (hp : post (nI (gp_gn (cg_S p a c ax ay) c))) : wpX_generator post (nI p, nI a, nI b, nI c, ax, ay) := by
  have q := wk_b h
  have lp : ∀ d k, k + d = c → 1 ≤ k → wX_generator_6 post (nI p) (nI a) (nI b) (nI c) ax ay (d + 1) (nI (gp_gn (cg_S p a c ax ay) k)) (nI (gp_mx (cg_S p a c ax ay) k)) (nI k) := by
    intro d
    induction d with
    | zero =>
      intro k hk k1
      refine br_t (nI_le (by omega) (by omega)) ?_
      rw [show k = c by omega]; exact hp
    | succ d ih =>
      intro k hk k1
      have hkc : k < c := by omega
      obtain ⟨o1, o2, o3, o4⟩ := gp_ord_s (cg_ok h) hkc
      have m := gp_mx_c (cg_ok h) (n := k) (by omega) (by omega)
      refine br_f (nI_ge (by omega) (by omega)) (xw_ord h hkc ?_)
      have nx := ih (k + 1) (by omega) (by omega)
      by_cases g : gp_mx (cg_S p a c ax ay) k < gp_ord (cg_S p a c ax ay) k
      · have e := wk_mxt g
        rw [e.1, e.2] at nx
        exact br_f (nI_ge (by omega) (by omega)) (nm_r (nI_1 k) nx)
      · have e := wk_mxf g
        rw [e.1, e.2] at nx
        exact br_t (nI_le (by omega) (by omega)) (nm_r (nI_1 k) nx)
  have w := lp (c - 1) 1 (by omega) (by omega)
  rw [(wk_mx1 h).1, (wk_mx1 h).2, nI_0] at w
  exact ⟨_, w⟩
theorem yw_exp (h : cg_L p a b c ax ay) {post : Int32 → Prop} (hp : post (nI (gp_mx (cg_S p a c ax ay) c))) : wpY_exponent post (nI p, nI a, nI b, nI c, ax, ay) := by
  have q := wk_b h
  have lp : ∀ d k, k + d = c → wY_exponent_4 post (nI p) (nI a) (nI b) (nI c) ax ay (d + 1) (nI (gp_mx (cg_S p a c ax ay) k)) (nI k) := by
    intro d
    induction d with
    | zero =>
      intro k hk
      refine br_t (nI_le (by omega) (by omega)) ?_
      rw [show k = c by omega]; exact hp
    | succ d ih =>
      intro k hk
      have hkc : k < c := by omega
      obtain ⟨o1, o2, o3, o4⟩ := gp_ord_s (cg_ok h) hkc
      have mb : gp_mx (cg_S p a c ax ay) k ≤ c := by
        rcases Nat.eq_zero_or_pos k with z | z
        · rw [z]; exact Nat.zero_le _
        · exact (gp_mx_c (cg_ok h) (n := k) z (by omega)).2.1
      refine br_f (nI_ge (by omega) (by omega)) (yw_ord h hkc ?_)
      have nx := ih (k + 1) (by omega)
      by_cases g : gp_mx (cg_S p a c ax ay) k < gp_ord (cg_S p a c ax ay) k
      · have e := wk_mxt g
        rw [e.1] at nx
        exact br_f (nI_ge (by omega) (by omega)) (nm_r (nI_1 k) nx)
      · have e := wk_mxf g
        rw [e.1] at nx
        exact br_t (nI_le (by omega) (by omega)) (nm_r (nI_1 k) nx)
  have w := lp c 0 (by omega)
  have e0 : gp_mx (cg_S p a c ax ay) 0 = 0 := rfl
  rw [e0, nI_0] at w
  exact ⟨_, w⟩
theorem yw_gen (h : cg_L p a b c ax ay) {post : Int32 → Prop} (hp : post (nI (gp_gn (cg_S p a c ax ay) c))) : wpY_generator post (nI p, nI a, nI b, nI c, ax, ay) := by
  have q := wk_b h
  obtain ⟨m1, m2, m3, m4, m5⟩ := gp_mx_c (cg_ok h) (n := c) (by omega) (Nat.le_refl c)
  unfold wpY_generator
  dsimp only
  refine yw_exp h ?_
  have lp : ∀ d k, k + d = gp_gn (cg_S p a c ax ay) c → wY_generator_7 post (nI (gp_mx (cg_S p a c ax ay) c)) (nI p) (nI a) (nI b) (nI c) ax ay (d + 1) (nI k) := by
    intro d
    induction d with
    | zero =>
      intro k hk
      have ek : k = gp_gn (cg_S p a c ax ay) c := by omega
      unfold wY_generator_7
      refine yw_ord h (by omega) ?_
      refine br_t ?_ ?_
      · rw [ek, m4]
      · rw [ek]; exact hp
    | succ d ih =>
      intro k hk
      have l := m5 k (by omega)
      unfold wY_generator_7
      refine yw_ord h (by omega) ?_
      refine br_f (fun g => ?_) (nm_r (nI_1 k) (ih (k + 1) (by omega)))
      have e := (nI_eq (by omega) (by omega)).mp g
      omega
  have w := lp (gp_gn (cg_S p a c ax ay) c) 0 (by omega)
  rw [nI_0] at w
  exact ⟨_, w⟩
theorem xw_exp (h : cg_L p a b c ax ay) {post : Int32 → Prop} (hp : post (nI (gp_mx (cg_S p a c ax ay) c))) : wpX_exponent post (nI p, nI a, nI b, nI c, ax, ay) := by
  have q := wk_b h
  obtain ⟨m1, m2, m3, m4, m5⟩ := gp_mx_c (cg_ok h) (n := c) (by omega) (Nat.le_refl c)
  unfold wpX_exponent
  dsimp only
  refine xw_gen h ?_
  refine xw_ord h m3 ?_
  rw [m4]; exact hp
theorem xw_wid (h : cg_L p a b c ax ay) {post : Int32 → Prop} (hp : post (nI c / nI (gp_mx (cg_S p a c ax ay) c))) : wpX_width post (nI p, nI a, nI b, nI c, ax, ay) := by
  have q := wk_b h
  obtain ⟨m1, m2, m3, m4, m5⟩ := gp_mx_c (cg_ok h) (n := c) (by omega) (Nat.le_refl c)
  unfold wpX_width
  dsimp only
  refine xw_gen h ?_
  refine xw_ord h m3 ?_
  rw [m4]
  exact br_f (nI_nle m1 (by omega)) ⟨nI_ne0 m1 (by omega), hp⟩
theorem yw_wid (h : cg_L p a b c ax ay) {post : Int32 → Prop} (hp : post (nI c / nI (gp_mx (cg_S p a c ax ay) c))) : wpY_width post (nI p, nI a, nI b, nI c, ax, ay) := by
  have q := wk_b h
  obtain ⟨m1, m2, m3, m4, m5⟩ := gp_mx_c (cg_ok h) (n := c) (by omega) (Nat.le_refl c)
  unfold wpY_width
  dsimp only
  refine yw_exp h ?_
  exact ⟨nI_ne0 m1 (by omega), hp⟩
/-- how many k have m k = i -/
noncomputable def cg_rt (p a c : Nat) (ax ay : Nat → Int32) (i : Nat) (e : Int) (n : Nat) : Nat := gp_cn (fun k => Nat.beq (gp_tm (cg_S p a c ax ay) k e) i) n
theorem wk_cnt {f : Nat → Bool} {n : Nat} (g : f n = true) : nI (gp_cn f n) + 1 = nI (gp_cn f (n + 1)) := by rw [gp_cn_t g, nI_1]
theorem xw_rts (h : cg_L p a b c ax ay) {i : Nat} (hi : i < c) {v : Int32} (h1 : ¬ v < 1) (h2 : v ≤ 1000) {post : Int32 → Prop} (hp : post (nI (cg_rt p a c ax ay i v.toInt c))) : wpX_roots post (nI p, nI a, nI b, nI c, ax, ay) (nI i) v := by
  have q := wk_b h
  have t1 : ¬ v < -1000000 := fun g => h1 (Int32.lt_trans g (by decide))
  have t2 : v ≤ 1000000 := Int32.le_trans h2 (by decide)
  unfold wpX_roots
  dsimp only
  refine xw_ip_t h hi ?_
  refine br_f wk_10 ?_
  refine br_f h1 ?_
  refine br_t h2 ?_
  have lp : ∀ d k, k + d = c → wX_roots_27 post (nI i) v (nI p) (nI a) (nI b) (nI c) ax ay (d + 1) (nI (cg_rt p a c ax ay i v.toInt k)) (nI k) := by
    intro d
    induction d with
    | zero =>
      intro k hk
      refine br_t (nI_le (by omega) (by omega)) ?_
      rw [show k = c by omega]; exact hp
    | succ d ih =>
      intro k hk
      have hl := gp_tm_lt (cg_ok h) (show k < c by omega) v.toInt
      have nx := ih (k + 1) (by omega)
      refine br_f (nI_ge (by omega) (by omega)) (xw_times h (by omega) t1 t2 ?_)
      by_cases g : gp_tm (cg_S p a c ax ay) k v.toInt = i
      · have w : nI (cg_rt p a c ax ay i v.toInt k) + 1 = nI (cg_rt p a c ax ay i v.toInt (k + 1)) := wk_cnt (by rw [g]; exact Nat.beq_refl i)
        exact br_t (by rw [g]) (nm_r w (nm_r (nI_1 k) nx))
      · have w : cg_rt p a c ax ay i v.toInt (k + 1) = cg_rt p a c ax ay i v.toInt k := gp_cn_f (fun z => g (Nat.eq_of_beq_eq_true z))
        rw [w] at nx
        exact br_f (fun z => g ((nI_eq (by omega) (by omega)).mp z)) (nm_r (nI_1 k) nx)
  have w := lp c 0 (by omega)
  have e0 : cg_rt p a c ax ay i v.toInt 0 = 0 := rfl
  rw [e0, nI_0] at w
  exact ⟨_, w⟩
theorem yw_nt_t {v : Int32} (h1 : ¬ v < 1) (h2 : v ≤ 1000) {u : SY} {post : Int32 → Prop} (hp : post 0) : wpY_noTimes post u v := by
  obtain ⟨f1, f2, f3, f4, f5, f6⟩ := u
  exact br_f h1 (br_t h2 hp)
theorem yw_nt_f {v : Int32} (h1 : v < 1 ∨ ¬ v ≤ 1000) {u : SY} {post : Int32 → Prop} (hp : post 1) : wpY_noTimes post u v := by
  obtain ⟨f1, f2, f3, f4, f5, f6⟩ := u
  by_cases g : v < 1
  · exact br_t g hp
  · rcases h1 with w | w
    · exact absurd w g
    · exact br_f g (br_f w hp)
theorem yw_rts (h : cg_L p a b c ax ay) {i : Nat} (hi : i < c) {v : Int32} (h1 : ¬ v < 1) (h2 : v ≤ 1000) {post : Int32 → Prop} (hp : post (nI (cg_rt p a c ax ay i v.toInt c))) : wpY_roots post (nI p, nI a, nI b, nI c, ax, ay) (nI i) v := by
  have q := wk_b h
  have t1 : ¬ v < -1000000 := fun g => h1 (Int32.lt_trans g (by decide))
  have t2 : v ≤ 1000000 := Int32.le_trans h2 (by decide)
  unfold wpY_roots
  dsimp only
  refine yw_np_t h hi ?_
  refine br_t rfl ?_
  refine yw_nt_t h1 h2 ?_
  refine br_t rfl ?_
  have lp : ∀ d k, k + d = c → wY_roots_23 post (nI i) v (nI p) (nI a) (nI b) (nI c) ax ay (d + 1) (nI (cg_rt p a c ax ay i v.toInt k)) (nI k) := by
    intro d
    induction d with
    | zero =>
      intro k hk
      refine br_t (nI_le (by omega) (by omega)) ?_
      rw [show k = c by omega]; exact hp
    | succ d ih =>
      intro k hk
      have hl := gp_tm_lt (cg_ok h) (show k < c by omega) v.toInt
      have nx := ih (k + 1) (by omega)
      refine br_f (nI_ge (by omega) (by omega)) (yw_mul h (by omega) t1 t2 ?_)
      by_cases g : gp_tm (cg_S p a c ax ay) k v.toInt = i
      · have w : nI (cg_rt p a c ax ay i v.toInt k) + 1 = nI (cg_rt p a c ax ay i v.toInt (k + 1)) := wk_cnt (by rw [g]; exact Nat.beq_refl i)
        exact br_t (by rw [g]) (nm_r w (nm_r (nI_1 k) nx))
      · have w : cg_rt p a c ax ay i v.toInt (k + 1) = cg_rt p a c ax ay i v.toInt k := gp_cn_f (fun z => g (Nat.eq_of_beq_eq_true z))
        rw [w] at nx
        exact br_f (fun z => g ((nI_eq (by omega) (by omega)).mp z)) (nm_r (nI_1 k) nx)
  have w := lp c 0 (by omega)
  have e0 : cg_rt p a c ax ay i v.toInt 0 = 0 := rfl
  rw [e0, nI_0] at w
  exact ⟨_, w⟩
theorem wk_m {v : Int32} (h1 : ¬ v < 1) (h2 : v ≤ 1000) : ∃ m : Nat, 1 ≤ m ∧ m ≤ 1000 ∧ v = nI m ∧ v.toInt = (m : Int) := by
  have k1 : ¬ v.toInt < 1 := fun g => h1 (Int32.lt_iff_toInt_lt.mpr g)
  have k2 : v.toInt ≤ 1000 := Int32.le_iff_toInt_le.mp h2
  obtain ⟨m, hm⟩ := Int.eq_ofNat_of_zero_le (show 0 ≤ v.toInt by omega)
  exact ⟨m, by omega, by omega, by rw [zi_n, ← hm]; exact wk_ti v, hm⟩
theorem yw_tor (h : cg_L p a b c ax ay) {v : Int32} (h1 : ¬ v < 1) (h2 : v ≤ 1000) {post : Int32 → Prop} (hp : post (nI (cg_rt p a c ax ay 0 v.toInt c))) : wpY_torsion post (nI p, nI a, nI b, nI c, ax, ay) v := by
  have q := wk_b h
  obtain ⟨m, m1, m2, ev, et⟩ := wk_m h1 h2
  unfold wpY_torsion
  dsimp only
  refine yw_nt_t h1 h2 ?_
  refine br_t rfl ?_
  have lp : ∀ d k, k + d = c → wY_torsion_14 post v (nI p) (nI a) (nI b) (nI c) ax ay (d + 1) (nI (cg_rt p a c ax ay 0 v.toInt k)) (nI k) := by
    intro d
    induction d with
    | zero =>
      intro k hk
      refine br_t (nI_le (by omega) (by omega)) ?_
      rw [show k = c by omega]; exact hp
    | succ d ih =>
      intro k hk
      have hkc : k < c := by omega
      obtain ⟨o1, o2, o3, o4⟩ := gp_ord_s (cg_ok h) hkc
      have nx := ih (k + 1) (by omega)
      have er : v - v / nI (gp_ord (cg_S p a c ax ay) k) * nI (gp_ord (cg_S p a c ax ay) k) = nI (m % gp_ord (cg_S p a c ax ay) k) := by
        rw [ev]; exact wk_rem (by omega) (by omega)
      have hm : m % gp_ord (cg_S p a c ax ay) k < gp_ord (cg_S p a c ax ay) k := Nat.mod_lt _ o1
      have z := gp_tm_0 (cg_ok h) hkc m
      rw [← et] at z
      refine br_f (nI_ge (by omega) (by omega)) (yw_ord h hkc ⟨nI_ne0 o1 (by omega), ?_⟩)
      by_cases g : m % gp_ord (cg_S p a c ax ay) k = 0
      · have w : nI (cg_rt p a c ax ay 0 v.toInt k) + 1 = nI (cg_rt p a c ax ay 0 v.toInt (k + 1)) := wk_cnt (by rw [z.mpr g]; exact Nat.beq_refl 0)
        exact br_t (by rw [er, g]; exact nI_0) (nm_r w (nm_r (nI_1 k) nx))
      · have w : cg_rt p a c ax ay 0 v.toInt (k + 1) = cg_rt p a c ax ay 0 v.toInt k := gp_cn_f (fun t => g (z.mp (Nat.eq_of_beq_eq_true t)))
        rw [w] at nx
        exact br_f (by rw [er]; exact fun t => g ((wk_eq0 (by omega)).mp t)) (nm_r (nI_1 k) nx)
  have w := lp c 0 (by omega)
  have e0 : cg_rt p a c ax ay 0 v.toInt 0 = 0 := rfl
  rw [e0, nI_0] at w
  exact ⟨_, w⟩
/-- how many k have order m -/
noncomputable def cg_oo (p a c : Nat) (ax ay : Nat → Int32) (m n : Nat) : Nat := gp_cn (fun k => Nat.beq (gp_ord (cg_S p a c ax ay) k) m) n
theorem xw_oo (h : cg_L p a b c ax ay) {m : Nat} (m1 : 1 ≤ m) (m2 : m ≤ 1000) {post : Int32 → Prop} (hp : post (nI (cg_oo p a c ax ay m c))) : wpX_ofOrder post (nI p, nI a, nI b, nI c, ax, ay) (nI m) := by
  have q := wk_b h
  refine br_f (nI_nlt (b := 1) m1 (by omega)) (br_t (nI_le (b := 1000) m2 (by omega)) ?_)
  have lp : ∀ d k, k + d = c → wX_ofOrder_18 post (nI m) (nI p) (nI a) (nI b) (nI c) ax ay (d + 1) (nI (cg_oo p a c ax ay m k)) (nI k) := by
    intro d
    induction d with
    | zero =>
      intro k hk
      refine br_t (nI_le (by omega) (by omega)) ?_
      rw [show k = c by omega]; exact hp
    | succ d ih =>
      intro k hk
      have hkc : k < c := by omega
      obtain ⟨o1, o2, o3, o4⟩ := gp_ord_s (cg_ok h) hkc
      have nx := ih (k + 1) (by omega)
      refine br_f (nI_ge (by omega) (by omega)) (xw_ord h hkc ?_)
      by_cases g : gp_ord (cg_S p a c ax ay) k = m
      · have w : nI (cg_oo p a c ax ay m k) + 1 = nI (cg_oo p a c ax ay m (k + 1)) := wk_cnt (by rw [g]; exact Nat.beq_refl m)
        exact br_t (by rw [g]) (nm_r w (nm_r (nI_1 k) nx))
      · have w : cg_oo p a c ax ay m (k + 1) = cg_oo p a c ax ay m k := gp_cn_f (fun t => g (Nat.eq_of_beq_eq_true t))
        rw [w] at nx
        exact br_f (fun t => g ((nI_eq (by omega) (by omega)).mp t)) (nm_r (nI_1 k) nx)
  have w := lp c 0 (by omega)
  have e0 : cg_oo p a c ax ay m 0 = 0 := rfl
  rw [e0, nI_0] at w
  exact ⟨_, w⟩
theorem yw_oo (h : cg_L p a b c ax ay) {m : Nat} (m1 : 1 ≤ m) (m2 : m ≤ 1000) {post : Int32 → Prop} (hp : post (nI (cg_oo p a c ax ay m c))) : wpY_ofOrder post (nI p, nI a, nI b, nI c, ax, ay) (nI m) := by
  have q := wk_b h
  unfold wpY_ofOrder
  dsimp only
  refine yw_nt_t (nI_nlt (b := 1) m1 (by omega)) (nI_le (b := 1000) m2 (by omega)) ?_
  refine br_t rfl ?_
  have lp : ∀ d k, k + d = c → wY_ofOrder_14 post (nI m) (nI p) (nI a) (nI b) (nI c) ax ay (d + 1) (nI (cg_oo p a c ax ay m k)) (nI k) := by
    intro d
    induction d with
    | zero =>
      intro k hk
      refine br_t (nI_le (by omega) (by omega)) ?_
      rw [show k = c by omega]; exact hp
    | succ d ih =>
      intro k hk
      have hkc : k < c := by omega
      obtain ⟨o1, o2, o3, o4⟩ := gp_ord_s (cg_ok h) hkc
      have nx := ih (k + 1) (by omega)
      refine br_f (nI_ge (by omega) (by omega)) (yw_ord h hkc ?_)
      by_cases g : gp_ord (cg_S p a c ax ay) k = m
      · have w : nI (cg_oo p a c ax ay m k) + 1 = nI (cg_oo p a c ax ay m (k + 1)) := wk_cnt (by rw [g]; exact Nat.beq_refl m)
        exact br_t (by rw [g]) (nm_r w (nm_r (nI_1 k) nx))
      · have w : cg_oo p a c ax ay m (k + 1) = cg_oo p a c ax ay m k := gp_cn_f (fun t => g (Nat.eq_of_beq_eq_true t))
        rw [w] at nx
        exact br_f (fun t => g ((nI_eq (by omega) (by omega)).mp t)) (nm_r (nI_1 k) nx)
  have w := lp c 0 (by omega)
  have e0 : cg_oo p a c ax ay m 0 = 0 := rfl
  rw [e0, nI_0] at w
  exact ⟨_, w⟩
/-- what a logarithm answers -/
def cg_lg (S : Nat → Nat → Nat) (i j : Nat) (r : Int32) : Prop := (∃ e, gp_mul S i e = j ∧ r = nI e ∧ ∀ k, k < e → gp_mul S i k ≠ j) ∨ ((∀ e, gp_mul S i e ≠ j) ∧ r = -4)
theorem cg_lg_e (S : Nat → Nat → Nat) (i j : Nat) : ∃ r, cg_lg S i j r := by
  by_cases g : ∃ e, gp_mul S i e = j
  · obtain ⟨e, he, hn⟩ := gp_least (fun e => gp_mul S i e = j) g
    exact ⟨nI e, Or.inl ⟨e, he, rfl, hn⟩⟩
  · exact ⟨-4, Or.inr ⟨fun e z => g ⟨e, z⟩, rfl⟩⟩
theorem cg_lg_l (h : cg_L p a b c ax ay) {i j e : Nat} (hi : i < c) (he : gp_mul (cg_S p a c ax ay) i e = j) (hn : ∀ k, k < e → gp_mul (cg_S p a c ax ay) i k ≠ j) : e < gp_ord (cg_S p a c ax ay) i := by
  obtain ⟨o1, o2, o3, o4⟩ := gp_ord_s (cg_ok h) hi
  have m := gp_mod (cg_ok h) hi e
  have l : e % gp_ord (cg_S p a c ax ay) i < gp_ord (cg_S p a c ax ay) i := Nat.mod_lt _ o1
  rcases Nat.lt_or_ge e (gp_ord (cg_S p a c ax ay) i) with g | g
  · exact g
  · exact absurd (m.symm.trans he) (hn _ (by omega))
theorem xw_log (h : cg_L p a b c ax ay) {i j : Nat} (hi : i < c) (hj : j < c) {r : Int32} (hr : cg_lg (cg_S p a c ax ay) i j r) {post : Int32 → Prop} (hp : post r) : wpX_logarithm post (nI p, nI a, nI b, nI c, ax, ay) (nI i) (nI j) := by
  have q := wk_b h
  obtain ⟨o1, o2, o3, o4⟩ := gp_ord_s (cg_ok h) hi
  unfold wpX_logarithm
  dsimp only
  refine xw_ip_t h hi ?_
  refine br_f wk_10 ?_
  refine xw_ip_t h hj ?_
  refine br_f wk_10 ?_
  have lp : ∀ d k, k + d = c → (∀ t, t < k → gp_mul (cg_S p a c ax ay) i t ≠ j) → wX_logarithm_23 post (nI i) (nI j) (nI p) (nI a) (nI b) (nI c) ax ay (d + 1) (nI (gp_mul (cg_S p a c ax ay) i k)) (nI k) := by
    intro d
    induction d with
    | zero =>
      intro k hk hn
      refine br_t (nI_le (by omega) (by omega)) ?_
      rcases hr with ⟨e, he, _, hl⟩ | ⟨_, er⟩
      · have z := cg_lg_l h hi he hl
        exact absurd he (hn e (by omega))
      · rw [← er]; exact hp
    | succ d ih =>
      intro k hk hn
      have hl := wk_lt h (i := i) (m := k) hi
      refine br_f (nI_ge (by omega) (by omega)) ?_
      by_cases g : gp_mul (cg_S p a c ax ay) i k = j
      · refine br_t (by rw [g]) ?_
        rcases hr with ⟨e, he, er, hl⟩ | ⟨hl, _⟩
        · have ek : e = k := by
            rcases Nat.lt_trichotomy e k with w | w | w
            · exact absurd he (hn e w)
            · exact w
            · exact absurd g (hl k w)
          rw [← ek, ← er]; exact hp
        · exact absurd g (hl k)
      · refine br_f (fun t => g ((nI_eq (by omega) (by omega)).mp t)) ?_
        refine xw_add h hl hi (nm_r (nI_1 k) (ih (k + 1) (by omega) (fun t ht => ?_)))
        rcases Nat.lt_or_ge t k with w | w
        · exact hn t w
        · rw [show t = k by omega]; exact g
  have w := lp c 0 (by omega) (fun t ht => absurd ht (Nat.not_lt_zero t))
  have e0 : gp_mul (cg_S p a c ax ay) i 0 = 0 := rfl
  rw [e0, nI_0] at w
  exact ⟨_, w⟩
theorem yw_log (h : cg_L p a b c ax ay) {i j : Nat} (hi : i < c) (hj : j < c) {r : Int32} (hr : cg_lg (cg_S p a c ax ay) i j r) {post : Int32 → Prop} (hp : post r) : wpY_logarithm post (nI p, nI a, nI b, nI c, ax, ay) (nI i) (nI j) := by
  have q := wk_b h
  obtain ⟨o1, o2, o3, o4⟩ := gp_ord_s (cg_ok h) hi
  unfold wpY_logarithm
  dsimp only
  refine yw_np_t h hi ?_
  refine br_t rfl ?_
  refine yw_np_t h hj ?_
  refine br_t rfl ?_
  refine yw_ord h hi ?_
  have lp : ∀ d k, k + d = gp_ord (cg_S p a c ax ay) i → (∀ t, t < k → gp_mul (cg_S p a c ax ay) i t ≠ j) → wY_logarithm_30 post (nI i) (nI j) (nI (gp_ord (cg_S p a c ax ay) i)) (nI p) (nI a) (nI b) (nI c) ax ay (d + 1) (nI (gp_mul (cg_S p a c ax ay) i k)) (nI k) := by
    intro d
    induction d with
    | zero =>
      intro k hk hn
      refine br_t (nI_le (by omega) (by omega)) ?_
      rcases hr with ⟨e, he, _, hl⟩ | ⟨_, er⟩
      · have z := cg_lg_l h hi he hl
        exact absurd he (hn e (by omega))
      · rw [← er]; exact hp
    | succ d ih =>
      intro k hk hn
      have hl := wk_lt h (i := i) (m := k) hi
      refine br_f (nI_ge (by omega) (by omega)) ?_
      by_cases g : gp_mul (cg_S p a c ax ay) i k = j
      · refine br_t (by rw [g]) ?_
        rcases hr with ⟨e, he, er, hl⟩ | ⟨hl, _⟩
        · have ek : e = k := by
            rcases Nat.lt_trichotomy e k with w | w | w
            · exact absurd he (hn e w)
            · exact w
            · exact absurd g (hl k w)
          rw [← ek, ← er]; exact hp
        · exact absurd g (hl k)
      · refine br_f (fun t => g ((nI_eq (by omega) (by omega)).mp t)) ?_
        refine yw_sum h hl hi (nm_r (nI_1 k) (ih (k + 1) (by omega) (fun t ht => ?_)))
        rcases Nat.lt_or_ge t k with w | w
        · exact hn t w
        · rw [show t = k by omega]; exact g
  have w := lp (gp_ord (cg_S p a c ax ay) i) 0 (by omega) (fun t ht => absurd ht (Nat.not_lt_zero t))
  have e0 : gp_mul (cg_S p a c ax ay) i 0 = 0 := rfl
  rw [e0, nI_0] at w
  exact ⟨_, w⟩
end WKC
