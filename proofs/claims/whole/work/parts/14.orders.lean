/-! orders and multiples on both sides (the rows pk_ are pasted from the kit's rows) -/
theorem pk_tn {n : Nat} (h : n < 2 ^ 32) : (nI n).toBitVec.toNat = n := Nat.mod_eq_of_lt h
theorem pk_and (x : Int32) {m : Int32} (k : Nat) (hm : m.toBitVec.toNat = 2 ^ k - 1) : x &&& m = nI (x.toBitVec.toNat % 2 ^ k) := by
  apply Int32.toBitVec_inj.mp
  apply BitVec.eq_of_toNat_eq
  rw [Int32.toBitVec_and, BitVec.toNat_and, hm, Nat.and_two_pow_sub_one_eq_mod]
  show _ = (BitVec.ofNat 32 _).toNat
  rw [BitVec.toNat_ofNat]
  exact (Nat.mod_eq_of_lt (Nat.lt_of_le_of_lt (Nat.mod_le _ _) x.toBitVec.isLt)).symm
theorem pk_andN {n : Nat} (h : n < 2 ^ 32) {m : Int32} (k : Nat) (hm : m.toBitVec.toNat = 2 ^ k - 1) : nI n &&& m = nI (n % 2 ^ k) := by
  rw [pk_and _ k hm, pk_tn h]
theorem pk_shr (a s : Int32) (k : Nat) (hs : (s.toBitVec.smod 32).toNat = k) : (a >>> s).toInt = a.toInt >>> k := by
  show (a.toBitVec.sshiftRight (s.toBitVec.smod 32).toNat).toInt = _
  rw [hs, BitVec.toInt_sshiftRight]
  rfl
theorem pk_shrN {n : Nat} (h : n < 2 ^ 31) (s : Int32) (k : Nat) (hs : (s.toBitVec.smod 32).toNat = k) : nI n >>> s = nI (n / 2 ^ k) := by
  apply Int32.toInt_inj.mp
  have h2 : n / 2 ^ k ≤ n := Nat.div_le_self _ _
  rw [pk_shr _ _ k hs, nI_toInt h, nI_toInt (by omega), Int.shiftRight_eq_div_pow]
  rfl
section WKO
variable {p a b c : Nat} {ax ay : Nat → Int32}
theorem wk_lt (h : cg_L p a b c ax ay) {i m : Nat} (hi : i < c) : gp_mul (cg_S p a c ax ay) i m < c := gp_lt (cg_ok h) hi m
theorem xw_ord_l (h : cg_L p a b c ax ay) {i : Nat} (hi : i < c) {post : Int32 → Prop} (hp : post (nI (gp_ord (cg_S p a c ax ay) i))) : ∀ d e, e + d = gp_ord (cg_S p a c ax ay) i → 1 ≤ e → wX_order_14 post (nI i) (nI p) (nI a) (nI b) (nI c) ax ay (d + 1) (nI e) (nI (gp_mul (cg_S p a c ax ay) i e)) := by
  have q := wk_b h
  obtain ⟨o1, o2, o3, o4⟩ := gp_ord_s (cg_ok h) hi
  intro d
  induction d with
  | zero =>
    intro e he e1
    have ee : e = gp_ord (cg_S p a c ax ay) i := by omega
    refine br_t (by rw [ee, o3]; exact nI_0) ?_
    rw [ee]; exact hp
  | succ d ih =>
    intro e he e1
    have hl := wk_lt h (i := i) (m := e) hi
    have n0 := o4 e (by omega) (by omega)
    refine br_f (nI_ne0 (by omega) (by omega)) (br_f (nI_ge (by omega) (by omega)) ?_)
    exact xw_add h hl hi (nm_r (nI_1 e) (ih (e + 1) (by omega) (by omega)))
theorem xw_ord (h : cg_L p a b c ax ay) {i : Nat} (hi : i < c) {post : Int32 → Prop} (hp : post (nI (gp_ord (cg_S p a c ax ay) i))) : wpX_order post (nI p, nI a, nI b, nI c, ax, ay) (nI i) := by
  obtain ⟨o1, o2, o3, o4⟩ := gp_ord_s (cg_ok h) hi
  have w := xw_ord_l h hi hp (gp_ord (cg_S p a c ax ay) i - 1) 1 (by omega) (by omega)
  rw [gp_1 (cg_ok h) hi] at w
  unfold wpX_order
  dsimp only
  refine xw_ip_t h hi ?_
  refine br_f wk_10 ?_
  exact ⟨_, w⟩
theorem yw_ord_l (h : cg_L p a b c ax ay) {i : Nat} (hi : i < c) {post : Int32 → Prop} (hp : post (nI (gp_ord (cg_S p a c ax ay) i))) : ∀ d e, e + d = gp_ord (cg_S p a c ax ay) i → 1 ≤ e → wY_orderOf_4 post (nI i) (nI p) (nI a) (nI b) (nI c) ax ay (d + 1) (nI e) (nI (gp_mul (cg_S p a c ax ay) i e)) := by
  have q := wk_b h
  obtain ⟨o1, o2, o3, o4⟩ := gp_ord_s (cg_ok h) hi
  intro d
  induction d with
  | zero =>
    intro e he e1
    have ee : e = gp_ord (cg_S p a c ax ay) i := by omega
    refine br_t (by rw [ee, o3]; exact nI_0) ?_
    rw [ee]; exact hp
  | succ d ih =>
    intro e he e1
    have hl := wk_lt h (i := i) (m := e) hi
    have n0 := o4 e (by omega) (by omega)
    refine br_f (nI_ne0 (by omega) (by omega)) ?_
    exact yw_sum h hl hi (nm_r (nI_1 e) (ih (e + 1) (by omega) (by omega)))
theorem yw_ord (h : cg_L p a b c ax ay) {i : Nat} (hi : i < c) {post : Int32 → Prop} (hp : post (nI (gp_ord (cg_S p a c ax ay) i))) : wpY_orderOf post (nI p, nI a, nI b, nI c, ax, ay) (nI i) := by
  obtain ⟨o1, o2, o3, o4⟩ := gp_ord_s (cg_ok h) hi
  have w := yw_ord_l h hi hp (gp_ord (cg_S p a c ax ay) i - 1) 1 (by omega) (by omega)
  rw [gp_1 (cg_ok h) hi] at w
  exact ⟨_, w⟩
/-- the opposite point's index -/
noncomputable def cg_ng (p a c : Nat) (ax ay : Nat → Int32) (i : Nat) : Nat := gp_mul (cg_S p a c ax ay) i (gp_ord (cg_S p a c ax ay) i - 1)
theorem cg_ng_s (h : cg_L p a b c ax ay) {i : Nat} (hi : i < c) : cg_ng p a c ax ay i < c ∧ cg_S p a c ax ay i (cg_ng p a c ax ay i) = 0 ∧ ∀ j, j < c → cg_S p a c ax ay i j = 0 → j = cg_ng p a c ax ay i :=
  ⟨wk_lt h hi, gp_neg2 (cg_ok h) hi, fun _ hj z => gp_neg (cg_ok h) hi hj z⟩
theorem xw_neg (h : cg_L p a b c ax ay) {i : Nat} (hi : i < c) {post : Int32 → Prop} (hp : post (nI (cg_ng p a c ax ay i))) : wpX_negate post (nI p, nI a, nI b, nI c, ax, ay) (nI i) := by
  have q := wk_b h
  have p0 : 0 < p := by omega
  have s := cg_ng_s h hi
  unfold wpX_negate
  dsimp only
  refine xw_ip_t h hi ?_
  refine br_f wk_10 ?_
  rcases Nat.eq_zero_or_pos i with e | e
  · refine br_t (by rw [e]; exact nI_0) ?_
    have z : cg_S p a c ax ay i 0 = 0 := by rw [(cg_ok h).2.2.2.1 i hi]; exact e
    rw [← s.2.2 0 (by omega) z, nI_0] at hp
    exact hp
  · have v1 : vp_in (nI i) 123 := vp_in_nI (by omega) (by omega)
    have c1 : (nI i).toNatClampNeg = i := nI_clamp (by omega)
    refine br_f (nI_ne0 e (by omega)) ⟨v1, ?_⟩
    obtain ⟨x, y, hx, hy, ho, ex, ey, _⟩ := cg_at h e hi
    rw [c1, ex, ey]
    refine xw_red h (z := -(y : Int)) (by rw [zi_n, zi_neg]) (by unfold zi_in; omega) ⟨v1, ?_⟩
    have hm : (p - y) % p < p := Nat.mod_lt _ p0
    have em : ec_m p (-(y : Int)) = (p - y) % p := by
      refine ec_m_of hm (mq_t (mq_nm p (p - y)) ⟨1, ?_⟩)
      omega
    obtain ⟨j, h1, hj, ex', ey'⟩ := h.2.2.2.2.1 x _ hx hm (cg_on_neg p0 hy ho)
    have ej := s.2.2 j hj (cg_S_O h hi hj e h1 hx hy hx hm ex ey ex' ey' rfl (cg_neg_0 hy))
    have fr := cg_fr_at h h1 hj
    rw [ex', ey', ej] at fr
    rw [em]
    exact xw_find h fr hp
theorem yw_neg (h : cg_L p a b c ax ay) {i : Nat} (hi : i < c) {post : Int32 → Prop} (hp : post (nI (cg_ng p a c ax ay i))) : wpY_opposite post (nI p, nI a, nI b, nI c, ax, ay) (nI i) := by
  have q := wk_b h
  have s := cg_ng_s h hi
  have lp : ∀ d k, k + d = cg_ng p a c ax ay i → wY_opposite_2 post (nI i) (nI p) (nI a) (nI b) (nI c) ax ay (d + 1) (nI k) := by
    intro d
    induction d with
    | zero =>
      intro k hk
      have ek : k = cg_ng p a c ax ay i := by omega
      unfold wY_opposite_2
      refine yw_sum h hi (by omega) ?_
      refine br_t ?_ ?_
      · rw [ek, s.2.1]; exact nI_0
      · rw [ek]; exact hp
    | succ d ih =>
      intro k hk
      have hl := (cg_S_s h hi (show k < c by omega)).1
      unfold wY_opposite_2
      refine yw_sum h hi (by omega) ?_
      refine br_f (fun g => ?_) (nm_r (nI_1 k) (ih (k + 1) (by omega)))
      have z := s.2.2 k (by omega) ((wk_eq0 (by omega)).mp g)
      omega
  have w := lp (cg_ng p a c ax ay i) 0 (by omega)
  rw [nI_0] at w
  exact ⟨_, w⟩
theorem wk_sh : ∀ t, t < 20 → ((nI t &&& 31).toBitVec.smod 32).toNat = t := by decide +kernel
theorem xw_tm_l (h : cg_L p a b c ax ay) {i m : Nat} (hi : i < c) (hm : m < 2 ^ 20) {post : Int32 → Prop} (hp : post (nI (gp_mul (cg_S p a c ax ay) i m))) : ∀ d t, t + d = 20 → wX_times_54 post (nI m) (nI p) (nI a) (nI b) (nI c) ax ay (d + 1) (nI (gp_mul (cg_S p a c ax ay) i (2 ^ t))) (nI (gp_mul (cg_S p a c ax ay) i (m % 2 ^ t))) (nI t) := by
  have q := wk_b h
  intro d
  induction d with
  | zero =>
    intro t ht
    have e : t = 20 := by omega
    refine br_t (nI_le (a := 20) (by omega) (by omega)) ?_
    rw [e, Nat.mod_eq_of_lt hm]; exact hp
  | succ d ih =>
    intro t ht
    have es : nI m >>> (nI t &&& 31) = nI (m / 2 ^ t) := pk_shrN (by omega) _ t (wk_sh t (by omega))
    have hd : m / 2 ^ t ≤ m := Nat.div_le_self _ _
    have ea : nI (m / 2 ^ t) &&& 1 = nI (m / 2 ^ t % 2 ^ 1) := pk_andN (by omega) 1 (by decide)
    have l1 := wk_lt h (i := i) (m := 2 ^ t) hi
    have l2 := wk_lt h (i := i) (m := m % 2 ^ t) hi
    have e2 : cg_S p a c ax ay (gp_mul (cg_S p a c ax ay) i (2 ^ t)) (gp_mul (cg_S p a c ax ay) i (2 ^ t)) = gp_mul (cg_S p a c ax ay) i (2 ^ (t + 1)) := by
      rw [gp_add (cg_ok h) hi]
      exact congrArg _ (by rw [Nat.pow_succ]; omega)
    have e3 := Nat.mod_pow_succ (x := m) (b := 2) (k := t)
    refine br_f (nI_ge (b := 20) (by omega) (by omega)) ?_
    rw [es, ea]
    rcases Nat.eq_zero_or_pos (m / 2 ^ t) with z | z
    · refine br_t (by rw [z]; decide) ?_
      have e := Nat.div_add_mod m (2 ^ t)
      rw [z, Nat.mul_zero, Nat.zero_add] at e
      rw [e]; exact hp
    · refine br_f (nI_nle z (by omega)) ?_
      have lst : ∀ s, s = m % 2 ^ (t + 1) → wX_times_88 post (wX_times_54 post (nI m) (nI p) (nI a) (nI b) (nI c) ax ay (d + 1)) (nI m) (nI (gp_mul (cg_S p a c ax ay) i (2 ^ t))) (nI (gp_mul (cg_S p a c ax ay) i s)) (nI t) (nI p) (nI a) (nI b) (nI c) ax ay := by
        intro s es
        unfold wX_times_88
        refine xw_add h l1 l1 (nm_r (nI_1 t) ?_)
        rw [e2, es]
        exact ih (t + 1) (by omega)
      rcases Nat.mod_two_eq_zero_or_one (m / 2 ^ t) with w | w
      · refine br_f (by rw [Nat.pow_one, w]; decide) (lst _ ?_)
        rw [e3, w]; omega
      · refine br_t (by rw [Nat.pow_one, w]; decide) ?_
        refine xw_add h l2 l1 ?_
        rw [gp_add (cg_ok h) hi]
        refine lst _ ?_
        rw [e3, w, Nat.mul_one]
theorem xw_tm (h : cg_L p a b c ax ay) {i m : Nat} (hi : i < c) (hm : m < 2 ^ 20) {post : Int32 → Prop} (hp : post (nI (gp_mul (cg_S p a c ax ay) i m))) : ∃ n, wX_times_54 post (nI m) (nI p) (nI a) (nI b) (nI c) ax ay n (nI i) 0 0 := by
  have w := xw_tm_l h hi hm hp 20 0 (by omega)
  rw [Nat.pow_zero, gp_1 (cg_ok h) hi, Nat.mod_one, nI_0] at w
  exact ⟨_, w⟩
theorem wk_ti (v : Int32) : v = zi_ v.toInt := (Int32.ofInt_toInt v).symm
theorem xw_times (h : cg_L p a b c ax ay) {i : Nat} (hi : i < c) {v : Int32} (h1 : ¬ v < -1000000) (h2 : v ≤ 1000000) {post : Int32 → Prop} (hp : post (nI (gp_tm (cg_S p a c ax ay) i v.toInt))) : wpX_times post (nI p, nI a, nI b, nI c, ax, ay) (nI i) v := by
  have k1 : ¬ v.toInt < -1000000 := fun g => h1 (Int32.lt_iff_toInt_lt.mpr g)
  have k2 : v.toInt ≤ 1000000 := Int32.le_iff_toInt_le.mp h2
  have s := cg_ng_s h hi
  unfold wpX_times
  dsimp only
  refine xw_ip_t h hi ?_
  refine br_f wk_10 ?_
  refine br_f h1 ?_
  refine br_t h2 ?_
  by_cases g : 0 ≤ v
  · refine br_t g ?_
    unfold wX_times_32
    refine br_t g ?_
    have k0 : 0 ≤ v.toInt := Int32.le_iff_toInt_le.mp g
    obtain ⟨m, hm⟩ := Int.eq_ofNat_of_zero_le k0
    have ev : v = nI m := by rw [zi_n, ← hm]; exact wk_ti v
    rw [hm, ← gp_tm_p (cg_ok h) hi] at hp
    rw [ev]
    exact xw_tm h hi (by omega) hp
  · refine br_f g ?_
    unfold wX_times_32
    refine br_f g ?_
    have k0 : ¬ 0 ≤ v.toInt := fun w => g (Int32.le_iff_toInt_le.mpr w)
    obtain ⟨m, hm⟩ := Int.eq_ofNat_of_zero_le (show 0 ≤ -v.toInt by omega)
    have hm' : v.toInt = -(m : Int) := by omega
    have ev : -v = nI m := by rw [zi_n, ← hm, ← zi_neg, ← wk_ti]
    rw [hm', ← gp_tm_n (cg_ok h) hi s.1 s.2.1] at hp
    rw [ev]
    exact xw_neg h hi (xw_tm h s.1 (by omega) hp)
theorem yw_mul (h : cg_L p a b c ax ay) {i : Nat} (hi : i < c) {v : Int32} (h1 : ¬ v < -1000000) (h2 : v ≤ 1000000) {post : Int32 → Prop} (hp : post (nI (gp_tm (cg_S p a c ax ay) i v.toInt))) : wpY_multiple post (nI p, nI a, nI b, nI c, ax, ay) (nI i) v := by
  have q := wk_b h
  have k1 : ¬ v.toInt < -1000000 := fun g => h1 (Int32.lt_iff_toInt_lt.mpr g)
  have k2 : v.toInt ≤ 1000000 := Int32.le_iff_toInt_le.mp h2
  obtain ⟨o1, o2, o3, o4⟩ := gp_ord_s (cg_ok h) hi
  unfold wpY_multiple
  dsimp only
  refine yw_ord h hi ?_
  refine ⟨nI_ne0 o1 (by omega), nI_ne0 o1 (by omega), ?_⟩
  have er := zi_rs (p := gp_ord (cg_S p a c ax ay) i) (a := v.toInt) o1 (by omega) (by unfold zi_in; omega)
  rw [← wk_ti] at er
  refine nm_r er ?_
  have hl : ec_m (gp_ord (cg_S p a c ax ay) i) v.toInt < gp_ord (cg_S p a c ax ay) i := ec_m_lt o1 _
  have lp : ∀ d k, k + d = ec_m (gp_ord (cg_S p a c ax ay) i) v.toInt → wY_multiple_21 post (nI i) (nI (ec_m (gp_ord (cg_S p a c ax ay) i) v.toInt)) (nI p) (nI a) (nI b) (nI c) ax ay (d + 1) (nI (gp_mul (cg_S p a c ax ay) i k)) (nI k) := by
    intro d
    induction d with
    | zero =>
      intro k hk
      refine br_t (nI_le (by omega) (by omega)) ?_
      have ek : k = ec_m (gp_ord (cg_S p a c ax ay) i) v.toInt := by omega
      rw [ek]; exact hp
    | succ d ih =>
      intro k hk
      refine br_f (nI_ge (by omega) (by omega)) ?_
      exact yw_sum h (wk_lt h hi) hi (nm_r (nI_1 k) (ih (k + 1) (by omega)))
  have w := lp (ec_m (gp_ord (cg_S p a c ax ay) i) v.toInt) 0 (by omega)
  have e0 : gp_mul (cg_S p a c ax ay) i 0 = 0 := rfl
  rw [e0, nI_0] at w
  exact ⟨_, w⟩
end WKO
