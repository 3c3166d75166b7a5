/-! a finite group on the indices below c: multiples, orders -/
def gp_ok (c : Nat) (S : Nat → Nat → Nat) : Prop := 0 < c ∧ (∀ i j, i < c → j < c → S i j < c) ∧ (∀ i, i < c → S 0 i = i) ∧ (∀ i, i < c → S i 0 = i) ∧ (∀ i j k, i < c → j < c → k < c → S (S i j) k = S i (S j k)) ∧ (∀ i, i < c → ∃ j, j < c ∧ S i j = 0)
def gp_mul (S : Nat → Nat → Nat) (i : Nat) : Nat → Nat
  | 0 => 0
  | m + 1 => S (gp_mul S i m) i
theorem gp_least (P : Nat → Prop) (h : ∃ k, P k) : ∃ k, P k ∧ ∀ j, j < k → ¬ P j := by
  obtain ⟨k, hk⟩ := h
  have q : ∀ n, ∀ m, m < n → P m → ∃ k, P k ∧ ∀ j, j < k → ¬ P j := by
    intro n
    induction n with
    | zero => intro m hm; exact absurd hm (Nat.not_lt_zero m)
    | succ n ih =>
      intro m hm pm
      by_cases e : ∃ j, j < m ∧ P j
      · obtain ⟨j, hj, pj⟩ := e
        exact ih j (by omega) pj
      · exact ⟨m, pm, fun j hj pj => e ⟨j, hj, pj⟩⟩
  exact q (k + 1) k (Nat.lt_succ_self k) hk
theorem gp_pig : ∀ (c : Nat) (f : Nat → Nat), (∀ k, k ≤ c → f k < c) → ∃ i j, i < j ∧ j ≤ c ∧ f i = f j := by
  intro c
  induction c with
  | zero => intro f h; exact absurd (h 0 (Nat.le_refl 0)) (Nat.not_lt_zero _)
  | succ c ih =>
    intro f h
    by_cases e : ∃ i, i ≤ c ∧ f i = f (c + 1)
    · obtain ⟨i, hi, q⟩ := e
      exact ⟨i, c + 1, by omega, Nat.le_refl _, q⟩
    · -- move the value c to the value f (c + 1)
      have g : ∀ k, k ≤ c → (if f k = c then f (c + 1) else f k) < c := by
        intro k hk
        have h1 := h k (by omega)
        have h2 := h (c + 1) (by omega)
        have h3 : f k ≠ f (c + 1) := fun z => e ⟨k, hk, z⟩
        by_cases w : f k = c
        · rw [if_pos w]; omega
        · rw [if_neg w]; omega
      obtain ⟨i, j, hij, hj, q⟩ := ih (fun k => if f k = c then f (c + 1) else f k) g
      refine ⟨i, j, hij, by omega, ?_⟩
      have q' : (if f i = c then f (c + 1) else f i) = (if f j = c then f (c + 1) else f j) := q
      have n1 : f i ≠ f (c + 1) := fun z => e ⟨i, by omega, z⟩
      have n2 : f j ≠ f (c + 1) := fun z => e ⟨j, hj, z⟩
      by_cases w : f i = c
      · by_cases w' : f j = c
        · rw [w, w']
        · rw [if_pos w, if_neg w'] at q'
          exact absurd q'.symm n2
      · by_cases w' : f j = c
        · rw [if_neg w, if_pos w'] at q'
          exact absurd q' n1
        · rwa [if_neg w, if_neg w'] at q'
theorem gp_lt {c : Nat} {S : Nat → Nat → Nat} (h : gp_ok c S) {i : Nat} (hi : i < c) (m : Nat) : gp_mul S i m < c := by
  induction m with
  | zero => exact h.1
  | succ m ih => exact h.2.1 _ _ ih hi
theorem gp_1 {c : Nat} {S : Nat → Nat → Nat} (h : gp_ok c S) {i : Nat} (hi : i < c) : gp_mul S i 1 = i := h.2.2.1 i hi
theorem gp_add {c : Nat} {S : Nat → Nat → Nat} (h : gp_ok c S) {i : Nat} (hi : i < c) (m n : Nat) : S (gp_mul S i m) (gp_mul S i n) = gp_mul S i (m + n) := by
  induction n with
  | zero => exact h.2.2.2.1 _ (gp_lt h hi m)
  | succ n ih =>
    show S (gp_mul S i m) (S (gp_mul S i n) i) = S (gp_mul S i (m + n)) i
    rw [← h.2.2.2.2.1 _ _ _ (gp_lt h hi m) (gp_lt h hi n) hi, ih]
theorem gp_can {c : Nat} {S : Nat → Nat → Nat} (h : gp_ok c S) {i x y : Nat} (hi : i < c) (hx : x < c) (hy : y < c) (e : S x i = S y i) : x = y := by
  obtain ⟨j, hj, z⟩ := h.2.2.2.2.2 i hi
  have q1 := h.2.2.2.2.1 x i j hx hi hj
  have q2 := h.2.2.2.2.1 y i j hy hi hj
  rw [z, h.2.2.2.1 _ hx] at q1
  rw [z, h.2.2.2.1 _ hy, ← e, q1] at q2
  exact q2
theorem gp_ex {c : Nat} {S : Nat → Nat → Nat} (h : gp_ok c S) {i : Nat} (hi : i < c) : ∃ e, 0 < e ∧ e ≤ c ∧ gp_mul S i e = 0 := by
  obtain ⟨m, n, hmn, hn, e⟩ := gp_pig c (fun k => gp_mul S i k) (fun k _ => gp_lt h hi k)
  have e' : gp_mul S i m = gp_mul S i n := e
  refine ⟨n - m, by omega, by omega, ?_⟩
  have q := gp_add h hi (n - m) m
  rw [show n - m + m = n by omega, ← e'] at q
  have z : S 0 (gp_mul S i m) = gp_mul S i m := h.2.2.1 _ (gp_lt h hi m)
  exact gp_can h (gp_lt h hi m) (gp_lt h hi _) h.1 (q.trans z.symm)
noncomputable def gp_ord (S : Nat → Nat → Nat) (i : Nat) : Nat := Classical.epsilon (fun k => (0 < k ∧ gp_mul S i k = 0) ∧ ∀ j, j < k → ¬ (0 < j ∧ gp_mul S i j = 0))
theorem gp_ord_s {c : Nat} {S : Nat → Nat → Nat} (h : gp_ok c S) {i : Nat} (hi : i < c) : 0 < gp_ord S i ∧ gp_ord S i ≤ c ∧ gp_mul S i (gp_ord S i) = 0 ∧ ∀ j, 0 < j → j < gp_ord S i → gp_mul S i j ≠ 0 := by
  obtain ⟨e, h0, hc, ez⟩ := gp_ex h hi
  have q := Classical.epsilon_spec (gp_least (fun k => 0 < k ∧ gp_mul S i k = 0) ⟨e, h0, ez⟩)
  have q' : (0 < gp_ord S i ∧ gp_mul S i (gp_ord S i) = 0) ∧ ∀ j, j < gp_ord S i → ¬ (0 < j ∧ gp_mul S i j = 0) := q
  refine ⟨q'.1.1, ?_, q'.1.2, fun j a b z => q'.2 j b ⟨a, z⟩⟩
  rcases Nat.lt_or_ge e (gp_ord S i) with g | g
  · exact absurd ⟨h0, ez⟩ (q'.2 e g)
  · omega
theorem gp_ord_u {c : Nat} {S : Nat → Nat → Nat} (h : gp_ok c S) {i e : Nat} (hi : i < c) (h0 : 0 < e) (hz : gp_mul S i e = 0) (hn : ∀ j, 0 < j → j < e → gp_mul S i j ≠ 0) : gp_ord S i = e := by
  obtain ⟨a1, a2, a3, a4⟩ := gp_ord_s h hi
  rcases Nat.lt_trichotomy (gp_ord S i) e with g | g | g
  · exact absurd a3 (hn _ a1 g)
  · exact g
  · exact absurd hz (a4 _ h0 g)
theorem gp_ord_0 {c : Nat} {S : Nat → Nat → Nat} (h : gp_ok c S) : gp_ord S 0 = 1 := gp_ord_u h h.1 (by omega) (gp_1 h h.1) (fun j a b => by omega)
theorem gp_per {c : Nat} {S : Nat → Nat → Nat} (h : gp_ok c S) {i : Nat} (hi : i < c) (q : Nat) : gp_mul S i (gp_ord S i * q) = 0 := by
  induction q with
  | zero => rfl
  | succ q ih =>
    rw [Nat.mul_succ, ← gp_add h hi, ih, h.2.2.1 _ (gp_lt h hi _)]
    exact (gp_ord_s h hi).2.2.1
theorem gp_mod {c : Nat} {S : Nat → Nat → Nat} (h : gp_ok c S) {i : Nat} (hi : i < c) (m : Nat) : gp_mul S i m = gp_mul S i (m % gp_ord S i) := by
  have e := gp_add h hi (gp_ord S i * (m / gp_ord S i)) (m % gp_ord S i)
  rw [Nat.div_add_mod, gp_per h hi, h.2.2.1 _ (gp_lt h hi _)] at e
  exact e.symm
theorem gp_zero {c : Nat} {S : Nat → Nat → Nat} (h : gp_ok c S) {i : Nat} (hi : i < c) (m : Nat) : gp_mul S i m = 0 ↔ m % gp_ord S i = 0 := by
  obtain ⟨a1, a2, a3, a4⟩ := gp_ord_s h hi
  rw [gp_mod h hi m]
  constructor
  · intro z
    rcases Nat.eq_zero_or_pos (m % gp_ord S i) with g | g
    · exact g
    · exact absurd z (a4 _ g (Nat.mod_lt _ a1))
  · intro z
    rw [z]; rfl
theorem gp_neg {c : Nat} {S : Nat → Nat → Nat} (h : gp_ok c S) {i j : Nat} (hi : i < c) (hj : j < c) (z : S i j = 0) : j = gp_mul S i (gp_ord S i - 1) := by
  obtain ⟨a1, a2, a3, a4⟩ := gp_ord_s h hi
  have e : S (gp_mul S i (gp_ord S i - 1)) i = 0 := by
    have q : gp_mul S i (gp_ord S i - 1 + 1) = 0 := by rw [Nat.sub_add_cancel a1]; exact a3
    exact q
  have q := h.2.2.2.2.1 _ _ _ (gp_lt h hi (gp_ord S i - 1)) hi hj
  rw [e, z, h.2.2.1 _ hj, h.2.2.2.1 _ (gp_lt h hi _)] at q
  exact q
theorem gp_neg2 {c : Nat} {S : Nat → Nat → Nat} (h : gp_ok c S) {i : Nat} (hi : i < c) : S i (gp_mul S i (gp_ord S i - 1)) = 0 := by
  obtain ⟨j, hj, z⟩ := h.2.2.2.2.2 i hi
  rw [← gp_neg h hi hj z]; exact z
theorem gp_mm {c : Nat} {S : Nat → Nat → Nat} (h : gp_ok c S) {i : Nat} (hi : i < c) (n k : Nat) : gp_mul S (gp_mul S i n) k = gp_mul S i (n * k) := by
  induction k with
  | zero => rfl
  | succ k ih =>
    show S (gp_mul S (gp_mul S i n) k) (gp_mul S i n) = _
    rw [ih, gp_add h hi, Nat.mul_succ]
/-- the multiple by an integer -/
noncomputable def gp_tm (S : Nat → Nat → Nat) (i : Nat) (e : Int) : Nat := gp_mul S i (ec_m (gp_ord S i) e)
theorem gp_tm_p {c : Nat} {S : Nat → Nat → Nat} (h : gp_ok c S) {i : Nat} (hi : i < c) (m : Nat) : gp_mul S i m = gp_tm S i (m : Int) := by
  unfold gp_tm
  rw [ec_m_n, ← gp_mod h hi]
theorem gp_tm_n {c : Nat} {S : Nat → Nat → Nat} (h : gp_ok c S) {i j : Nat} (hi : i < c) (hj : j < c) (z : S i j = 0) (m : Nat) : gp_mul S j m = gp_tm S i (-(m : Int)) := by
  obtain ⟨a1, a2, a3, a4⟩ := gp_ord_s h hi
  rw [gp_neg h hi hj z, gp_mm h hi, gp_tm_p h hi]
  unfold gp_tm
  refine congrArg _ (ec_m_e ⟨(m : Int), ?_⟩)
  have c1 : ((gp_ord S i - 1 : Nat) : Int) = (gp_ord S i : Int) - 1 := by omega
  rw [Int.natCast_mul, c1]
  grind
theorem gp_tm_lt {c : Nat} {S : Nat → Nat → Nat} (h : gp_ok c S) {i : Nat} (hi : i < c) (e : Int) : gp_tm S i e < c := gp_lt h hi _
theorem gp_tm_0 {c : Nat} {S : Nat → Nat → Nat} (h : gp_ok c S) {i : Nat} (hi : i < c) (m : Nat) : gp_tm S i (m : Int) = 0 ↔ m % gp_ord S i = 0 := by
  rw [← gp_tm_p h hi]; exact gp_zero h hi m
/-- how many below n -/
def gp_cn (f : Nat → Bool) : Nat → Nat
  | 0 => 0
  | n + 1 => gp_cn f n + (if f n = true then 1 else 0)
theorem gp_cn_le (f : Nat → Bool) (n : Nat) : gp_cn f n ≤ n := by
  induction n with
  | zero => exact Nat.le_refl 0
  | succ n ih =>
    show gp_cn f n + (if f n = true then 1 else 0) ≤ n + 1
    split <;> omega
theorem gp_cn_e {f g : Nat → Bool} (n : Nat) (h : ∀ k, k < n → f k = g k) : gp_cn f n = gp_cn g n := by
  induction n with
  | zero => rfl
  | succ n ih =>
    show gp_cn f n + (if f n = true then 1 else 0) = gp_cn g n + (if g n = true then 1 else 0)
    rw [ih (fun k hk => h k (by omega)), h n (by omega)]
theorem gp_cn_t {f : Nat → Bool} {n : Nat} (h : f n = true) : gp_cn f (n + 1) = gp_cn f n + 1 := by
  show gp_cn f n + (if f n = true then 1 else 0) = _
  rw [if_pos h]
theorem gp_cn_f {f : Nat → Bool} {n : Nat} (h : ¬ f n = true) : gp_cn f (n + 1) = gp_cn f n := by
  show gp_cn f n + (if f n = true then 1 else 0) = _
  rw [if_neg h, Nat.add_zero]
/-- the greatest order below n, and the first index that has it -/
noncomputable def gp_mx (S : Nat → Nat → Nat) : Nat → Nat
  | 0 => 0
  | n + 1 => if gp_mx S n < gp_ord S n then gp_ord S n else gp_mx S n
noncomputable def gp_gn (S : Nat → Nat → Nat) : Nat → Nat
  | 0 => 0
  | n + 1 => if gp_mx S n < gp_ord S n then n else gp_gn S n
theorem gp_mx_s (S : Nat → Nat → Nat) (n : Nat) : (∀ k, k < n → gp_ord S k ≤ gp_mx S n) ∧ (0 < n → gp_mx S n = 0 ∨ (gp_gn S n < n ∧ gp_ord S (gp_gn S n) = gp_mx S n ∧ ∀ k, k < gp_gn S n → gp_ord S k < gp_mx S n)) := by
  induction n with
  | zero => exact ⟨fun k hk => absurd hk (Nat.not_lt_zero k), fun h => absurd h (Nat.lt_irrefl 0)⟩
  | succ n ih =>
    by_cases g : gp_mx S n < gp_ord S n
    · have e1 : gp_mx S (n + 1) = gp_ord S n := if_pos g
      have e2 : gp_gn S (n + 1) = n := if_pos g
      rw [e1, e2]
      refine ⟨fun k hk => ?_, fun _ => Or.inr ⟨by omega, rfl, fun k hk => ?_⟩⟩
      · rcases Nat.lt_or_ge k n with q | q
        · have := ih.1 k q; omega
        · have e : k = n := by omega
          rw [e]; exact Nat.le_refl _
      · have := ih.1 k hk; omega
    · have e1 : gp_mx S (n + 1) = gp_mx S n := if_neg g
      have e2 : gp_gn S (n + 1) = gp_gn S n := if_neg g
      rw [e1, e2]
      refine ⟨fun k hk => ?_, fun _ => ?_⟩
      · rcases Nat.lt_or_ge k n with q | q
        · exact ih.1 k q
        · have e : k = n := by omega
          rw [e]; omega
      · rcases Nat.eq_zero_or_pos n with q | q
        · left; rw [q]; rfl
        · rcases ih.2 q with w | ⟨w1, w2, w3⟩
          · exact Or.inl w
          · exact Or.inr ⟨by omega, w2, w3⟩
theorem gp_mx_c {c : Nat} {S : Nat → Nat → Nat} (h : gp_ok c S) {n : Nat} (h0 : 0 < n) (hn : n ≤ c) : 0 < gp_mx S n ∧ gp_mx S n ≤ c ∧ gp_gn S n < n ∧ gp_ord S (gp_gn S n) = gp_mx S n ∧ ∀ k, k < gp_gn S n → gp_ord S k < gp_mx S n := by
  have q := gp_mx_s S n
  have h1 := q.1 0 h0
  rw [gp_ord_0 h] at h1
  rcases q.2 h0 with w | ⟨w1, w2, w3⟩
  · omega
  · have := (gp_ord_s h (i := gp_gn S n) (by omega)).2.1
    exact ⟨by omega, by omega, w1, w2, w3⟩
