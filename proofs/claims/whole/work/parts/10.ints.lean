/-! small integers as Int32: the remainders of both sides -/
def zi_ (k : Int) : Int32 := Int32.ofInt k
theorem zi_n (n : Nat) : nI n = zi_ (n : Int) := Int32.ofInt_eq_ofNat.symm
theorem zi_add (a b : Int) : zi_ a + zi_ b = zi_ (a + b) := (Int32.ofInt_add a b).symm
theorem zi_sub (a b : Int) : zi_ a - zi_ b = zi_ (a - b) := (Int32.ofInt_sub a b).symm
theorem zi_mul (a b : Int) : zi_ a * zi_ b = zi_ (a * b) := (Int32.ofInt_mul a b).symm
theorem zi_neg (a : Int) : -zi_ a = zi_ (-a) := (Int32.ofInt_neg a).symm
def zi_in (k : Int) : Prop := -1000000000 ≤ k ∧ k ≤ 1000000000
theorem zi_toInt {k : Int} (h : zi_in k) : (zi_ k).toInt = k := Int32.toInt_ofInt_of_le (by unfold zi_in at h; omega) (by unfold zi_in at h; omega)
theorem zi_inj {a b : Int} (ha : zi_in a) (hb : zi_in b) : zi_ a = zi_ b ↔ a = b := by
  constructor
  · intro h
    have e := congrArg Int32.toInt h
    rwa [zi_toInt ha, zi_toInt hb] at e
  · intro h; rw [h]
theorem zi_lt {a b : Int} (ha : zi_in a) (hb : zi_in b) : zi_ a < zi_ b ↔ a < b := by
  rw [Int32.lt_iff_toInt_lt, zi_toInt ha, zi_toInt hb]
theorem zi_le {a b : Int} (ha : zi_in a) (hb : zi_in b) : zi_ a ≤ zi_ b ↔ a ≤ b := by
  rw [Int32.le_iff_toInt_le, zi_toInt ha, zi_toInt hb]
theorem zi_div {a b : Int} (ha : zi_in a) (hb : zi_in b) : zi_ a / zi_ b = zi_ (a.tdiv b) := by
  have m1 : Int32.minValue.toInt = -2147483648 := by decide
  have m2 : Int32.maxValue.toInt = 2147483647 := by decide
  unfold zi_in at ha hb
  exact (Int32.ofInt_tdiv (by omega) (by omega) (by omega) (by omega)).symm
theorem zi_rem {a b : Int} (ha : zi_in a) (hb : zi_in b) : zi_ a - zi_ a / zi_ b * zi_ b = zi_ (a.tmod b) := by
  rw [zi_div ha hb, zi_mul, zi_sub, Int.tmod_def, Int.mul_comm]
theorem zi_pin {p : Nat} (hp : p ≤ 1000) : zi_in (p : Int) := by unfold zi_in; omega
theorem zi_tb {p : Nat} (h0 : 0 < p) (a : Int) : -(p : Int) < a.tmod p ∧ a.tmod p < p := ⟨Int.lt_tmod_of_pos a (by omega), Int.tmod_lt_of_pos a (by omega)⟩
theorem zi_tq (p : Nat) (a : Int) : mq_ p (a.tmod p) a := ⟨-(a.tdiv p), by rw [Int.tmod_def]; grind⟩
/-- the remainder that has the dividend's sign -/
theorem zi_r1 {p : Nat} {a : Int} (hp : p ≤ 1000) (ha : zi_in a) : zi_ a - zi_ a / nI p * nI p = zi_ (a.tmod p) := by
  rw [zi_n]; exact zi_rem ha (zi_pin hp)
/-- the reference's rest -/
theorem zi_rs {p : Nat} {a : Int} (h0 : 0 < p) (hp : p ≤ 1000) (ha : zi_in a) : (zi_ a - zi_ a / nI p * nI p + nI p) - (zi_ a - zi_ a / nI p * nI p + nI p) / nI p * nI p = nI (ec_m p a) := by
  have b := zi_tb h0 a
  rw [zi_r1 hp ha]
  have e : zi_ (a.tmod p) + nI p = zi_ (a.tmod p + p) := by rw [zi_n, zi_add]
  rw [e, zi_r1 hp (by unfold zi_in; omega), zi_n]
  have q : mq_ p ((a.tmod p + p).tmod p) a := mq_t (zi_tq p _) (mq_t (mq_a (zi_tq p a) (⟨1, by grind⟩ : mq_ p (p : Int) 0)) (mq_e (Int.add_zero a)))
  have n : 0 ≤ (a.tmod p + p).tmod p := Int.tmod_nonneg _ (by omega)
  have l := (zi_tb h0 (a.tmod p + p)).2
  refine congrArg zi_ ?_
  have e1 : (((a.tmod p + p).tmod p).toNat : Int) = (a.tmod p + p).tmod p := Int.toNat_of_nonneg n
  have e2 : ec_m p a = ((a.tmod p + p).tmod p).toNat := ec_m_of (by omega) (by rw [e1]; exact q)
  rw [e2, e1]
/-- the component's reduced -/
theorem zi_rdn {p : Nat} {a : Int} (h0 : 0 < p) (hp : p ≤ 1000) (n : a.tmod p < 0) : zi_ (a.tmod p) + nI p = nI (ec_m p a) := by
  have b := zi_tb h0 a
  rw [zi_n, zi_n, zi_add]
  refine congrArg zi_ ?_
  have e1 : ((a.tmod p + p).toNat : Int) = a.tmod p + p := Int.toNat_of_nonneg (by omega)
  have q : mq_ p (a.tmod p + p) a := mq_t (mq_a (zi_tq p a) (⟨1, by grind⟩ : mq_ p (p : Int) 0)) (mq_e (Int.add_zero a))
  have e2 : ec_m p a = (a.tmod p + p).toNat := ec_m_of (by omega) (by rw [e1]; exact q)
  rw [e2, e1]
theorem zi_rdp {p : Nat} {a : Int} (h0 : 0 < p) (n : ¬ a.tmod p < 0) : zi_ (a.tmod p) = nI (ec_m p a) := by
  have b := zi_tb h0 a
  rw [zi_n]
  refine congrArg zi_ ?_
  have e1 : ((a.tmod p).toNat : Int) = a.tmod p := Int.toNat_of_nonneg (by omega)
  have e2 : ec_m p a = (a.tmod p).toNat := ec_m_of (by omega) (by rw [e1]; exact zi_tq p a)
  rw [e2, e1]
theorem zi_neg0 {p : Nat} {a : Int} (h0 : 0 < p) (hp : p ≤ 1000) : zi_ (a.tmod p) < 0 ↔ a.tmod p < 0 := by
  have b := zi_tb h0 a
  have z : (0 : Int32) = zi_ 0 := by decide
  rw [z]
  exact zi_lt (by unfold zi_in; omega) (by unfold zi_in; omega)
