/-! points as codes 64 x + y, the zero point 4095: the sum, and a check that the kernel runs -/
noncomputable def ec_if (c : Bool) (t e : Nat) : Nat := Bool.rec (motive := fun _ => Nat) e t c
noncomputable def ec_an (c d : Bool) : Bool := Bool.rec (motive := fun _ => Bool) false d c
noncomputable def ec_im (c d : Bool) : Bool := Bool.rec (motive := fun _ => Bool) true d c
noncomputable def ec_all (n : Nat) (f : Nat → Bool) : Bool := Nat.rec (motive := fun _ => Bool) true (fun k ih => ec_an (f k) ih) n
noncomputable def ec_fin2 (p x y l r : Nat) : Nat := Nat.add (Nat.mul 64 r) (Nat.mod (Nat.add (Nat.mul l (Nat.sub (Nat.add x p) r)) (Nat.sub p y)) p)
noncomputable def ec_fin (p x y u l : Nat) : Nat := ec_fin2 p x y l (Nat.mod (Nat.add (Nat.mul l l) (Nat.add (Nat.sub p x) (Nat.sub p u))) p)
noncomputable def ec_ad2 (p a x y u v : Nat) : Nat :=
  Bool.rec (motive := fun _ => Nat)
    (ec_fin p x y u (Nat.mod (Nat.mul (Nat.sub (Nat.add v p) y) (Nat.pow (Nat.sub (Nat.add u p) x) (Nat.sub p 2))) p))
    (Bool.rec (motive := fun _ => Nat)
      (ec_fin p x y u (Nat.mod (Nat.mul (Nat.add (Nat.mul 3 (Nat.mul x x)) a) (Nat.pow (Nat.mul 2 y) (Nat.sub p 2))) p))
      4095 (Nat.beq (Nat.mod (Nat.add y v) p) 0))
    (Nat.beq x u)
noncomputable def ec_ad (p a P Q : Nat) : Nat :=
  Bool.rec (motive := fun _ => Nat)
    (Bool.rec (motive := fun _ => Nat) (ec_ad2 p a (Nat.div P 64) (Nat.mod P 64) (Nat.div Q 64) (Nat.mod Q 64)) P (Nat.beq Q 4095))
    Q (Nat.beq P 4095)
noncomputable def ec_lk (T k : Nat) : Nat := Nat.mod (Nat.shiftRight T (Nat.mul 12 k)) 4096
noncomputable def ec_onb (p a b x y : Nat) : Bool := Nat.beq (Nat.mod (Nat.mul y y) p) (Nat.mod (Nat.add (Nat.add (Nat.mul x (Nat.mul x x)) (Nat.mul a x)) b) p)
noncomputable def ec_ptb (p a b P : Nat) : Bool :=
  Bool.rec (motive := fun _ => Bool) (ec_an (Nat.ble (Nat.succ (Nat.div P 64)) p) (ec_an (Nat.ble (Nat.succ (Nat.mod P 64)) p) (ec_onb p a b (Nat.div P 64) (Nat.mod P 64)))) true (Nat.beq P 4095)
noncomputable def ec_bm (T n : Nat) : Nat := Nat.rec (motive := fun _ => Nat) 0 (fun k ih => Nat.lor ih (Nat.shiftLeft 1 (ec_lk T k))) n
noncomputable def ec_bit (B m : Nat) : Bool := Nat.beq (Nat.mod (Nat.shiftRight B m) 2) 1
noncomputable def ec_cov (p a b B : Nat) : Bool := ec_all p (fun x => ec_all p (fun y => ec_im (ec_onb p a b x y) (ec_bit B (Nat.add (Nat.mul 64 x) y))))
noncomputable def ec_tab (p a n1 n2 T : Nat) : Bool :=
  ec_all n2 (fun j => ec_all n1 (fun i => ec_all n2 (fun j' => ec_all n1 (fun i' =>
    Nat.beq (ec_ad p a (ec_lk T (Nat.add (Nat.mul n1 j) i)) (ec_lk T (Nat.add (Nat.mul n1 j') i')))
      (ec_lk T (Nat.add (Nat.mul n1 (Nat.mod (Nat.add j j') n2)) (Nat.mod (Nat.add i i') n1)))))))
/-- a number, reckoned before it is used -/
noncomputable def ec_use (n : Nat) (f : Nat → Bool) : Bool := Nat.rec (motive := fun _ => Bool) (f 0) (fun k _ => f (Nat.succ k)) n
noncomputable def ec_chk (p a b n1 n2 T : Nat) : Bool :=
  ec_an (Nat.beq (ec_lk T 0) 4095) (ec_an (Nat.ble 1 n1) (ec_an (Nat.ble 1 n2)
    (ec_an (ec_all (Nat.mul n1 n2) (fun k => ec_ptb p a b (ec_lk T k)))
      (ec_an (ec_use (ec_bm T (Nat.mul n1 n2)) (fun B => ec_cov p a b B)) (ec_tab p a n1 n2 T)))))
noncomputable def ec_row (p a G n K : Nat) : Nat := Nat.rec (motive := fun _ => Nat → Nat) (fun _ => 0) (fun _ ih K => Nat.add K (Nat.mul 4096 (ih (ec_ad p a K G)))) n K
noncomputable def ec_rws (p a G1 G2 n1 n2 K : Nat) : Nat := Nat.rec (motive := fun _ => Nat → Nat) (fun _ => 0) (fun _ ih K => Nat.add (ec_row p a G1 n1 K) (Nat.mul (Nat.pow 4096 n1) (ih (ec_ad p a K G2)))) n2 K
noncomputable def ec_run (p a b n1 n2 G1 G2 : Nat) : Bool := ec_use (ec_rws p a G1 G2 n1 n2 4095) (fun T => ec_chk p a b n1 n2 T)

theorem ec_an_t {c d : Bool} (h : ec_an c d = true) : c = true ∧ d = true := by
  cases c with
  | false => exact absurd h (by intro h; exact Bool.noConfusion h)
  | true => exact ⟨rfl, h⟩
theorem ec_all_t {n : Nat} {f : Nat → Bool} : ec_all n f = true → ∀ k, k < n → f k = true := by
  induction n with
  | zero => intro _ k hk; exact absurd hk (Nat.not_lt_zero k)
  | succ n ih =>
    intro h k hk
    have e : ec_an (f n) (ec_all n f) = true := h
    have e2 := ec_an_t e
    rcases Nat.lt_or_ge k n with g | g
    · exact ih e2.2 k g
    · have g2 : k = n := by omega
      rw [g2]; exact e2.1
theorem ec_use_t {n : Nat} {f : Nat → Bool} (h : ec_use n f = true) : f n = true := by
  cases n with
  | zero => exact h
  | succ n => exact h

def ec_on (p a b x y : Nat) : Prop := y * y % p = (x * (x * x) + a * x + b) % p
def ec_pt (p a b P : Nat) : Prop := P = 4095 ∨ (P / 64 < p ∧ P % 64 < p ∧ ec_on p a b (P / 64) (P % 64))
def ec_G (p a b : Nat) : Prop := (∀ P Q, ec_pt p a b P → ec_pt p a b Q → ec_pt p a b (ec_ad p a P Q)) ∧ ∀ P Q R, ec_pt p a b P → ec_pt p a b Q → ec_pt p a b R → ec_ad p a (ec_ad p a P Q) R = ec_ad p a P (ec_ad p a Q R)
theorem ec_onb_t {p a b x y : Nat} : ec_onb p a b x y = true ↔ ec_on p a b x y := by
  constructor
  · intro h; exact Nat.eq_of_beq_eq_true h
  · intro h
    have e : y * y % p = (x * (x * x) + a * x + b) % p := h
    show Nat.beq (y * y % p) ((x * (x * x) + a * x + b) % p) = true
    rw [e]; exact Nat.beq_refl _
theorem ec_ptb_t {p a b P : Nat} (h : ec_ptb p a b P = true) : ec_pt p a b P := by
  cases hb : Nat.beq P 4095 with
  | true => exact Or.inl (Nat.eq_of_beq_eq_true hb)
  | false =>
    unfold ec_ptb at h
    rw [hb] at h
    have h1 := ec_an_t h
    have h2 := ec_an_t h1.2
    exact Or.inr ⟨Nat.le_of_ble_eq_true h1.1, Nat.le_of_ble_eq_true h2.1, ec_onb_t.mp h2.2⟩
theorem ec_bit_t {B m : Nat} (h : ec_bit B m = true) : B.testBit m = true := by
  have h1 : (B >>> m) % 2 = 1 := Nat.eq_of_beq_eq_true h
  rw [Nat.testBit_eq_decide_div_mod_eq, ← Nat.shiftRight_eq_div_pow]
  exact decide_eq_true h1
theorem ec_bm_t {T m : Nat} : ∀ n, (ec_bm T n).testBit m = true → ∃ k, k < n ∧ ec_lk T k = m := by
  intro n
  induction n with
  | zero => intro h; exact absurd h (by show ¬ Nat.testBit 0 m = true; rw [Nat.zero_testBit]; decide)
  | succ n ih =>
    intro h
    have h1 : (ec_bm T n ||| 1 <<< ec_lk T n).testBit m = true := h
    rw [Nat.testBit_or, Nat.one_shiftLeft, Nat.testBit_two_pow, Bool.or_eq_true] at h1
    rcases h1 with g | g
    · obtain ⟨k, hk, e⟩ := ih g
      exact ⟨k, by omega, e⟩
    · exact ⟨n, by omega, of_decide_eq_true g⟩
theorem ec_cov_t {p a b B : Nat} (h : ec_cov p a b B = true) {x y : Nat} (hx : x < p) (hy : y < p) (ho : ec_on p a b x y) : B.testBit (64 * x + y) = true := by
  have h1 := ec_all_t (ec_all_t h x hx) y hy
  rw [ec_onb_t.mpr ho] at h1
  exact ec_bit_t h1
theorem ec_sound {p a b n1 n2 T : Nat} (h : ec_chk p a b n1 n2 T = true) : ec_G p a b := by
  have h1 := ec_an_t h
  have h2 := ec_an_t h1.2
  have h3 := ec_an_t h2.2
  have h4 := ec_an_t h3.2
  have h5 := ec_an_t h4.2
  have p1 : 1 ≤ n1 := Nat.le_of_ble_eq_true h2.1
  have p2 : 1 ≤ n2 := Nat.le_of_ble_eq_true h3.1
  have e0 : ec_lk T 0 = 4095 := Nat.eq_of_beq_eq_true h1.1
  have hp : ∀ k, k < n1 * n2 → ec_pt p a b (ec_lk T k) := fun k hk => ec_ptb_t (ec_all_t h4.1 k hk)
  have hB := ec_use_t h5.1
  have ht : ∀ j i j' i', j < n2 → i < n1 → j' < n2 → i' < n1 → ec_ad p a (ec_lk T (n1 * j + i)) (ec_lk T (n1 * j' + i')) = ec_lk T (n1 * ((j + j') % n2) + (i + i') % n1) :=
    fun j i j' i' a1 a2 a3 a4 => Nat.eq_of_beq_eq_true (ec_all_t (ec_all_t (ec_all_t (ec_all_t h5.2 j a1) i a2) j' a3) i' a4)
  have hk : ∀ k, k < n1 * n2 → ∃ j i, j < n2 ∧ i < n1 ∧ n1 * j + i = k := by
    intro k hk
    refine ⟨k / n1, k % n1, Nat.div_lt_of_lt_mul hk, Nat.mod_lt _ p1, Nat.div_add_mod k n1⟩
  have hc : ∀ P, ec_pt p a b P → ∃ j i, j < n2 ∧ i < n1 ∧ ec_lk T (n1 * j + i) = P := by
    intro P hP
    rcases hP with e | ⟨a1, a2, a3⟩
    · exact ⟨0, 0, p2, p1, by rw [e]; exact e0⟩
    · obtain ⟨k, g1, g2⟩ := ec_bm_t _ (ec_cov_t hB a1 a2 a3)
      obtain ⟨j, i, b1, b2, b3⟩ := hk k g1
      refine ⟨j, i, b1, b2, ?_⟩
      rw [b3, g2]; exact Nat.div_add_mod P 64
  have hn : ∀ j i, j < n2 → i < n1 → n1 * j + i < n1 * n2 := by
    intro j i b1 b2
    have q : n1 * (j + 1) ≤ n1 * n2 := Nat.mul_le_mul_left n1 b1
    rw [Nat.mul_succ] at q
    omega
  refine ⟨?_, ?_⟩
  · intro P Q hP hQ
    obtain ⟨j, i, a1, a2, rfl⟩ := hc P hP
    obtain ⟨j', i', a3, a4, rfl⟩ := hc Q hQ
    rw [ht j i j' i' a1 a2 a3 a4]
    exact hp _ (hn _ _ (Nat.mod_lt _ p2) (Nat.mod_lt _ p1))
  · intro P Q R hP hQ hR
    obtain ⟨j, i, a1, a2, rfl⟩ := hc P hP
    obtain ⟨j', i', a3, a4, rfl⟩ := hc Q hQ
    obtain ⟨j'', i'', a5, a6, rfl⟩ := hc R hR
    rw [ht j i j' i' a1 a2 a3 a4, ht j' i' j'' i'' a3 a4 a5 a6, ht _ _ _ _ (Nat.mod_lt _ p2) (Nat.mod_lt _ p1) a5 a6, ht _ _ _ _ a1 a2 (Nat.mod_lt _ p2) (Nat.mod_lt _ p1)]
    rw [Nat.mod_add_mod, Nat.mod_add_mod, Nat.add_mod_mod, Nat.add_mod_mod, Nat.add_assoc, Nat.add_assoc]
theorem ec_run_t {p a b n1 n2 G1 G2 : Nat} (h : ec_run p a b n1 n2 G1 G2 = true) : ec_G p a b := ec_sound (ec_use_t h)
/-- a list of certificates, each packed into one number -/
noncomputable def ec_one (p c : Nat) : Bool := ec_run p (Nat.div c (2 ^ 44)) (Nat.mod (Nat.div c (2 ^ 38)) 64) (Nat.mod (Nat.div c (2 ^ 31)) 128) (Nat.mod (Nat.div c (2 ^ 24)) 128) (Nat.mod (Nat.div c (2 ^ 12)) 4096) (Nat.mod c 4096)
noncomputable def ec_lst (p : Nat) (l : List Nat) : Bool := List.rec (motive := fun _ => Bool) true (fun c _ ih => ec_an (ec_one p c) ih) l
def ec_GL (p : Nat) (l : List Nat) : Prop := ∀ c, c ∈ l → ec_G p (c / 2 ^ 44) (c / 2 ^ 38 % 64)
theorem ec_lst_t {p : Nat} {l : List Nat} : ec_lst p l = true → ec_GL p l := by
  induction l with
  | nil => intro _ c hc; exact absurd hc List.not_mem_nil
  | cons d l ih =>
    intro h c hc
    have e : ec_an (ec_one p d) (ec_lst p l) = true := h
    have e2 := ec_an_t e
    rcases List.mem_cons.mp hc with g | g
    · rw [g]; exact ec_run_t e2.1
    · exact ih e2.2 c g
theorem ec_GL_app {p : Nat} {l m : List Nat} (h : ec_GL p l) (g : ec_GL p m) : ec_GL p (l ++ m) := by
  intro c hc
  rcases List.mem_append.mp hc with q | q
  · exact h c q
  · exact g c q
/-- every curve that is not singular is (t^4 a, t^6 b) of one in the list -/
noncomputable def ec_tb (p a b n : Nat) : Nat := Nat.rec (motive := fun _ => Nat) 0 (fun k ih => Nat.lor ih (Nat.shiftLeft 1 (Nat.add (Nat.mul 64 (Nat.mod (Nat.mul (Nat.pow (Nat.succ k) 4) a) p)) (Nat.mod (Nat.mul (Nat.pow (Nat.succ k) 6) b) p)))) n
noncomputable def ec_lb (p : Nat) (l : List Nat) : Nat := List.rec (motive := fun _ => Nat) 0 (fun c _ ih => Nat.lor (ec_tb p (Nat.div c (2 ^ 44)) (Nat.mod (Nat.div c (2 ^ 38)) 64) (Nat.sub p 1)) ih) l
noncomputable def ec_rep (p : Nat) (l : List Nat) : Bool :=
  ec_use (ec_lb p l) (fun B => ec_all p (fun a => ec_all p (fun b =>
    Bool.rec (motive := fun _ => Bool) (ec_bit B (Nat.add (Nat.mul 64 a) b)) true (Nat.beq (Nat.mod (Nat.add (Nat.mul 4 (Nat.mul a (Nat.mul a a))) (Nat.mul 27 (Nat.mul b b))) p) 0))))
theorem ec_tb_t {p a b m : Nat} : ∀ n, (ec_tb p a b n).testBit m = true → ∃ t, 0 < t ∧ t < n + 1 ∧ 64 * (t ^ 4 * a % p) + t ^ 6 * b % p = m := by
  intro n
  induction n with
  | zero => intro h; exact absurd h (by show ¬ Nat.testBit 0 m = true; rw [Nat.zero_testBit]; decide)
  | succ n ih =>
    intro h
    have h1 : (ec_tb p a b n ||| 1 <<< (64 * ((n + 1) ^ 4 * a % p) + (n + 1) ^ 6 * b % p)).testBit m = true := h
    rw [Nat.testBit_or, Nat.one_shiftLeft, Nat.testBit_two_pow, Bool.or_eq_true] at h1
    rcases h1 with g | g
    · obtain ⟨k, h0, hk, e⟩ := ih g
      exact ⟨k, h0, by omega, e⟩
    · exact ⟨n + 1, by omega, by omega, of_decide_eq_true g⟩
theorem ec_lb_t {p m : Nat} (hp : 1 ≤ p) : ∀ l : List Nat, (ec_lb p l).testBit m = true → ∃ c t, c ∈ l ∧ 0 < t ∧ t < p ∧ 64 * (t ^ 4 * (c / 2 ^ 44) % p) + t ^ 6 * (c / 2 ^ 38 % 64) % p = m := by
  intro l
  induction l with
  | nil => intro h; exact absurd h (by show ¬ Nat.testBit 0 m = true; rw [Nat.zero_testBit]; decide)
  | cons d l ih =>
    intro h
    have h1 : (ec_tb p (d / 2 ^ 44) (d / 2 ^ 38 % 64) (p - 1) ||| ec_lb p l).testBit m = true := h
    rw [Nat.testBit_or, Bool.or_eq_true] at h1
    rcases h1 with g | g
    · obtain ⟨t, h0, ht, e⟩ := ec_tb_t _ g
      exact ⟨d, t, List.mem_cons_self, h0, by omega, e⟩
    · obtain ⟨c, t, hc, q⟩ := ih g
      exact ⟨c, t, List.mem_cons_of_mem _ hc, q⟩
theorem ec_rep_t {p : Nat} {l : List Nat} (hp : 1 ≤ p) (hp2 : p ≤ 64) (h : ec_rep p l = true) {a b : Nat} (ha : a < p) (hb : b < p) (hn : (4 * (a * (a * a)) + 27 * (b * b)) % p ≠ 0) :
    ∃ c t, c ∈ l ∧ 0 < t ∧ t < p ∧ t ^ 4 * (c / 2 ^ 44) % p = a ∧ t ^ 6 * (c / 2 ^ 38 % 64) % p = b := by
  have h0 := ec_use_t h
  have h1 := ec_all_t (ec_all_t h0 a ha) b hb
  have hf : Nat.beq (Nat.mod (Nat.add (Nat.mul 4 (Nat.mul a (Nat.mul a a))) (Nat.mul 27 (Nat.mul b b))) p) 0 = false := by
    cases q : Nat.beq (Nat.mod (Nat.add (Nat.mul 4 (Nat.mul a (Nat.mul a a))) (Nat.mul 27 (Nat.mul b b))) p) 0 with
    | false => rfl
    | true => exact absurd (Nat.eq_of_beq_eq_true q) hn
  rw [hf] at h1
  obtain ⟨c, t, hc, h0, ht, e⟩ := ec_lb_t hp l (ec_bit_t h1)
  have e' : 64 * (t ^ 4 * (c / 2 ^ 44) % p) + t ^ 6 * (c / 2 ^ 38 % 64) % p = 64 * a + b := e
  have q1 : t ^ 6 * (c / 2 ^ 38 % 64) % p < p := Nat.mod_lt _ hp
  have q2 : t ^ 4 * (c / 2 ^ 44) % p < p := Nat.mod_lt _ hp
  exact ⟨c, t, hc, h0, ht, by omega, by omega⟩
