section
/-! points as codes 64 x + y, the zero point 4095: the sum, and a check that the kernel runs -/
noncomputable def ec_if (c : Bool) (t e : Nat) : Nat := Bool.rec (motive := fun _ => Nat) e t c
noncomputable def ec_an (c d : Bool) : Bool := Bool.rec (motive := fun _ => Bool) false d c
noncomputable def ec_im (c d : Bool) : Bool := Bool.rec (motive := fun _ => Bool) true d c
noncomputable def ec_all (n : Nat) (f : Nat → Bool) : Bool := Nat.rec (motive := fun _ => Bool) true (fun k ih => ec_an (f k) ih) n
noncomputable def ec_fin2 (p x y l r : Nat) : Nat := Nat.add (Nat.mul 64 r) (Nat.mod (Nat.add (Nat.mul l (Nat.sub (Nat.add x p) r)) (Nat.sub p y)) p)
noncomputable def ec_fin (p x y u l : Nat) : Nat := ec_fin2 p x y l (Nat.mod (Nat.add (Nat.mul l l) (Nat.add (Nat.sub p x) (Nat.sub p u))) p)
noncomputable def ec_ad2 (p a x y u v : Nat) : Nat :=
  Bool.rec (motive := fun _ => Nat)
    (ec_fin p x y u (Nat.mod (Nat.mul (Nat.sub (Nat.add v p) y) (Nat.pow (Nat.sub (Nat.add u p) x) (Nat.sub p 2))) p))
    (Bool.rec (motive := fun _ => Nat)
      (ec_fin p x y u (Nat.mod (Nat.mul (Nat.add (Nat.mul 3 (Nat.mul x x)) a) (Nat.pow (Nat.mul 2 y) (Nat.sub p 2))) p))
      4095 (Nat.beq (Nat.mod (Nat.add y v) p) 0))
    (Nat.beq x u)
noncomputable def ec_ad (p a P Q : Nat) : Nat :=
  Bool.rec (motive := fun _ => Nat)
    (Bool.rec (motive := fun _ => Nat) (ec_ad2 p a (Nat.div P 64) (Nat.mod P 64) (Nat.div Q 64) (Nat.mod Q 64)) P (Nat.beq Q 4095))
    Q (Nat.beq P 4095)
noncomputable def ec_lk (T k : Nat) : Nat := Nat.mod (Nat.shiftRight T (Nat.mul 12 k)) 4096
noncomputable def ec_onb (p a b x y : Nat) : Bool := Nat.beq (Nat.mod (Nat.mul y y) p) (Nat.mod (Nat.add (Nat.add (Nat.mul x (Nat.mul x x)) (Nat.mul a x)) b) p)
noncomputable def ec_ptb (p a b P : Nat) : Bool :=
  Bool.rec (motive := fun _ => Bool) (ec_an (Nat.ble (Nat.succ (Nat.div P 64)) p) (ec_an (Nat.ble (Nat.succ (Nat.mod P 64)) p) (ec_onb p a b (Nat.div P 64) (Nat.mod P 64)))) true (Nat.beq P 4095)
noncomputable def ec_bm (T n : Nat) : Nat := Nat.rec (motive := fun _ => Nat) 0 (fun k ih => Nat.lor ih (Nat.shiftLeft 1 (ec_lk T k))) n
noncomputable def ec_bit (B m : Nat) : Bool := Nat.beq (Nat.mod (Nat.shiftRight B m) 2) 1
noncomputable def ec_cov (p a b B : Nat) : Bool := ec_all p (fun x => ec_all p (fun y => ec_im (ec_onb p a b x y) (ec_bit B (Nat.add (Nat.mul 64 x) y))))
noncomputable def ec_tab (p a n1 n2 T : Nat) : Bool :=
  ec_all n2 (fun j => ec_all n1 (fun i => ec_all n2 (fun j' => ec_all n1 (fun i' =>
    Nat.beq (ec_ad p a (ec_lk T (Nat.add (Nat.mul n1 j) i)) (ec_lk T (Nat.add (Nat.mul n1 j') i')))
      (ec_lk T (Nat.add (Nat.mul n1 (Nat.mod (Nat.add j j') n2)) (Nat.mod (Nat.add i i') n1)))))))
/-- a number, reckoned before it is used -/
noncomputable def ec_use (n : Nat) (f : Nat → Bool) : Bool := Nat.rec (motive := fun _ => Bool) (f 0) (fun k _ => f (Nat.succ k)) n
noncomputable def ec_chk (p a b n1 n2 T : Nat) : Bool :=
  ec_an (Nat.beq (ec_lk T 0) 4095) (ec_an (Nat.ble 1 n1) (ec_an (Nat.ble 1 n2)
    (ec_an (ec_all (Nat.mul n1 n2) (fun k => ec_ptb p a b (ec_lk T k)))
      (ec_an (ec_use (ec_bm T (Nat.mul n1 n2)) (fun B => ec_cov p a b B)) (ec_tab p a n1 n2 T)))))
noncomputable def ec_row (p a G n K : Nat) : Nat := Nat.rec (motive := fun _ => Nat → Nat) (fun _ => 0) (fun _ ih K => Nat.add K (Nat.mul 4096 (ih (ec_ad p a K G)))) n K
noncomputable def ec_rws (p a G1 G2 n1 n2 K : Nat) : Nat := Nat.rec (motive := fun _ => Nat → Nat) (fun _ => 0) (fun _ ih K => Nat.add (ec_row p a G1 n1 K) (Nat.mul (Nat.pow 4096 n1) (ih (ec_ad p a K G2)))) n2 K
noncomputable def ec_run (p a b n1 n2 G1 G2 : Nat) : Bool := ec_use (ec_rws p a G1 G2 n1 n2 4095) (fun T => ec_chk p a b n1 n2 T)

theorem ec_an_t {c d : Bool} (h : ec_an c d = true) : c = true ∧ d = true := by
  cases c with
  | false => exact absurd h (by intro h; exact Bool.noConfusion h)
  | true => exact ⟨rfl, h⟩
theorem ec_all_t {n : Nat} {f : Nat → Bool} : ec_all n f = true → ∀ k, k < n → f k = true := by
  induction n with
  | zero => intro _ k hk; exact absurd hk (Nat.not_lt_zero k)
  | succ n ih =>
    intro h k hk
    have e : ec_an (f n) (ec_all n f) = true := h
    have e2 := ec_an_t e
    rcases Nat.lt_or_ge k n with g | g
    · exact ih e2.2 k g
    · have g2 : k = n := by omega
      rw [g2]; exact e2.1
theorem ec_use_t {n : Nat} {f : Nat → Bool} (h : ec_use n f = true) : f n = true := by
  cases n with
  | zero => exact h
  | succ n => exact h

def ec_on (p a b x y : Nat) : Prop := y * y % p = (x * (x * x) + a * x + b) % p
def ec_pt (p a b P : Nat) : Prop := P = 4095 ∨ (P / 64 < p ∧ P % 64 < p ∧ ec_on p a b (P / 64) (P % 64))
def ec_G (p a b : Nat) : Prop := (∀ P Q, ec_pt p a b P → ec_pt p a b Q → ec_pt p a b (ec_ad p a P Q)) ∧ ∀ P Q R, ec_pt p a b P → ec_pt p a b Q → ec_pt p a b R → ec_ad p a (ec_ad p a P Q) R = ec_ad p a P (ec_ad p a Q R)
theorem ec_onb_t {p a b x y : Nat} : ec_onb p a b x y = true ↔ ec_on p a b x y := by
  constructor
  · intro h; exact Nat.eq_of_beq_eq_true h
  · intro h
    have e : y * y % p = (x * (x * x) + a * x + b) % p := h
    show Nat.beq (y * y % p) ((x * (x * x) + a * x + b) % p) = true
    rw [e]; exact Nat.beq_refl _
theorem ec_ptb_t {p a b P : Nat} (h : ec_ptb p a b P = true) : ec_pt p a b P := by
  cases hb : Nat.beq P 4095 with
  | true => exact Or.inl (Nat.eq_of_beq_eq_true hb)
  | false =>
    unfold ec_ptb at h
    rw [hb] at h
    have h1 := ec_an_t h
    have h2 := ec_an_t h1.2
    exact Or.inr ⟨Nat.le_of_ble_eq_true h1.1, Nat.le_of_ble_eq_true h2.1, ec_onb_t.mp h2.2⟩
theorem ec_bit_t {B m : Nat} (h : ec_bit B m = true) : B.testBit m = true := by
  have h1 : (B >>> m) % 2 = 1 := Nat.eq_of_beq_eq_true h
  rw [Nat.testBit_eq_decide_div_mod_eq, ← Nat.shiftRight_eq_div_pow]
  exact decide_eq_true h1
theorem ec_bm_t {T m : Nat} : ∀ n, (ec_bm T n).testBit m = true → ∃ k, k < n ∧ ec_lk T k = m := by
  intro n
  induction n with
  | zero => intro h; exact absurd h (by show ¬ Nat.testBit 0 m = true; rw [Nat.zero_testBit]; decide)
  | succ n ih =>
    intro h
    have h1 : (ec_bm T n ||| 1 <<< ec_lk T n).testBit m = true := h
    rw [Nat.testBit_or, Nat.one_shiftLeft, Nat.testBit_two_pow, Bool.or_eq_true] at h1
    rcases h1 with g | g
    · obtain ⟨k, hk, e⟩ := ih g
      exact ⟨k, by omega, e⟩
    · exact ⟨n, by omega, of_decide_eq_true g⟩
theorem ec_cov_t {p a b B : Nat} (h : ec_cov p a b B = true) {x y : Nat} (hx : x < p) (hy : y < p) (ho : ec_on p a b x y) : B.testBit (64 * x + y) = true := by
  have h1 := ec_all_t (ec_all_t h x hx) y hy
  rw [ec_onb_t.mpr ho] at h1
  exact ec_bit_t h1
theorem ec_sound {p a b n1 n2 T : Nat} (h : ec_chk p a b n1 n2 T = true) : ec_G p a b := by
  have h1 := ec_an_t h
  have h2 := ec_an_t h1.2
  have h3 := ec_an_t h2.2
  have h4 := ec_an_t h3.2
  have h5 := ec_an_t h4.2
  have p1 : 1 ≤ n1 := Nat.le_of_ble_eq_true h2.1
  have p2 : 1 ≤ n2 := Nat.le_of_ble_eq_true h3.1
  have e0 : ec_lk T 0 = 4095 := Nat.eq_of_beq_eq_true h1.1
  have hp : ∀ k, k < n1 * n2 → ec_pt p a b (ec_lk T k) := fun k hk => ec_ptb_t (ec_all_t h4.1 k hk)
  have hB := ec_use_t h5.1
  have ht : ∀ j i j' i', j < n2 → i < n1 → j' < n2 → i' < n1 → ec_ad p a (ec_lk T (n1 * j + i)) (ec_lk T (n1 * j' + i')) = ec_lk T (n1 * ((j + j') % n2) + (i + i') % n1) :=
    fun j i j' i' a1 a2 a3 a4 => Nat.eq_of_beq_eq_true (ec_all_t (ec_all_t (ec_all_t (ec_all_t h5.2 j a1) i a2) j' a3) i' a4)
  have hk : ∀ k, k < n1 * n2 → ∃ j i, j < n2 ∧ i < n1 ∧ n1 * j + i = k := by
    intro k hk
    refine ⟨k / n1, k % n1, Nat.div_lt_of_lt_mul hk, Nat.mod_lt _ p1, Nat.div_add_mod k n1⟩
  have hc : ∀ P, ec_pt p a b P → ∃ j i, j < n2 ∧ i < n1 ∧ ec_lk T (n1 * j + i) = P := by
    intro P hP
    rcases hP with e | ⟨a1, a2, a3⟩
    · exact ⟨0, 0, p2, p1, by rw [e]; exact e0⟩
    · obtain ⟨k, g1, g2⟩ := ec_bm_t _ (ec_cov_t hB a1 a2 a3)
      obtain ⟨j, i, b1, b2, b3⟩ := hk k g1
      refine ⟨j, i, b1, b2, ?_⟩
      rw [b3, g2]; exact Nat.div_add_mod P 64
  have hn : ∀ j i, j < n2 → i < n1 → n1 * j + i < n1 * n2 := by
    intro j i b1 b2
    have q : n1 * (j + 1) ≤ n1 * n2 := Nat.mul_le_mul_left n1 b1
    rw [Nat.mul_succ] at q
    omega
  refine ⟨?_, ?_⟩
  · intro P Q hP hQ
    obtain ⟨j, i, a1, a2, rfl⟩ := hc P hP
    obtain ⟨j', i', a3, a4, rfl⟩ := hc Q hQ
    rw [ht j i j' i' a1 a2 a3 a4]
    exact hp _ (hn _ _ (Nat.mod_lt _ p2) (Nat.mod_lt _ p1))
  · intro P Q R hP hQ hR
    obtain ⟨j, i, a1, a2, rfl⟩ := hc P hP
    obtain ⟨j', i', a3, a4, rfl⟩ := hc Q hQ
    obtain ⟨j'', i'', a5, a6, rfl⟩ := hc R hR
    rw [ht j i j' i' a1 a2 a3 a4, ht j' i' j'' i'' a3 a4 a5 a6, ht _ _ _ _ (Nat.mod_lt _ p2) (Nat.mod_lt _ p1) a5 a6, ht _ _ _ _ a1 a2 (Nat.mod_lt _ p2) (Nat.mod_lt _ p1)]
    rw [Nat.mod_add_mod, Nat.mod_add_mod, Nat.add_mod_mod, Nat.add_mod_mod, Nat.add_assoc, Nat.add_assoc]
theorem ec_run_t {p a b n1 n2 G1 G2 : Nat} (h : ec_run p a b n1 n2 G1 G2 = true) : ec_G p a b := ec_sound (ec_use_t h)
/-- a list of certificates, each packed into one number -/
noncomputable def ec_one (p c : Nat) : Bool := ec_run p (Nat.div c (2 ^ 44)) (Nat.mod (Nat.div c (2 ^ 38)) 64) (Nat.mod (Nat.div c (2 ^ 31)) 128) (Nat.mod (Nat.div c (2 ^ 24)) 128) (Nat.mod (Nat.div c (2 ^ 12)) 4096) (Nat.mod c 4096)
noncomputable def ec_lst (p : Nat) (l : List Nat) : Bool := List.rec (motive := fun _ => Bool) true (fun c _ ih => ec_an (ec_one p c) ih) l
def ec_GL (p : Nat) (l : List Nat) : Prop := ∀ c, c ∈ l → ec_G p (c / 2 ^ 44) (c / 2 ^ 38 % 64)
theorem ec_lst_t {p : Nat} {l : List Nat} : ec_lst p l = true → ec_GL p l := by
  induction l with
  | nil => intro _ c hc; exact absurd hc List.not_mem_nil
  | cons d l ih =>
    intro h c hc
    have e : ec_an (ec_one p d) (ec_lst p l) = true := h
    have e2 := ec_an_t e
    rcases List.mem_cons.mp hc with g | g
    · rw [g]; exact ec_run_t e2.1
    · exact ih e2.2 c g
theorem ec_GL_app {p : Nat} {l m : List Nat} (h : ec_GL p l) (g : ec_GL p m) : ec_GL p (l ++ m) := by
  intro c hc
  rcases List.mem_append.mp hc with q | q
  · exact h c q
  · exact g c q
/-- every curve that is not singular is (t^4 a, t^6 b) of one in the list -/
noncomputable def ec_tb (p a b n : Nat) : Nat := Nat.rec (motive := fun _ => Nat) 0 (fun k ih => Nat.lor ih (Nat.shiftLeft 1 (Nat.add (Nat.mul 64 (Nat.mod (Nat.mul (Nat.pow (Nat.succ k) 4) a) p)) (Nat.mod (Nat.mul (Nat.pow (Nat.succ k) 6) b) p)))) n
noncomputable def ec_lb (p : Nat) (l : List Nat) : Nat := List.rec (motive := fun _ => Nat) 0 (fun c _ ih => Nat.lor (ec_tb p (Nat.div c (2 ^ 44)) (Nat.mod (Nat.div c (2 ^ 38)) 64) (Nat.sub p 1)) ih) l
noncomputable def ec_rep (p : Nat) (l : List Nat) : Bool :=
  ec_use (ec_lb p l) (fun B => ec_all p (fun a => ec_all p (fun b =>
    Bool.rec (motive := fun _ => Bool) (ec_bit B (Nat.add (Nat.mul 64 a) b)) true (Nat.beq (Nat.mod (Nat.add (Nat.mul 4 (Nat.mul a (Nat.mul a a))) (Nat.mul 27 (Nat.mul b b))) p) 0))))
theorem ec_tb_t {p a b m : Nat} : ∀ n, (ec_tb p a b n).testBit m = true → ∃ t, 0 < t ∧ t < n + 1 ∧ 64 * (t ^ 4 * a % p) + t ^ 6 * b % p = m := by
  intro n
  induction n with
  | zero => intro h; exact absurd h (by show ¬ Nat.testBit 0 m = true; rw [Nat.zero_testBit]; decide)
  | succ n ih =>
    intro h
    have h1 : (ec_tb p a b n ||| 1 <<< (64 * ((n + 1) ^ 4 * a % p) + (n + 1) ^ 6 * b % p)).testBit m = true := h
    rw [Nat.testBit_or, Nat.one_shiftLeft, Nat.testBit_two_pow, Bool.or_eq_true] at h1
    rcases h1 with g | g
    · obtain ⟨k, h0, hk, e⟩ := ih g
      exact ⟨k, h0, by omega, e⟩
    · exact ⟨n + 1, by omega, by omega, of_decide_eq_true g⟩
theorem ec_lb_t {p m : Nat} (hp : 1 ≤ p) : ∀ l : List Nat, (ec_lb p l).testBit m = true → ∃ c t, c ∈ l ∧ 0 < t ∧ t < p ∧ 64 * (t ^ 4 * (c / 2 ^ 44) % p) + t ^ 6 * (c / 2 ^ 38 % 64) % p = m := by
  intro l
  induction l with
  | nil => intro h; exact absurd h (by show ¬ Nat.testBit 0 m = true; rw [Nat.zero_testBit]; decide)
  | cons d l ih =>
    intro h
    have h1 : (ec_tb p (d / 2 ^ 44) (d / 2 ^ 38 % 64) (p - 1) ||| ec_lb p l).testBit m = true := h
    rw [Nat.testBit_or, Bool.or_eq_true] at h1
    rcases h1 with g | g
    · obtain ⟨t, h0, ht, e⟩ := ec_tb_t _ g
      exact ⟨d, t, List.mem_cons_self, h0, by omega, e⟩
    · obtain ⟨c, t, hc, q⟩ := ih g
      exact ⟨c, t, List.mem_cons_of_mem _ hc, q⟩
theorem ec_rep_t {p : Nat} {l : List Nat} (hp : 1 ≤ p) (hp2 : p ≤ 64) (h : ec_rep p l = true) {a b : Nat} (ha : a < p) (hb : b < p) (hn : (4 * (a * (a * a)) + 27 * (b * b)) % p ≠ 0) :
    ∃ c t, c ∈ l ∧ 0 < t ∧ t < p ∧ t ^ 4 * (c / 2 ^ 44) % p = a ∧ t ^ 6 * (c / 2 ^ 38 % 64) % p = b := by
  have h0 := ec_use_t h
  have h1 := ec_all_t (ec_all_t h0 a ha) b hb
  have hf : Nat.beq (Nat.mod (Nat.add (Nat.mul 4 (Nat.mul a (Nat.mul a a))) (Nat.mul 27 (Nat.mul b b))) p) 0 = false := by
    cases q : Nat.beq (Nat.mod (Nat.add (Nat.mul 4 (Nat.mul a (Nat.mul a a))) (Nat.mul 27 (Nat.mul b b))) p) 0 with
    | false => rfl
    | true => exact absurd (Nat.eq_of_beq_eq_true q) hn
  rw [hf] at h1
  obtain ⟨c, t, hc, h0, ht, e⟩ := ec_lb_t hp l (ec_bit_t h1)
  have e' : 64 * (t ^ 4 * (c / 2 ^ 44) % p) + t ^ 6 * (c / 2 ^ 38 % 64) % p = 64 * a + b := e
  have q1 : t ^ 6 * (c / 2 ^ 38 % 64) % p < p := Nat.mod_lt _ hp
  have q2 : t ^ 4 * (c / 2 ^ 44) % p < p := Nat.mod_lt _ hp
  exact ⟨c, t, hc, h0, ht, by omega, by omega⟩
end
section
/-! certificates: for each kind of curves under (t^4 a, t^6 b) one curve, with a pair of generators -/
def ec_l5_0 : List Nat := [287780122623, 562658549759, 17596514566272, 17886408089599, 18150548844543, 35188683837439, 35474299166719, 52798050283519, 53337068412927, 70377368195136, 70660818739199, 70924960014335]
theorem ec_k5_0 : ec_GL 5 ec_l5_0 := ec_lst_t (by decide +kernel)
def ec_R5 : List Nat := ec_l5_0
theorem ec_K5 : ec_GL 5 ec_R5 := ec_k5_0
theorem ec_C5 : ec_rep 5 ec_R5 = true := by decide +kernel
def ec_l7_0 : List Nat := [287796638016, 556248608961, 852568059903, 1105970868223, 1389439496191, 1653596225664, 17609383493631, 17877818155007, 18429722501119, 18713189298175, 19265092853759, 52785181892608, 53077223153663, 53345658093567, 53614094598143, 53897561911295, 54165997109247, 54434433875967]
theorem ec_k7_0 : ec_GL 7 ec_l7_0 := ec_lst_t (by decide +kernel)
def ec_R7 : List Nat := ec_l7_0
theorem ec_K7 : ec_GL 7 ec_R7 := ec_k7_0
theorem ec_C7 : ec_rep 7 ec_R7 = true := by decide +kernel
def ec_l11_0 : List Nat := [300666347519, 575542681599, 17617974476799, 17897145786367, 18159155810624, 18455492567039, 18711041814527, 18990214696959, 19269388095487, 19548561223679, 19804111785983, 20074710708288, 20362457784319, 35197291073728, 35493626519551, 35753472315391, 36320407728127, 36580253257727, 36863722135551, 37123568185343, 37690502299647, 37950348873727]
theorem ec_k11_0 : ec_GL 11 ec_l11_0 := ec_lst_t (by decide +kernel)
def ec_R11 : List Nat := ec_l11_0
theorem ec_K11 : ec_GL 11 ec_R11 := ec_k11_0
theorem ec_C11 : ec_rep 11 ec_R11 = true := by decide +kernel
def ec_l13_0 : List Nat := [287796900096, 590575063039, 831126519874, 1144626110463, 1383047635398, 1664317136895, 17613694984192, 17905735716863, 18167730032639, 18721779752959, 18985920511999, 19269388095487, 35205864251391, 35476446650367, 35766357737471, 36047678369791, 36320407728127, 36584548741119, 36850853228800, 70377368207552, 70684441059327, 71227754434559, 71500484849663, 71764625616895, 72048093708287, 123158238081219, 123454557011967, 123716550029311, 123997870116863, 124257732403392, 124562659090431, 124818209120255]
theorem ec_k13_0 : ec_GL 13 ec_l13_0 := ec_lst_t (by decide +kernel)
def ec_R13 : List Nat := ec_l13_0
theorem ec_K13 : ec_GL 13 ec_R13 := ec_k13_0
theorem ec_C13 : ec_rep 13 ec_R13 = true := by decide +kernel
def ec_l17_0 : List Nat := [313550999551, 863306027007, 17600843374792, 17905735442431, 18193499590655, 18453344325631, 18721779232767, 18998805168127, 19284420481023, 19529250124224, 19844913192959, 35205881282560, 35485053358272, 35774946897919, 36056267784191, 36318260776959, 36597434429439, 36857278906367, 37134306140159, 37428509302783, 52832410300415, 53083665629183, 53360690491391, 53626982113279, 53897578160512, 54200356847615, 54470941110271, 54730785832959, 105574609219583, 105875255877631, 106154428493823, 106394965533056, 106684857745407, 106972620283903, 107520229392383]
theorem ec_k17_0 : ec_GL 17 ec_l17_0 := ec_lst_t (by decide +kernel)
def ec_l17_1 : List Nat := [107780073611263]
theorem ec_k17_1 : ec_GL 17 ec_l17_1 := ec_lst_t (by decide +kernel)
def ec_R17 : List Nat := ec_l17_0 ++ (ec_l17_1)
theorem ec_K17 : ec_GL 17 ec_R17 := ec_GL_app ec_k17_0 (ec_k17_1)
theorem ec_C17 : ec_rep 17 ec_R17 = true := by decide +kernel
def ec_l19_0 : List Nat := [287796900352, 577690943487, 1144626642943, 1393767502338, 2229121855808, 2789598330879, 17635153313791, 17912177893375, 18167732150271, 18732516651007, 18998804652031, 19280124993535, 19555002912767, 19817014005952, 20121938853887, 20371048247295, 20633058054592, 20937983143935, 21212860788735, 21494180892671, 21760469131263, 22325256810495, 22580807606271, 35205882859520, 35517249900543, 35785685094399, 36051972546559, 36309687083264]
theorem ec_k19_0 : ec_GL 19 ec_l19_0 := ec_lst_t (by decide +kernel)
def ec_l19_1 : List Nat := [36614613528575, 36868016324607, 37155780182015, 37415624671231, 37707682168831, 37969675984895, 38261732966399, 38495844847753, 38809341812735, 39062745665535, 39324755194560, 39625385070591, 39891673051135, 40160109035519]
theorem ec_k19_1 : ec_GL 19 ec_l19_1 := ec_lst_t (by decide +kernel)
def ec_R19 : List Nat := ec_l19_0 ++ (ec_l19_1)
theorem ec_K19 : ec_GL 19 ec_R19 := ec_GL_app ec_k19_0 (ec_k19_1)
theorem ec_C19 : ec_rep 19 ec_R19 = true := by decide +kernel
def ec_l23_0 : List Nat := [326437728255, 1425946230783, 17643745357823, 17927210278911, 18167745778304, 18474818633727, 18753991487487, 19013837823999, 19286567469055, 19555004751871, 19821307666752, 20109053673471, 20409702703103, 20686727049215, 20922951282687, 21199975378943, 21500623593471, 21736863584960, 22054674141183, 22323109834751]
theorem ec_k23_0 : ec_GL 23 ec_l23_0 := ec_lst_t (by decide +kernel)
def ec_l23_1 : List Nat := [22595840532479, 22855685816319, 23134858915839, 23390427045952, 23682466717695, 87986735169536, 88302396907519, 88555799994367, 88834972876799, 89103410409471, 89373994676223, 89923747602431, 90194346811648, 90488535269375, 90765561479167, 91023259762687, 91323906433023, 91581605232639, 91858630361087, 92101313569600, 92423419113471, 92973177020415]
theorem ec_k23_1 : ec_GL 23 ec_l23_1 := ec_lst_t (by decide +kernel)
def ec_l23_2 : List Nat := [93243758657535, 93512193036287, 93791365378047, 94044768997375]
theorem ec_k23_2 : ec_GL 23 ec_l23_2 := ec_lst_t (by decide +kernel)
def ec_R23 : List Nat := ec_l23_0 ++ (ec_l23_1 ++ (ec_l23_2))
theorem ec_K23 : ec_GL 23 ec_R23 := ec_GL_app ec_k23_0 (ec_GL_app ec_k23_1 (ec_k23_2))
theorem ec_C23 : ec_rep 23 ec_R23 = true := by decide +kernel
def ec_l29_0 : List Nat := [339321053183, 614200037375, 17613695225856, 17944392290303, 18167747060224, 18494146265087, 18762581422079, 19031020060671, 19323075186687, 19591510376447, 19842766487551, 20136970960895, 20371064516992]
theorem ec_k29_0 : ec_GL 29 ec_l29_0 := ec_lst_t (by decide +kernel)
def ec_l29_1 : List Nat := [20678137131007, 20940130414591, 21212860817407, 21513509326847, 35240224239615, 35530133741567, 35779242147839, 36086332297215, 36623205851135, 36902375821311, 37151485743103, 37445689704447, 37718420402175, 37971841532224, 38283208335359]
theorem ec_k29_1 : ec_GL 29 ec_l29_1 := ec_lst_t (by decide +kernel)
def ec_l29_2 : List Nat := [38513005876288, 38841553563647, 39088515239935, 70411729559872, 70710210863103, 70972204150783, 71251377807359, 71524107169791, 71794691985407, 72095338909695, 72310136529927, 72619324874751, 72922119028735]
theorem ec_k29_2 : ec_GL 29 ec_l29_2 := ec_lst_t (by decide +kernel)
def ec_l29_3 : List Nat := [73164786511871, 73456842723327, 73748901064703, 73980845269120, 74275034787839, 140810520158207, 141066070138879, 141373161136127, 141910031216639, 142163435610111, 142453344604159, 142687437087168, 142994512289791]
theorem ec_k29_3 : ec_GL 29 ec_l29_3 := ec_lst_t (by decide +kernel)
def ec_l29_4 : List Nat := [143245783344704, 143546415063039, 143825586913279, 144081138008063, 144394669830143, 144654515609599]
theorem ec_k29_4 : ec_GL 29 ec_l29_4 := ec_lst_t (by decide +kernel)
def ec_R29 : List Nat := ec_l29_0 ++ (ec_l29_1 ++ (ec_l29_2 ++ (ec_l29_3 ++ (ec_l29_4))))
theorem ec_K29 : ec_GL 29 ec_R29 := ec_GL_app ec_k29_0 (ec_GL_app ec_k29_1 (ec_GL_app ec_k29_2 (ec_GL_app ec_k29_3 (ec_k29_4))))
theorem ec_C29 : ec_rep 29 ec_R29 = true := by decide +kernel
def ec_l31_0 : List Nat := [287863767171, 916992569343, 1458158968831, 1969259610111, 3034478842058, 4153267208768, 17660923899903, 18193499619327, 18504883662847, 18747549036543, 19026721927167, 19275847103040]
theorem ec_k31_0 : ec_GL 31 ec_l31_0 := ec_lst_t (by decide +kernel)
def ec_l31_1 : List Nat := [19593657860095, 19866388070399, 20104775480576, 20431177273343, 20641664746316, 20948720082943, 21238631407615, 21524245663743, 21786238935039, 22056821346303]
theorem ec_k31_1 : ec_GL 31 ec_l31_1 := ec_lst_t (by decide +kernel)
def ec_l31_2 : List Nat := [22318814633983, 22604433895423, 22894339989503, 23149892100095, 23411885662207, 23669598851776, 23976671993855, 24249404002303, 24498527031552, 24816338870271, 25095511773183, 25338176389119, 25649562529791]
theorem ec_k31_2 : ec_GL 31 ec_l31_2 := ec_lst_t (by decide +kernel)
def ec_l31_3 : List Nat := [52810951696384, 53135204970495, 53401492688895, 53652749090815, 53919054066560, 54232568852479, 54496709636095, 54747967827967, 55040022740991, 55319196393471, 55589778550783, 55879689330687]
theorem ec_k31_3 : ec_GL 31 ec_l31_3 := ec_lst_t (by decide +kernel)
def ec_l31_4 : List Nat := [56139537731583, 56407970578431, 56667832628928, 56959873896447, 57251931148287, 57475287253120, 57803834163199, 58072269627391, 58293494005957, 58622025687039, 58892609417215, 59171782590463]
theorem ec_k31_4 : ec_GL 31 ec_l31_4 := ec_lst_t (by decide +kernel)
def ec_l31_5 : List Nat := [59463839301631, 59715094601727, 59979235606527, 60224065769536, 60559055699967, 60810311536639, 61076600008703]
theorem ec_k31_5 : ec_GL 31 ec_l31_5 := ec_lst_t (by decide +kernel)
def ec_R31 : List Nat := ec_l31_0 ++ (ec_l31_1 ++ (ec_l31_2 ++ (ec_l31_3 ++ (ec_l31_4 ++ (ec_l31_5)))))
theorem ec_K31 : ec_GL 31 ec_R31 := ec_GL_app ec_k31_0 (ec_GL_app ec_k31_1 (ec_GL_app ec_k31_2 (ec_GL_app ec_k31_3 (ec_GL_app ec_k31_4 (ec_k31_5)))))
theorem ec_C31 : ec_rep 31 ec_R31 = true := by decide +kernel
def ec_l37_0 : List Nat := [300715680649, 654999617535, 908402634751, 1453864808447, 1679366066560, 2493279658059, 17605172179659, 17970161524735]
theorem ec_k37_0 : ec_GL 37 ec_l37_0 := ec_lst_t (by decide +kernel)
def ec_l37_1 : List Nat := [18184926184000, 18500588470271, 18751844003839, 19048197038079, 19327370153983, 19610837729279, 19866388316159, 20156298313727, 20388243354432]
theorem ec_k37_1 : ec_GL 37 ec_l37_1 := ec_lst_t (by decide +kernel)
def ec_l37_2 : List Nat := [20714644844543, 20953014763519, 21236484993023, 21526395510783, 21773354033151, 22078296182783, 22613020438527, 35291763605503, 35536577261567]
theorem ec_k37_2 : ec_GL 37 ec_l37_2 := ec_lst_t (by decide +kernel)
def ec_l37_3 : List Nat := [35798571565055, 36051989099392, 36374095110143, 36633941123071, 36928147496959, 37181551357951, 37449984438271, 37750631841791, 38019068661759]
theorem ec_k37_3 : ec_GL 37 ec_l37_3 := ec_lst_t (by decide +kernel)
def ec_l37_4 : List Nat := [38272470413311, 38581708029951, 38805063352768, 39064925937867, 39393457663999, 39612517524160, 39941066993663, 40198763503615, 52819542963200]
theorem ec_k37_4 : ec_GL 37 ec_l37_4 := ec_lst_t (by decide +kernel)
def ec_l37_5 : List Nat := [53077257556746, 53399345713151, 53682813075455, 53966282215423, 54254046076927, 54460223599040, 54793062096895, 55035730657279, 55355703881727]
theorem ec_k37_5 : ec_GL 37 ec_l37_5 := ec_lst_t (by decide +kernel)
def ec_l37_6 : List Nat := [55613400858623, 55877542133759, 56429445156863, 56689291186175, 57000676597759, 57213292922240, 57524662063103, 57793098072063, 88016783740927, 88332461678591]
theorem ec_k37_6 : ec_GL 37 ec_l37_6 := ec_lst_t (by decide +kernel)
def ec_l37_7 : List Nat := [88562260022464, 88802810982467, 89148505468927, 89374008337408, 89708998983679, 89981729153023, 90237281521663, 90533632425983]
theorem ec_k37_7 : ec_GL 37 ec_l37_7 := ec_lst_t (by decide +kernel)
def ec_l37_8 : List Nat := [90778445828095, 91051176030207, 91336791891967, 91624556249087, 91895138373631, 92154982883327, 92438450425855, 92698297012223, 92981764894719]
theorem ec_k37_8 : ec_GL 37 ec_l37_8 := ec_lst_t (by decide +kernel)
def ec_R37 : List Nat := ec_l37_0 ++ (ec_l37_1 ++ (ec_l37_2 ++ (ec_l37_3 ++ (ec_l37_4 ++ (ec_l37_5 ++ (ec_l37_6 ++ (ec_l37_7 ++ (ec_l37_8))))))))
theorem ec_K37 : ec_GL 37 ec_R37 := ec_GL_app ec_k37_0 (ec_GL_app ec_k37_1 (ec_GL_app ec_k37_2 (ec_GL_app ec_k37_3 (ec_GL_app ec_k37_4 (ec_GL_app ec_k37_5 (ec_GL_app ec_k37_6 (ec_GL_app ec_k37_7 (ec_k37_8))))))))
theorem ec_C37 : ec_rep 37 ec_R37 = true := by decide +kernel
end
section
/-! certificates: for each kind of curves under (t^4 a, t^6 b) one curve, with a pair of generators -/
def ec_l41_0 : List Nat := [365091946495, 914846945279, 17609436209296, 17942243528703, 18227859308543, 18500589273087, 18760433938431, 19067524145151]
theorem ec_k41_0 : ec_GL 41 ec_l41_0 := ec_lst_t (by decide +kernel)
def ec_l41_1 : List Nat := [19338107322367, 19597952827391, 19900747775999, 20175626485759, 20392538342912, 20658828390592]
theorem ec_k41_1 : ec_GL 41 ec_l41_1 := ec_lst_t (by decide +kernel)
def ec_l41_2 : List Nat := [20993817714687, 21204287652800, 21534983081983, 21805567651839, 22071854018559, 22329556479999, 22643084689407, 22900782714879]
theorem ec_k41_2 : ec_GL 41 ec_l41_2 := ec_lst_t (by decide +kernel)
def ec_l41_3 : List Nat := [23203577659391, 35240241082368, 35543018643455, 35811454164991, 36086336278527, 36399865155583]
theorem ec_k41_3 : ec_GL 41 ec_l41_3 := ec_lst_t (by decide +kernel)
def ec_l41_4 : List Nat := [36606040109696, 36913113481215, 37213761245183, 37482196402175, 37709846988160, 38027659894783]
theorem ec_k41_4 : ec_GL 41 ec_l41_4 := ec_lst_t (by decide +kernel)
def ec_l41_5 : List Nat := [38306831437823, 38521596350912, 38869471088639, 39127169904639, 39378424737791, 39668335542271, 39923885604863, 40222385549311]
theorem ec_k41_5 : ec_GL 41 ec_l41_5 := ec_lst_t (by decide +kernel)
def ec_l41_6 : List Nat := [40477936668671, 40778583834623, 52849590169599, 53154532351999, 53416525111295, 53627030139083, 53983461289983]
theorem ec_k41_6 : ec_GL 41 ec_l41_6 := ec_lst_t (by decide +kernel)
def ec_l41_7 : List Nat := [54198225916096, 54511742029823, 54801652568063, 55063645028351, 55334228496383, 55596221784063, 55864658010111, 56148129259519]
theorem ec_k41_7 : ec_GL 41 ec_l41_7 := ec_lst_t (by decide +kernel)
def ec_l41_8 : List Nat := [56461658431487, 56715060228095, 57004971278335, 57254078337023, 57483876156672, 58102334656511, 58370771419135]
theorem ec_k41_8 : ec_GL 41 ec_l41_8 := ec_lst_t (by decide +kernel)
def ec_l41_9 : List Nat := [105574675784014, 105922500239359, 106210264121343, 106708496033792, 107043487498239]
theorem ec_k41_9 : ec_GL 41 ec_l41_9 := ec_lst_t (by decide +kernel)
def ec_l41_10 : List Nat := [107245369361024, 107554589163519, 107831613227007, 108095755808767, 108379224158207, 108677722058751, 108961190399999, 109199560884223]
theorem ec_k41_10 : ec_GL 41 ec_l41_10 := ec_lst_t (by decide +kernel)
def ec_l41_11 : List Nat := [109491619422207, 109768644546559, 110041373888511, 110309810163711, 110576097341439, 110872450613247, 111089362727872]
theorem ec_k41_11 : ec_GL 41 ec_l41_11 := ec_lst_t (by decide +kernel)
def ec_R41 : List Nat := ec_l41_0 ++ (ec_l41_1 ++ (ec_l41_2 ++ (ec_l41_3 ++ (ec_l41_4 ++ (ec_l41_5 ++ (ec_l41_6 ++ (ec_l41_7 ++ (ec_l41_8 ++ (ec_l41_9 ++ (ec_l41_10 ++ (ec_l41_11)))))))))))
theorem ec_K41 : ec_GL 41 ec_R41 := ec_GL_app ec_k41_0 (ec_GL_app ec_k41_1 (ec_GL_app ec_k41_2 (ec_GL_app ec_k41_3 (ec_GL_app ec_k41_4 (ec_GL_app ec_k41_5 (ec_GL_app ec_k41_6 (ec_GL_app ec_k41_7 (ec_GL_app ec_k41_8 (ec_GL_app ec_k41_9 (ec_GL_app ec_k41_10 (ec_k41_11)))))))))))
theorem ec_C41 : ec_rep 41 ec_R41 = true := by decide +kernel
def ec_l43_0 : List Nat := [287864009606, 605624529472, 839783817365, 1733036650495, 1990734696447, 2596324835327]
theorem ec_k43_0 : ec_GL 43 ec_l43_0 := ec_lst_t (by decide +kernel)
def ec_l43_1 : List Nat := [17686692691967, 17940095180799, 18193516606656, 18517768884223, 18803386245119, 19046049828863, 19280141776704]
theorem ec_k43_1 : ec_GL 43 ec_l43_1 := ec_lst_t (by decide +kernel)
def ec_l43_2 : List Nat := [19567904831616, 19909338505215, 20147708715007, 20444061949951, 20712496652287, 20965902553087]
theorem ec_k43_2 : ec_GL 43 ec_l43_2 := ec_lst_t (by decide +kernel)
def ec_l43_3 : List Nat := [21264400461823, 21532835360767, 21754059735819, 22093328568319, 22376798023679, 22643086745599]
theorem ec_k43_3 : ec_GL 43 ec_l43_3 := ec_lst_t (by decide +kernel)
def ec_l43_4 : List Nat := [22924405018623, 23171367497727, 24021769150463, 24268729544703, 24550053584895, 24816342073343, 25099806486527]
theorem ec_k43_4 : ec_GL 43 ec_l43_4 := ec_lst_t (by decide +kernel)
def ec_l43_5 : List Nat := [25361799225343, 25660299223039, 25928734924799, 26227234643967, 26480638734335, 26749073407999, 27045426130943]
theorem ec_k43_5 : ec_GL 43 ec_l43_5 := ec_lst_t (by decide +kernel)
def ec_l43_6 : List Nat := [27283797864447, 27530774782528, 27818537574848, 28147084992511, 28389751160831, 28675365986303, 28905163522112]
theorem ec_k43_6 : ec_GL 43 ec_l43_6 := ec_lst_t (by decide +kernel)
def ec_l43_7 : List Nat := [29253039300607, 35231651623936, 35579527475199, 35759948603914, 36107807129599, 36389127204863]
theorem ec_k43_7 : ec_GL 43 ec_l43_7 := ec_lst_t (by decide +kernel)
def ec_l43_8 : List Nat := [36655417343999, 36906670784511, 37183697539071, 37482197225471, 37754927353855, 38031953514495, 38319715299327]
theorem ec_k43_8 : ec_GL 43 ec_l43_8 := ec_lst_t (by decide +kernel)
def ec_l43_9 : List Nat := [38534480446080, 38809358123840, 39114283986943, 39402048098303, 39664040574975, 39943212711935, 40224533286911]
theorem ec_k43_9 : ec_GL 43 ec_l43_9 := ec_lst_t (by decide +kernel)
def ec_l43_10 : List Nat := [40477936656383, 40716323857984, 41062051934207, 41315454967807, 41566727119744, 41899570294783]
theorem ec_k43_10 : ec_GL 43 ec_l43_10 := ec_lst_t (by decide +kernel)
def ec_l43_11 : List Nat := [42088582369484, 42434294226943, 42713467404287, 42975460634623, 43263224516607, 43473693860224]
theorem ec_k43_11 : ec_GL 43 ec_l43_11 := ec_lst_t (by decide +kernel)
def ec_l43_12 : List Nat := [43748571558016, 44057795289087, 44345556500479, 44622580346879, 44895310225407, 45193810178047, 45470836666367]
theorem ec_k43_12 : ec_GL 43 ec_l43_12 := ec_lst_t (by decide +kernel)
def ec_l43_13 : List Nat := [45722091167743, 45988380950527, 46269701095423, 46566052270079, 46797981048831]
theorem ec_k43_13 : ec_GL 43 ec_l43_13 := ec_lst_t (by decide +kernel)
def ec_R43 : List Nat := ec_l43_0 ++ (ec_l43_1 ++ (ec_l43_2 ++ (ec_l43_3 ++ (ec_l43_4 ++ (ec_l43_5 ++ (ec_l43_6 ++ (ec_l43_7 ++ (ec_l43_8 ++ (ec_l43_9 ++ (ec_l43_10 ++ (ec_l43_11 ++ (ec_l43_12 ++ (ec_l43_13)))))))))))))
theorem ec_K43 : ec_GL 43 ec_R43 := ec_GL_app ec_k43_0 (ec_GL_app ec_k43_1 (ec_GL_app ec_k43_2 (ec_GL_app ec_k43_3 (ec_GL_app ec_k43_4 (ec_GL_app ec_k43_5 (ec_GL_app ec_k43_6 (ec_GL_app ec_k43_7 (ec_GL_app ec_k43_8 (ec_GL_app ec_k43_9 (ec_GL_app ec_k43_10 (ec_GL_app ec_k43_11 (ec_GL_app ec_k43_12 (ec_k43_13)))))))))))))
theorem ec_C43 : ec_rep 43 ec_R43 = true := by decide +kernel
def ec_l47_0 : List Nat := [377975037951, 1477485834239, 17695285452799, 17931522328128, 18262220918783]
theorem ec_k47_0 : ec_GL 47 ec_l47_0 := ec_lst_t (by decide +kernel)
def ec_l47_1 : List Nat := [18532802580479, 18818415996927, 19056787005439, 19353139458047, 19625869910015]
theorem ec_k47_1 : ec_GL 47 ec_l47_1 := ec_lst_t (by decide +kernel)
def ec_l47_2 : List Nat := [19896452837375, 20141265928191, 20439769051135, 20740414443519, 20978784632831, 21272991137791]
theorem ec_k47_2 : ec_GL 47 ec_l47_2 := ec_lst_t (by decide +kernel)
def ec_l47_3 : List Nat := [21517803024383, 21818451189759, 22076148699135, 22316684193984, 22636642492415, 22924405538815]
theorem ec_k47_3 : ec_GL 47 ec_l47_3 := ec_lst_t (by decide +kernel)
def ec_l47_4 : List Nat := [23177808629759, 23407606440640, 23729711693823, 23965951895488, 24240829829760, 24580114636799]
theorem ec_k47_4 : ec_GL 47 ec_l47_4 := ec_lst_t (by decide +kernel)
def ec_l47_5 : List Nat := [24799175037184, 25132017958911, 25385421037567, 25673184673791, 25890098021824]
theorem ec_k47_5 : ec_GL 47 ec_l47_5 := ec_lst_t (by decide +kernel)
def ec_l47_6 : List Nat := [26233677901823, 26491375362047, 26792025407487, 27036837015551, 27331041492991]
theorem ec_k47_6 : ec_GL 47 ec_l47_6 := ec_lst_t (by decide +kernel)
def ec_l47_7 : List Nat := [27569411878911, 27870059626495, 28168560320511, 28413373480959, 28683956441087, 28956687159295]
theorem ec_k47_7 : ec_GL 47 ec_l47_7 := ec_lst_t (by decide +kernel)
def ec_l47_8 : List Nat := [29253039841279, 29491410284543, 29777026179071, 30047609634815, 30275260150528, 88012503687168, 88358231482367]
theorem ec_k47_8 : ec_GL 47 ec_l47_8 := ec_lst_t (by decide +kernel)
def ec_l47_9 : List Nat := [88570849453248, 88890807697407, 89144212369407, 89670360802176, 89979582177279]
theorem ec_k47_9 : ec_GL 47 ec_l47_9 := ec_lst_t (by decide +kernel)
def ec_l47_10 : List Nat := [90273786949631, 90550812295167, 90804215631871, 91091981602815, 91388330999807]
theorem ec_k47_10 : ec_GL 47 ec_l47_10 := ec_lst_t (by decide +kernel)
def ec_l47_11 : List Nat := [91620261240831, 91927349903359, 92174311788543, 92414844880576, 92717624164351, 93037600485375]
theorem ec_k47_11 : ec_GL 47 ec_l47_11 := ec_lst_t (by decide +kernel)
def ec_l47_12 : List Nat := [93308182347775, 93555144060927, 93830019878911, 94115635453951, 94399106985983]
theorem ec_k47_12 : ec_GL 47 ec_l47_12 := ec_lst_t (by decide +kernel)
def ec_l47_13 : List Nat := [94648211681279, 94931678945279, 95217294589951, 95492173492223, 95739133075455, 96009721294847, 96329691308031]
theorem ec_k47_13 : ec_GL 47 ec_l47_13 := ec_lst_t (by decide +kernel)
def ec_l47_14 : List Nat := [96529423856704, 96873004716031, 97119965294591, 97427054960639, 97658986364927, 97955335925759]
theorem ec_k47_14 : ec_GL 47 ec_l47_14 := ec_lst_t (by decide +kernel)
def ec_l47_15 : List Nat := [98243101163519, 98496502317055, 98773527994367, 99067734011903, 99273910550592, 99903103860735]
theorem ec_k47_15 : ec_GL 47 ec_l47_15 := ec_lst_t (by decide +kernel)
def ec_l47_16 : List Nat := [100156506951679, 100373420642752, 100689084424191]
theorem ec_k47_16 : ec_GL 47 ec_l47_16 := ec_lst_t (by decide +kernel)
def ec_R47 : List Nat := ec_l47_0 ++ (ec_l47_1 ++ (ec_l47_2 ++ (ec_l47_3 ++ (ec_l47_4 ++ (ec_l47_5 ++ (ec_l47_6 ++ (ec_l47_7 ++ (ec_l47_8 ++ (ec_l47_9 ++ (ec_l47_10 ++ (ec_l47_11 ++ (ec_l47_12 ++ (ec_l47_13 ++ (ec_l47_14 ++ (ec_l47_15 ++ (ec_l47_16))))))))))))))))
theorem ec_K47 : ec_GL 47 ec_R47 := ec_GL_app ec_k47_0 (ec_GL_app ec_k47_1 (ec_GL_app ec_k47_2 (ec_GL_app ec_k47_3 (ec_GL_app ec_k47_4 (ec_GL_app ec_k47_5 (ec_GL_app ec_k47_6 (ec_GL_app ec_k47_7 (ec_GL_app ec_k47_8 (ec_GL_app ec_k47_9 (ec_GL_app ec_k47_10 (ec_GL_app ec_k47_11 (ec_GL_app ec_k47_12 (ec_GL_app ec_k47_13 (ec_GL_app ec_k47_14 (ec_GL_app ec_k47_15 (ec_k47_16))))))))))))))))
theorem ec_C47 : ec_rep 47 ec_R47 = true := by decide +kernel
end
section
/-! certificates: for each kind of curves under (t^4 a, t^6 b) one curve, with a pair of generators -/
def ec_l53_0 : List Nat := [390861778943, 665737289727, 17665234620416, 17991635341311]
theorem ec_k53_0 : ec_GL 53 ec_l53_0 := ec_lst_t (by decide +kernel)
def ec_l53_1 : List Nat := [18167782015042, 18519917957119, 18807680430079, 19076114595839, 19378909294591]
theorem ec_k53_1 : ec_GL 53 ec_l53_1 := ec_lst_t (by decide +kernel)
def ec_l53_2 : List Nat := [19645197283327, 19922222899199, 20194954125311, 20392538329600]
theorem ec_k53_2 : ec_GL 53 ec_l53_2 := ec_lst_t (by decide +kernel)
def ec_l53_3 : List Nat := [20751153184767, 20976638955519, 21300907393023, 21562900942847]
theorem ec_k53_3 : ec_GL 53 ec_l53_3 := ec_lst_t (by decide +kernel)
def ec_l53_4 : List Nat := [21771223127872, 22114804805631, 22316684453824, 22632347508735, 22932995473407]
theorem ec_k53_4 : ec_GL 53 ec_l53_4 := ec_lst_t (by decide +kernel)
def ec_l53_5 : List Nat := [23179957653503, 23484899028991, 23746892066815, 24034654052351, 24279466975231]
theorem ec_k53_5 : ec_GL 53 ec_l53_5 := ec_lst_t (by decide +kernel)
def ec_l53_6 : List Nat := [24582262120447, 24878616440831, 35291764445183, 35585968316415]
theorem ec_k53_6 : ec_GL 53 ec_l53_6 := ec_lst_t (by decide +kernel)
def ec_l53_7 : List Nat := [35832931598335, 36077759411008, 36419192319999, 36648975130623, 36936736595967]
theorem ec_k53_7 : ec_GL 53 ec_l53_7 := ec_lst_t (by decide +kernel)
def ec_l53_8 : List Nat := [37220203458559, 37492934086655, 37780696612863, 38059869528063]
theorem ec_k53_8 : ec_GL 53 ec_l53_8 := ec_lst_t (by decide +kernel)
def ec_l53_9 : List Nat := [38304682643455, 38624657981439, 38822243490176, 39092827272576]
theorem ec_k53_9 : ec_GL 53 ec_l53_9 := ec_lst_t (by decide +kernel)
def ec_l53_10 : List Nat := [39423521636351, 39629696812288, 39953950138367, 40230976548863, 40514444382207, 40793617498111]
theorem ec_k53_10 : ec_GL 53 ec_l53_10 := ec_lst_t (by decide +kernel)
def ec_l53_11 : List Nat := [41059904921599, 41375584509951, 41635432394751, 41918897659903]
theorem ec_k53_11 : ec_GL 53 ec_l53_11 := ec_lst_t (by decide +kernel)
def ec_l53_12 : List Nat := [42449326395391, 70411731141056, 70785374203903, 71015153889279, 71296474783743]
theorem ec_k53_12 : ec_GL 53 ec_l53_12 := ec_lst_t (by decide +kernel)
def ec_l53_13 : List Nat := [71560614391807, 71837640089599, 72127550140415, 72406723031039, 72675158720511, 72954331283455]
theorem ec_k53_13 : ec_GL 53 ec_l53_13 := ec_lst_t (by decide +kernel)
def ec_l53_14 : List Nat := [73263569223679, 73493349699583, 73781112823807, 74064580378623]
theorem ec_k53_14 : ec_GL 53 ec_l53_14 := ec_lst_t (by decide +kernel)
def ec_l53_15 : List Nat := [74277200634048, 74631516045311, 74831248770944, 75166239514623]
theorem ec_k53_15 : ec_GL 53 ec_l53_15 := ec_lst_t (by decide +kernel)
def ec_l53_16 : List Nat := [75413201367039, 75694522019839, 76008053567487, 76257161703423, 76523450171391]
theorem ec_k53_16 : ec_GL 53 ec_l53_16 := ec_lst_t (by decide +kernel)
def ec_l53_17 : List Nat := [76755394401664, 77094680088575, 77352378601471, 77580028449024]
theorem ec_k53_17 : ec_GL 53 ec_l53_17 := ec_lst_t (by decide +kernel)
def ec_l53_18 : List Nat := [88085501943807, 88368968900607, 88645995139071, 88890807697407]
theorem ec_k53_18 : ec_GL 53 ec_l53_18 := ec_lst_t (by decide +kernel)
def ec_l53_19 : List Nat := [89185012690943, 89369747678157, 89743359025151, 90005351759871]
theorem ec_k53_19 : ec_GL 53 ec_l53_19 := ec_lst_t (by decide +kernel)
def ec_l53_20 : List Nat := [90275936255999, 90482109591872, 90838575652863, 91040455361536, 91356119441407]
theorem ec_k53_20 : ec_GL 53 ec_l53_20 := ec_lst_t (by decide +kernel)
def ec_l53_21 : List Nat := [91622406684671, 91860796540032, 92225849573375, 92462074130431, 92724070002687]
theorem ec_k53_21 : ec_GL 53 ec_l53_21 := ec_lst_t (by decide +kernel)
def ec_l53_22 : List Nat := [93037598679039, 93278116798463, 93593797185535, 93853643276287]
theorem ec_k53_22 : ec_GL 53 ec_l53_22 := ec_lst_t (by decide +kernel)
def ec_l53_23 : List Nat := [94388365905919, 94680423407615, 94946711330815, 95217294839807]
theorem ec_k53_23 : ec_GL 53 ec_l53_23 := ec_lst_t (by decide +kernel)
def ec_R53 : List Nat := ec_l53_0 ++ (ec_l53_1 ++ (ec_l53_2 ++ (ec_l53_3 ++ (ec_l53_4 ++ (ec_l53_5 ++ (ec_l53_6 ++ (ec_l53_7 ++ (ec_l53_8 ++ (ec_l53_9 ++ (ec_l53_10 ++ (ec_l53_11 ++ (ec_l53_12 ++ (ec_l53_13 ++ (ec_l53_14 ++ (ec_l53_15 ++ (ec_l53_16 ++ (ec_l53_17 ++ (ec_l53_18 ++ (ec_l53_19 ++ (ec_l53_20 ++ (ec_l53_21 ++ (ec_l53_22 ++ (ec_l53_23)))))))))))))))))))))))
theorem ec_K53 : ec_GL 53 ec_R53 := ec_GL_app ec_k53_0 (ec_GL_app ec_k53_1 (ec_GL_app ec_k53_2 (ec_GL_app ec_k53_3 (ec_GL_app ec_k53_4 (ec_GL_app ec_k53_5 (ec_GL_app ec_k53_6 (ec_GL_app ec_k53_7 (ec_GL_app ec_k53_8 (ec_GL_app ec_k53_9 (ec_GL_app ec_k53_10 (ec_GL_app ec_k53_11 (ec_GL_app ec_k53_12 (ec_GL_app ec_k53_13 (ec_GL_app ec_k53_14 (ec_GL_app ec_k53_15 (ec_GL_app ec_k53_16 (ec_GL_app ec_k53_17 (ec_GL_app ec_k53_18 (ec_GL_app ec_k53_19 (ec_GL_app ec_k53_20 (ec_GL_app ec_k53_21 (ec_GL_app ec_k53_22 (ec_k53_23)))))))))))))))))))))))
theorem ec_C53 : ec_rep 53 ec_R53 = true := by decide +kernel
def ec_l59_0 : List Nat := [403747233791, 678622740479, 17721053515775, 18002372206591]
theorem ec_k59_0 : ec_GL 59 ec_l59_0 := ec_lst_t (by decide +kernel)
def ec_l59_1 : List Nat := [18270811140095, 18534948192255, 18743270842816, 19101884170239]
theorem ec_k59_1 : ec_GL 59 ec_l59_1 := ec_lst_t (by decide +kernel)
def ec_l59_2 : List Nat := [19350992744447, 19658082172927, 19911487008767, 20134840821120]
theorem ec_k59_2 : ec_GL 59 ec_l59_2 := ec_lst_t (by decide +kernel)
def ec_l59_3 : List Nat := [20448357183487, 20744713900031, 21028178329599, 21309497401343]
theorem ec_k59_3 : ec_GL 59 ec_l59_3 := ec_lst_t (by decide +kernel)
def ec_l59_4 : List Nat := [21547867983871, 21771223323520, 22147015659519, 22389681926143]
theorem ec_k59_4 : ec_GL 59 ec_l59_4 := ec_lst_t (by decide +kernel)
def ec_l59_5 : List Nat := [22681740226559, 22969502695423, 23205726203903]
theorem ec_k59_5 : ec_GL 59 ec_l59_5 := ec_lst_t (by decide +kernel)
def ec_l59_6 : List Nat := [23512815353855, 23744743514111, 24021769150463, 24328860364799]
theorem ec_k59_6 : ec_GL 59 ec_l59_6 := ec_lst_t (by decide +kernel)
def ec_l59_7 : List Nat := [24567230341119, 24872172441599, 25074052736768, 25398305972223, 25615220200000]
theorem ec_k59_7 : ec_GL 59 ec_l59_7 := ec_lst_t (by decide +kernel)
def ec_l59_8 : List Nat := [25915867012224, 26261596254207, 26457032930240]
theorem ec_k59_8 : ec_GL 59 ec_l59_8 := ec_lst_t (by decide +kernel)
def ec_l59_9 : List Nat := [26787728171007, 27092671877119, 27331042852863, 27638131355647]
theorem ec_k59_9 : ec_GL 59 ec_l59_9 := ec_lst_t (by decide +kernel)
def ec_l59_10 : List Nat := [27915157852159, 28147085754367, 28454176481279, 28690399940607]
theorem ec_k59_10 : ec_GL 59 ec_l59_10 := ec_lst_t (by decide +kernel)
def ec_l59_11 : List Nat := [28978161704959, 29270220562431, 29512884916223, 29759862855232]
theorem ec_k59_11 : ec_GL 59 ec_l59_11 := ec_lst_t (by decide +kernel)
def ec_l59_12 : List Nat := [30112032591871, 30350403260415, 30631724154879, 30915191439359]
theorem ec_k59_12 : ec_GL 59 ec_l59_12 := ec_lst_t (by decide +kernel)
def ec_l59_13 : List Nat := [31211544436735, 31396245017728, 31748415365119]
theorem ec_k59_13 : ec_GL 59 ec_l59_13 := ec_lst_t (by decide +kernel)
def ec_l59_14 : List Nat := [32001819447295, 32308908797951, 32558016925695, 32787814250176]
theorem ec_k59_14 : ec_GL 59 ec_l59_14 := ec_lst_t (by decide +kernel)
def ec_l59_15 : List Nat := [33124952944639, 33389095792639, 33657528856575, 35248831778816]
theorem ec_k59_15 : ec_GL 59 ec_l59_15 := ec_lst_t (by decide +kernel)
def ec_l59_16 : List Nat := [35871583932415, 36086350155008, 36425636331519]
theorem ec_k59_16 : ec_GL 59 ec_l59_16 := ec_lst_t (by decide +kernel)
def ec_l59_17 : List Nat := [36676890038271, 36975391338495, 37254563184639]
theorem ec_k59_17 : ec_GL 59 ec_l59_17 := ec_lst_t (by decide +kernel)
def ec_l59_18 : List Nat := [37538031538175, 37817203834879, 38055575068671]
theorem ec_k59_18 : ec_GL 59 ec_l59_18 := ec_lst_t (by decide +kernel)
def ec_l59_19 : List Nat := [38321863876607, 38598888939519, 38822243489408, 39142201610239, 39429964161023]
theorem ec_k59_19 : ec_GL 59 ec_l59_19 := ec_lst_t (by decide +kernel)
def ec_l59_20 : List Nat := [39719875149823, 39926049655872, 40278220922879]
theorem ec_k59_20 : ec_GL 59 ec_l59_20 := ec_lst_t (by decide +kernel)
def ec_l59_21 : List Nat := [40475805410112, 40827975962623, 41072792031231, 41392764379135]
theorem ec_k59_21 : ec_GL 59 ec_l59_21 := ec_lst_t (by decide +kernel)
def ec_l59_22 : List Nat := [41633282576383, 41916750475263, 42187333066751, 42460066390015]
theorem ec_k59_22 : ec_GL 59 ec_l59_22 := ec_lst_t (by decide +kernel)
def ec_l59_23 : List Nat := [42713466646527, 43039884140543, 43308319584255]
theorem ec_k59_23 : ec_GL 59 ec_l59_23 := ec_lst_t (by decide +kernel)
def ec_l59_24 : List Nat := [43535953571839, 43804389052415, 44130806112255, 44384209682431]
theorem ec_k59_24 : ec_GL 59 ec_l59_24 := ec_lst_t (by decide +kernel)
def ec_l59_25 : List Nat := [44656939847679, 44927522283519, 45210990047231, 45451508744191]
theorem ec_k59_25 : ec_GL 59 ec_l59_25 := ec_lst_t (by decide +kernel)
def ec_l59_26 : List Nat := [45771483557887, 46016296968191, 46239653890176, 46566052798463]
theorem ec_k59_26 : ec_GL 59 ec_l59_26 := ec_lst_t (by decide +kernel)
def ec_l59_27 : List Nat := [46789408080192, 47124398297087, 47414309842943, 47702071898111]
theorem ec_k59_27 : ec_GL 59 ec_l59_27 := ec_lst_t (by decide +kernel)
def ec_l59_28 : List Nat := [47893214163200, 48245385469951, 48522409869311]
theorem ec_k59_28 : ec_GL 59 ec_l59_28 := ec_lst_t (by decide +kernel)
def ec_l59_29 : List Nat := [48788697808895, 49027068796927, 49306241871871, 49589709737983, 49868884967423]
theorem ec_k59_29 : ec_GL 59 ec_l59_29 := ec_lst_t (by decide +kernel)
def ec_l59_30 : List Nat := [50167382638591, 50418641301503, 50629108576704, 50972690489343]
theorem ec_k59_30 : ec_GL 59 ec_l59_30 := ec_lst_t (by decide +kernel)
def ec_R59 : List Nat := ec_l59_0 ++ (ec_l59_1 ++ (ec_l59_2 ++ (ec_l59_3 ++ (ec_l59_4 ++ (ec_l59_5 ++ (ec_l59_6 ++ (ec_l59_7 ++ (ec_l59_8 ++ (ec_l59_9 ++ (ec_l59_10 ++ (ec_l59_11 ++ (ec_l59_12 ++ (ec_l59_13 ++ (ec_l59_14 ++ (ec_l59_15 ++ (ec_l59_16 ++ (ec_l59_17 ++ (ec_l59_18 ++ (ec_l59_19 ++ (ec_l59_20 ++ (ec_l59_21 ++ (ec_l59_22 ++ (ec_l59_23 ++ (ec_l59_24 ++ (ec_l59_25 ++ (ec_l59_26 ++ (ec_l59_27 ++ (ec_l59_28 ++ (ec_l59_29 ++ (ec_l59_30))))))))))))))))))))))))))))))
theorem ec_K59 : ec_GL 59 ec_R59 := ec_GL_app ec_k59_0 (ec_GL_app ec_k59_1 (ec_GL_app ec_k59_2 (ec_GL_app ec_k59_3 (ec_GL_app ec_k59_4 (ec_GL_app ec_k59_5 (ec_GL_app ec_k59_6 (ec_GL_app ec_k59_7 (ec_GL_app ec_k59_8 (ec_GL_app ec_k59_9 (ec_GL_app ec_k59_10 (ec_GL_app ec_k59_11 (ec_GL_app ec_k59_12 (ec_GL_app ec_k59_13 (ec_GL_app ec_k59_14 (ec_GL_app ec_k59_15 (ec_GL_app ec_k59_16 (ec_GL_app ec_k59_17 (ec_GL_app ec_k59_18 (ec_GL_app ec_k59_19 (ec_GL_app ec_k59_20 (ec_GL_app ec_k59_21 (ec_GL_app ec_k59_22 (ec_GL_app ec_k59_23 (ec_GL_app ec_k59_24 (ec_GL_app ec_k59_25 (ec_GL_app ec_k59_26 (ec_GL_app ec_k59_27 (ec_GL_app ec_k59_28 (ec_GL_app ec_k59_29 (ec_k59_30))))))))))))))))))))))))))))))
theorem ec_C59 : ec_rep 59 ec_R59 = true := by decide +kernel
end
section
/-! certificates: for each kind of curves under (t^4 a, t^6 b) one curve, with a pair of generators -/
def ec_l61_0 : List Nat := [300716474626, 680769392639, 1131808358490, 1419537604634]
theorem ec_k61_0 : ec_GL 61 ec_l61_0 := ec_lst_t (by decide +kernel)
def ec_l61_1 : List Nat := [2280661731072, 2854023655423, 17648055787520, 17974454919167]
theorem ec_k61_1 : ec_GL 61 ec_l61_1 := ec_lst_t (by decide +kernel)
def ec_l61_2 : List Nat := [18287989194751, 18534948179967, 18814121631743, 19116919205887]
theorem ec_k61_2 : ec_GL 61 ec_l61_2 := ec_lst_t (by decide +kernel)
def ec_l61_3 : List Nat := [19597969602496, 19894306922495, 20222870306815]
theorem ec_k61_3 : ec_GL 61 ec_l61_3 := ec_lst_t (by decide +kernel)
def ec_l61_4 : List Nat := [20409719748032, 20744710733823, 21043209113599]
theorem ec_k61_4 : ec_GL 61 ec_l61_4 := ec_lst_t (by decide +kernel)
def ec_l61_5 : List Nat := [21307351969791, 21595115085823, 21869990797311]
theorem ec_k61_5 : ec_GL 61 ec_l61_5 := ec_lst_t (by decide +kernel)
def ec_l61_6 : List Nat := [22114803404799, 22383239467007, 22578694313160, 22958764535807]
theorem ec_k61_6 : ec_GL 61 ec_l61_6 := ec_lst_t (by decide +kernel)
def ec_l61_7 : List Nat := [23240084856831, 23487047897087, 23768365846527, 24036802830335]
theorem ec_k61_7 : ec_GL 61 ec_l61_7 := ec_lst_t (by decide +kernel)
def ec_l61_8 : List Nat := [24294499897343, 24588704911359, 24885058686975, 25048316479491]
theorem ec_k61_8 : ec_GL 61 ec_l61_8 := ec_lst_t (by decide +kernel)
def ec_l61_9 : List Nat := [25406896717823, 25636693910016, 25971684851711, 35343303249919]
theorem ec_k61_9 : ec_GL 61 ec_l61_9 := ec_lst_t (by decide +kernel)
def ec_l61_10 : List Nat := [35601000701951, 35888764116991, 36155052806143]
theorem ec_k61_10 : ec_GL 61 ec_l61_10 := ec_lst_t (by decide +kernel)
def ec_l61_11 : List Nat := [36395570188287, 36685480046591, 36936735801343, 37239531319295]
theorem ec_k61_11 : ec_GL 61 ec_l61_11 := ec_lst_t (by decide +kernel)
def ec_l61_12 : List Nat := [37544475615231, 37787139379199, 38051281379327]
theorem ec_k61_12 : ec_GL 61 ec_l61_12 := ec_lst_t (by decide +kernel)
def ec_l61_13 : List Nat := [38272492213184, 38560250004736, 38822243854720]
theorem ec_k61_13 : ec_GL 61 ec_l61_13 := ec_lst_t (by decide +kernel)
def ec_l61_14 : List Nat := [39183003508735, 39444997050367, 39728464285695]
theorem ec_k61_14 : ec_GL 61 ec_l61_14 := ec_lst_t (by decide +kernel)
def ec_l61_15 : List Nat := [39913164935936, 40263189544959, 40508000907263, 40789322772479, 41089970581503]
theorem ec_k61_15 : ec_GL 61 ec_l61_15 := ec_lst_t (by decide +kernel)
def ec_l61_16 : List Nat := [41366994575359, 41616103260159, 41914602983423, 42107909724316]
theorem ec_k61_16 : ec_GL 61 ec_l61_16 := ec_lst_t (by decide +kernel)
def ec_l61_17 : List Nat := [42466508124159, 42666239506112, 43031299379199]
theorem ec_k61_17 : ec_GL 61 ec_l61_17 := ec_lst_t (by decide +kernel)
def ec_l61_18 : List Nat := [43295435227135, 43581052612607, 52802429210905]
theorem ec_k61_18 : ec_GL 61 ec_l61_18 := ec_lst_t (by decide +kernel)
def ec_l61_19 : List Nat := [53199629819903, 53442296193023, 53745090072575]
theorem ec_k61_19 : ec_GL 61 ec_l61_19 := ec_lst_t (by decide +kernel)
def ec_l61_20 : List Nat := [53940529185792, 54301289955327, 54537512067071, 54825275412479]
theorem ec_k61_20 : ec_GL 61 ec_l61_20 := ec_lst_t (by decide +kernel)
def ec_l61_21 : List Nat := [55091562614783, 55413684846591, 55667090112511]
theorem ec_k61_21 : ec_GL 61 ec_l61_21 := ec_lst_t (by decide +kernel)
def ec_l61_22 : List Nat := [55948408807423, 56208253849599, 56470246846463, 56745124782079]
theorem ec_k61_22 : ec_GL 61 ec_l61_22 := ec_lst_t (by decide +kernel)
def ec_l61_23 : List Nat := [56951300003904, 57318502846463, 57563317903359, 57866111471615]
theorem ec_k61_23 : ec_GL 61 ec_l61_23 := ec_lst_t (by decide +kernel)
def ec_l61_24 : List Nat := [58147432648703, 58411572871167, 58686450790399]
theorem ec_k61_24 : ec_GL 61 ec_l61_24 := ec_lst_t (by decide +kernel)
def ec_l61_25 : List Nat := [59163210472064, 59532560949247, 59708668924096]
theorem ec_k61_25 : ec_GL 61 ec_l61_25 := ec_lst_t (by decide +kernel)
def ec_l61_26 : List Nat := [60067282690047, 60359340294143, 60582678794239]
theorem ec_k61_26 : ec_GL 61 ec_l61_26 := ec_lst_t (by decide +kernel)
def ec_l61_27 : List Nat := [60870441578495, 61134582165503, 105574675550488, 105943975075839, 106242475573247]
theorem ec_k61_27 : ec_GL 61 ec_l61_27 := ec_lst_t (by decide +kernel)
def ec_l61_28 : List Nat := [106534533107711, 106800821055487, 106972653396742]
theorem ec_k61_28 : ec_GL 61 ec_l61_28 := ec_lst_t (by decide +kernel)
def ec_l61_29 : List Nat := [107331250860031, 107511688812305, 107911070457855]
theorem ec_k61_29 : ec_GL 61 ec_l61_29 := ec_lst_t (by decide +kernel)
def ec_l61_30 : List Nat := [108132260921343, 108413584158719, 108697051471871, 108967633137663, 109238215045119]
theorem ec_k61_30 : ec_GL 61 ec_l61_30 := ec_lst_t (by decide +kernel)
def ec_l61_31 : List Nat := [109532420333567, 109811593224191, 110084324884479, 110281910408192]
theorem ec_k61_31 : ec_GL 61 ec_l61_31 := ec_lst_t (by decide +kernel)
def ec_l61_32 : List Nat := [110621195575295, 110853140031104, 111119427798848]
theorem ec_k61_32 : ec_GL 61 ec_l61_32 := ec_lst_t (by decide +kernel)
def ec_l61_33 : List Nat := [111456566214655, 111763656835071, 111948357515008]
theorem ec_k61_33 : ec_GL 61 ec_l61_33 := ec_lst_t (by decide +kernel)
def ec_l61_34 : List Nat := [112274760658943, 112551782277119, 112854578098175]
theorem ec_k61_34 : ec_GL 61 ec_l61_34 := ec_lst_t (by decide +kernel)
def ec_l61_35 : List Nat := [113107981099007, 113387154247679, 113689948876799]
theorem ec_k61_35 : ec_GL 61 ec_l61_35 := ec_lst_t (by decide +kernel)
def ec_l61_36 : List Nat := [113838159651401]
theorem ec_k61_36 : ec_GL 61 ec_l61_36 := ec_lst_t (by decide +kernel)
def ec_R61 : List Nat := ec_l61_0 ++ (ec_l61_1 ++ (ec_l61_2 ++ (ec_l61_3 ++ (ec_l61_4 ++ (ec_l61_5 ++ (ec_l61_6 ++ (ec_l61_7 ++ (ec_l61_8 ++ (ec_l61_9 ++ (ec_l61_10 ++ (ec_l61_11 ++ (ec_l61_12 ++ (ec_l61_13 ++ (ec_l61_14 ++ (ec_l61_15 ++ (ec_l61_16 ++ (ec_l61_17 ++ (ec_l61_18 ++ (ec_l61_19 ++ (ec_l61_20 ++ (ec_l61_21 ++ (ec_l61_22 ++ (ec_l61_23 ++ (ec_l61_24 ++ (ec_l61_25 ++ (ec_l61_26 ++ (ec_l61_27 ++ (ec_l61_28 ++ (ec_l61_29 ++ (ec_l61_30 ++ (ec_l61_31 ++ (ec_l61_32 ++ (ec_l61_33 ++ (ec_l61_34 ++ (ec_l61_35 ++ (ec_l61_36))))))))))))))))))))))))))))))))))))
theorem ec_K61 : ec_GL 61 ec_R61 := ec_GL_app ec_k61_0 (ec_GL_app ec_k61_1 (ec_GL_app ec_k61_2 (ec_GL_app ec_k61_3 (ec_GL_app ec_k61_4 (ec_GL_app ec_k61_5 (ec_GL_app ec_k61_6 (ec_GL_app ec_k61_7 (ec_GL_app ec_k61_8 (ec_GL_app ec_k61_9 (ec_GL_app ec_k61_10 (ec_GL_app ec_k61_11 (ec_GL_app ec_k61_12 (ec_GL_app ec_k61_13 (ec_GL_app ec_k61_14 (ec_GL_app ec_k61_15 (ec_GL_app ec_k61_16 (ec_GL_app ec_k61_17 (ec_GL_app ec_k61_18 (ec_GL_app ec_k61_19 (ec_GL_app ec_k61_20 (ec_GL_app ec_k61_21 (ec_GL_app ec_k61_22 (ec_GL_app ec_k61_23 (ec_GL_app ec_k61_24 (ec_GL_app ec_k61_25 (ec_GL_app ec_k61_26 (ec_GL_app ec_k61_27 (ec_GL_app ec_k61_28 (ec_GL_app ec_k61_29 (ec_GL_app ec_k61_30 (ec_GL_app ec_k61_31 (ec_GL_app ec_k61_32 (ec_GL_app ec_k61_33 (ec_GL_app ec_k61_34 (ec_GL_app ec_k61_35 (ec_k61_36))))))))))))))))))))))))))))))))))))
theorem ec_C61 : ec_rep 61 ec_R61 = true := by decide +kernel
end
section
/-! the field of p elements by congruences, the sum by its slope, and curves carried over by (t^2 x, t^3 y) -/
def ec_P (p : Nat) : Prop := p = 5 ∨ p = 7 ∨ p = 11 ∨ p = 13 ∨ p = 17 ∨ p = 19 ∨ p = 23 ∨ p = 29 ∨ p = 31 ∨ p = 37 ∨ p = 41 ∨ p = 43 ∨ p = 47 ∨ p = 53 ∨ p = 59 ∨ p = 61
theorem ec_P_b {p : Nat} (h : ec_P p) : 5 ≤ p ∧ p ≤ 61 := by unfold ec_P at h; omega
theorem ec_inv0 {p : Nat} (h : ec_P p) : ∀ w, w < p → 0 < w → w * w ^ (p - 2) % p = 1 := by
  rcases h with rfl | rfl | rfl | rfl | rfl | rfl | rfl | rfl | rfl | rfl | rfl | rfl | rfl | rfl | rfl | rfl <;> decide +kernel
theorem ec_inv1 {p w : Nat} (h : ec_P p) (hw : w % p ≠ 0) : w * w ^ (p - 2) % p = 1 := by
  have b := ec_P_b h
  have e := ec_inv0 h (w % p) (Nat.mod_lt _ (by omega)) (by omega)
  rw [Nat.mul_mod, Nat.pow_mod] at e ⊢
  rw [Nat.mod_mod] at e
  exact e
def mq_ (p : Nat) (x y : Int) : Prop := ∃ k : Int, x = y + p * k
theorem mq_e {p : Nat} {x y : Int} (h : x = y) : mq_ p x y := ⟨0, by rw [h, Int.mul_zero, Int.add_zero]⟩
theorem mq_r {p : Nat} {x : Int} : mq_ p x x := mq_e rfl
theorem mq_s {p : Nat} {x y : Int} (h : mq_ p x y) : mq_ p y x := by
  obtain ⟨k, e⟩ := h
  exact ⟨-k, by rw [e]; grind⟩
theorem mq_t {p : Nat} {x y z : Int} (h : mq_ p x y) (g : mq_ p y z) : mq_ p x z := by
  obtain ⟨k, e⟩ := h
  obtain ⟨l, f⟩ := g
  exact ⟨k + l, by rw [e, f]; grind⟩
theorem mq_a {p : Nat} {x y z w : Int} (h : mq_ p x y) (g : mq_ p z w) : mq_ p (x + z) (y + w) := by
  obtain ⟨k, e⟩ := h
  obtain ⟨l, f⟩ := g
  exact ⟨k + l, by rw [e, f]; grind⟩
theorem mq_d {p : Nat} {x y z w : Int} (h : mq_ p x y) (g : mq_ p z w) : mq_ p (x - z) (y - w) := by
  obtain ⟨k, e⟩ := h
  obtain ⟨l, f⟩ := g
  exact ⟨k - l, by rw [e, f]; grind⟩
theorem mq_m {p : Nat} {x y z w : Int} (h : mq_ p x y) (g : mq_ p z w) : mq_ p (x * z) (y * w) := by
  obtain ⟨k, e⟩ := h
  obtain ⟨l, f⟩ := g
  exact ⟨y * l + k * w + p * k * l, by rw [e, f]; grind⟩
theorem mq_i {p : Nat} {x y : Int} (h : mq_ p x y) : x % (p : Int) = y % (p : Int) := by
  obtain ⟨k, e⟩ := h
  rw [e, Int.add_mul_emod_self_left]
theorem mq_mod {p x y : Nat} : mq_ p (x : Int) (y : Int) ↔ x % p = y % p := by
  constructor
  · intro h
    have e := mq_i h
    exact_mod_cast e
  · intro h
    have e1 := Nat.div_add_mod x p
    have e2 := Nat.div_add_mod y p
    have f1 : (p : Int) * ((x / p : Nat) : Int) + ((x % p : Nat) : Int) = (x : Int) := by exact_mod_cast e1
    have f2 : (p : Int) * ((y / p : Nat) : Int) + ((y % p : Nat) : Int) = (y : Int) := by exact_mod_cast e2
    rw [h] at f1
    refine ⟨((x / p : Nat) : Int) - ((y / p : Nat) : Int), ?_⟩
    rw [← f1, ← f2]
    grind
theorem mq_eq {p x y : Nat} (hx : x < p) (hy : y < p) (h : mq_ p (x : Int) (y : Int)) : x = y := by
  have e := mq_mod.mp h
  rwa [Nat.mod_eq_of_lt hx, Nat.mod_eq_of_lt hy] at e
theorem mq_nm (p x : Nat) : mq_ p ((x % p : Nat) : Int) (x : Int) := mq_mod.mpr (Nat.mod_mod _ _)
theorem mq_0 {p x : Nat} : mq_ p (x : Int) 0 ↔ x % p = 0 := by
  have h := mq_mod (p := p) (x := x) (y := 0)
  rw [Nat.zero_mod] at h
  exact h
def ec_m (p : Nat) (z : Int) : Nat := (z % (p : Int)).toNat
theorem ec_m_c {p : Nat} (hp : 0 < p) (z : Int) : ((ec_m p z : Nat) : Int) = z % (p : Int) := by
  unfold ec_m
  exact Int.toNat_of_nonneg (Int.emod_nonneg _ (by omega))
theorem ec_m_lt {p : Nat} (hp : 0 < p) (z : Int) : ec_m p z < p := by
  have h := ec_m_c hp z
  have g := Int.emod_lt_of_pos z (b := (p : Int)) (by omega)
  omega
theorem ec_m_q {p : Nat} (hp : 0 < p) (z : Int) : mq_ p ((ec_m p z : Nat) : Int) z := by
  refine ⟨-(z / (p : Int)), ?_⟩
  rw [ec_m_c hp, Int.emod_def]
  grind
theorem ec_m_e {p : Nat} {z w : Int} (h : mq_ p z w) : ec_m p z = ec_m p w := by
  unfold ec_m
  rw [mq_i h]
theorem ec_m_n (p x : Nat) : ec_m p (x : Int) = x % p := by
  unfold ec_m
  have e : ((x : Int) % (p : Int)) = ((x % p : Nat) : Int) := (Int.natCast_emod x p).symm
  rw [e]
  exact Int.toNat_natCast _
theorem ec_m_id {p x : Nat} (h : x < p) : ec_m p (x : Int) = x := by rw [ec_m_n, Nat.mod_eq_of_lt h]
theorem ec_m_of {p x : Nat} {z : Int} (hx : x < p) (h : mq_ p (x : Int) z) : ec_m p z = x := by
  rw [← ec_m_e h, ec_m_id hx]
theorem mq_inv {p : Nat} (hp : ec_P p) {w : Int} (hw : ¬ mq_ p w 0) : ∃ w' : Int, mq_ p (w * w') 1 := by
  have b := ec_P_b hp
  have q := ec_m_q (p := p) (by omega) w
  have hn : ec_m p w % p ≠ 0 := by
    intro h
    exact hw (mq_t (mq_s q) (mq_0.mpr h))
  have e := ec_inv1 hp hn
  have e1 : mq_ p ((ec_m p w * ec_m p w ^ (p - 2) : Nat) : Int) ((1 : Nat) : Int) := mq_mod.mpr (by rw [e, Nat.mod_eq_of_lt (by omega)])
  refine ⟨((ec_m p w ^ (p - 2) : Nat) : Int), mq_t (mq_m (mq_s q) mq_r) ?_⟩
  rw [← Int.natCast_mul]
  exact e1
theorem mq_can {p : Nat} (hp : ec_P p) {w x y : Int} (hw : ¬ mq_ p w 0) (h : mq_ p (w * x) (w * y)) : mq_ p x y := by
  obtain ⟨w', e⟩ := mq_inv hp hw
  have h1 : mq_ p (w' * (w * x)) (w' * (w * y)) := mq_m mq_r h
  have h2 : mq_ p (w * w' * x) (1 * x) := mq_m e mq_r
  have h3 : mq_ p (w * w' * y) (1 * y) := mq_m e mq_r
  have h4 : w' * (w * x) = w * w' * x := by grind
  have h5 : w' * (w * y) = w * w' * y := by grind
  rw [h4, h5] at h1
  have h6 := mq_t (mq_s h2) (mq_t h1 h3)
  rwa [Int.one_mul, Int.one_mul] at h6
theorem ec_on_q {p a b x y : Nat} : ec_on p a b x y ↔ mq_ p ((y : Int) * y) ((x : Int) * (x * x) + a * x + b) := by
  have h := mq_mod (p := p) (x := y * y) (y := x * (x * x) + a * x + b)
  have e1 : ((y * y : Nat) : Int) = (y : Int) * y := by first | rfl | (push_cast; rfl) | push_cast
  have e2 : ((x * (x * x) + a * x + b : Nat) : Int) = (x : Int) * (x * x) + a * x + b := by first | rfl | (push_cast; rfl) | push_cast
  rw [e1, e2] at h
  exact h.symm
theorem ec_opp {p a b x y v : Nat} (hp : ec_P p) (hy : y < p) (hv : v < p) (h : ec_on p a b x y) (g : ec_on p a b x v) (n : ¬ (y + v) % p = 0) : y = v := by
  have q := mq_t (ec_on_q.mp h) (mq_s (ec_on_q.mp g))
  have n1 : ¬ mq_ p ((y : Int) + v) 0 := by
    intro z
    have z1 : mq_ p ((y + v : Nat) : Int) 0 := by rw [Int.natCast_add]; exact z
    exact n (mq_0.mp z1)
  refine mq_eq hy hv (mq_can hp n1 ?_)
  have h1 := mq_a q (mq_r (p := p) (x := (y : Int) * v))
  have e1 : ((y : Int) + v) * y = y * y + y * v := by grind
  have e2 : ((y : Int) + v) * v = v * v + y * v := by grind
  rw [e1, e2]
  exact h1
def ec_r (p x u l : Nat) : Nat := ec_m p ((l : Int) * l - x - u)
def ec_s (p x y r l : Nat) : Nat := ec_m p ((l : Int) * ((x : Int) - r) - y)
def ec_F (p x y u l : Nat) : Nat := 64 * ec_r p x u l + ec_s p x y (ec_r p x u l) l
theorem ec_fin_F {p x y u l : Nat} (hx : x < p) (hy : y < p) (hu : u < p) : ec_fin p x y u l = ec_F p x y u l := by
  have e1 : (l * l + ((p - x) + (p - u))) % p = ec_r p x u l := by
    unfold ec_r
    rw [← ec_m_n]
    refine ec_m_e ⟨2, ?_⟩
    have c1 : ((p - x : Nat) : Int) = (p : Int) - x := by omega
    have c2 : ((p - u : Nat) : Int) = (p : Int) - u := by omega
    rw [Int.natCast_add, Int.natCast_add, c1, c2, Int.natCast_mul]
    grind
  have hr : ec_r p x u l < p := ec_m_lt (by omega) _
  have e2 : ∀ r, r < p → (l * ((x + p) - r) + (p - y)) % p = ec_s p x y r l := by
    intro r hr
    unfold ec_s
    rw [← ec_m_n]
    refine ec_m_e ⟨(l : Int) + 1, ?_⟩
    have c1 : ((x + p - r : Nat) : Int) = (x : Int) + p - r := by omega
    have c2 : ((p - y : Nat) : Int) = (p : Int) - y := by omega
    rw [Int.natCast_add, Int.natCast_mul, c1, c2]
    grind
  show 64 * ((l * l + ((p - x) + (p - u))) % p) + (l * ((x + p) - ((l * l + ((p - x) + (p - u))) % p)) + (p - y)) % p = _
  rw [e1, e2 _ hr]
  rfl
/-- l is the slope of the line through (x, y) and (u, v), or of the tangent -/
def ec_sl (p a x y u v l : Nat) : Prop := (x = u → mq_ p (2 * (y : Int) * l) (3 * ((x : Int) * x) + a)) ∧ (x ≠ u → mq_ p (((u : Int) - x) * l) ((v : Int) - y))
theorem ec_ne {p x u : Nat} (hx : x < p) (hu : u < p) (h : x ≠ u) : ¬ mq_ p ((u : Int) - x) 0 := by
  intro z
  have z1 := mq_a z (mq_r (p := p) (x := (x : Int)))
  have e1 : (u : Int) - x + x = u := by grind
  have e2 : (0 : Int) + x = x := by grind
  rw [e1, e2] at z1
  exact h (mq_eq hu hx z1).symm
theorem ec_2y {p y : Nat} (h : ¬ (y + y) % p = 0) : ¬ mq_ p (2 * (y : Int)) 0 := by
  intro z
  have e : (2 * (y : Int)) = ((y + y : Nat) : Int) := by omega
  rw [e] at z
  exact h (mq_0.mp z)
theorem ec_div {p w z : Nat} (hp : ec_P p) (hw : ¬ w % p = 0) : mq_ p ((w : Int) * ((z * w ^ (p - 2) % p : Nat) : Int)) (z : Int) := by
  have b := ec_P_b hp
  have e := ec_inv1 hp hw
  have e1 : mq_ p ((w * w ^ (p - 2) : Nat) : Int) ((1 : Nat) : Int) := mq_mod.mpr (by rw [e, Nat.mod_eq_of_lt (by omega)])
  have q1 : mq_ p ((w : Int) * ((z * w ^ (p - 2) % p : Nat) : Int)) ((w : Int) * ((z * w ^ (p - 2) : Nat) : Int)) := mq_m mq_r (mq_nm _ _)
  refine mq_t q1 ?_
  have q2 : mq_ p ((z : Int) * ((w * w ^ (p - 2) : Nat) : Int)) ((z : Int) * ((1 : Nat) : Int)) := mq_m mq_r e1
  have e2 : (w : Int) * ((z * w ^ (p - 2) : Nat) : Int) = (z : Int) * ((w * w ^ (p - 2) : Nat) : Int) := by
    rw [Int.natCast_mul, Int.natCast_mul]; grind
  have e3 : (z : Int) * ((1 : Nat) : Int) = z := Int.mul_one _
  rw [e2]
  rw [e3] at q2
  exact q2
theorem ec_ad2_O {p a x y u v : Nat} (h : x = u) (g : (y + v) % p = 0) : ec_ad2 p a x y u v = 4095 := by
  have h1 : Nat.beq x u = true := by rw [h]; exact Nat.beq_refl u
  have h2 : Nat.beq (Nat.mod (Nat.add y v) p) 0 = true := by
    show Nat.beq ((y + v) % p) 0 = true
    rw [g]; rfl
  unfold ec_ad2
  rw [h1, h2] <;> rfl
theorem ec_bf {x u : Nat} (h : x ≠ u) : Nat.beq x u = false := by
  cases q : Nat.beq x u with
  | false => rfl
  | true => exact absurd (Nat.eq_of_beq_eq_true q) h
theorem ec_ad2_F {p a x y u v : Nat} (hp : ec_P p) (hx : x < p) (hy : y < p) (hu : u < p) (hv : v < p) (h : ¬ (x = u ∧ (y + v) % p = 0)) (ho : x = u → y = v) : ∃ l, l < p ∧ ec_sl p a x y u v l ∧ ec_ad2 p a x y u v = ec_F p x y u l := by
  have b := ec_P_b hp
  by_cases e : x = u
  · have hn : ¬ (y + v) % p = 0 := fun z => h ⟨e, z⟩
    have h1 : Nat.beq x u = true := by rw [e]; exact Nat.beq_refl u
    have h2 : Nat.beq (Nat.mod (Nat.add y v) p) 0 = false := ec_bf hn
    refine ⟨(3 * (x * x) + a) * (2 * y) ^ (p - 2) % p, Nat.mod_lt _ (by omega), ⟨fun _ => ?_, fun z => absurd e z⟩, ?_⟩
    · have hw : ¬ (2 * y) % p = 0 := by
        have z := ho e
        rw [← z] at hn
        rwa [Nat.two_mul]
      have q := ec_div (z := 3 * (x * x) + a) hp hw
      have e1 : ((2 * y : Nat) : Int) = 2 * (y : Int) := by first | rfl | (push_cast; rfl) | push_cast
      have e2 : ((3 * (x * x) + a : Nat) : Int) = 3 * ((x : Int) * x) + a := by first | rfl | (push_cast; rfl) | push_cast
      rw [e1, e2] at q
      exact q
    · rw [← ec_fin_F hx hy hu]
      unfold ec_ad2
      rw [h1, h2] <;> rfl
  · have h1 : Nat.beq x u = false := ec_bf e
    refine ⟨(v + p - y) * (u + p - x) ^ (p - 2) % p, Nat.mod_lt _ (by omega), ⟨fun z => absurd z e, fun _ => ?_⟩, ?_⟩
    · have c1 : ((u + p - x : Nat) : Int) = (u : Int) - x + p * 1 := by omega
      have c2 : ((v + p - y : Nat) : Int) = (v : Int) - y + p * 1 := by omega
      have d1 : mq_ p ((u + p - x : Nat) : Int) ((u : Int) - x) := ⟨1, c1⟩
      have d2 : mq_ p ((v + p - y : Nat) : Int) ((v : Int) - y) := ⟨1, c2⟩
      have hw : ¬ (u + p - x) % p = 0 := fun z => ec_ne hx hu e (mq_t (mq_s d1) (mq_0.mpr z))
      exact mq_t (mq_m (mq_s d1) mq_r) (mq_t (ec_div (z := v + p - y) hp hw) d2)
    · rw [← ec_fin_F hx hy hu]
      unfold ec_ad2
      rw [h1] <;> rfl
theorem ec_sl_u {p a x y u v l l' : Nat} (hp : ec_P p) (hx : x < p) (hu : u < p) (h : ¬ (x = u ∧ (y + v) % p = 0)) (ho : x = u → y = v) (hl : l < p) (hl' : l' < p) (s : ec_sl p a x y u v l) (s' : ec_sl p a x y u v l') : l = l' := by
  by_cases e : x = u
  · have hn : ¬ (y + y) % p = 0 := fun z => h ⟨e, by rw [← ho e]; exact z⟩
    exact mq_eq hl hl' (mq_can hp (ec_2y hn) (mq_t (s.1 e) (mq_s (s'.1 e))))
  · exact mq_eq hl hl' (mq_can hp (ec_ne hx hu e) (mq_t (s.2 e) (mq_s (s'.2 e))))
theorem ec_adF {p a x y u v l : Nat} (hp : ec_P p) (hx : x < p) (hy : y < p) (hu : u < p) (hv : v < p) (h : ¬ (x = u ∧ (y + v) % p = 0)) (ho : x = u → y = v) (hl : l < p) (s : ec_sl p a x y u v l) : ec_ad2 p a x y u v = ec_F p x y u l := by
  obtain ⟨l', hl', s', e⟩ := ec_ad2_F (a := a) hp hx hy hu hv h ho
  rw [e, ec_sl_u hp hx hu h ho hl hl' s s']
theorem ec_ad_0 (p a Q : Nat) : ec_ad p a 4095 Q = Q := rfl
theorem ec_ad_z (p a P : Nat) : ec_ad p a P 4095 = P := by
  cases q : Nat.beq P 4095 with
  | true =>
    have e := Nat.eq_of_beq_eq_true q
    rw [e]; rfl
  | false =>
    unfold ec_ad
    rw [q] <;> rfl
theorem ec_ad_n {p a P Q : Nat} (hP : P ≠ 4095) (hQ : Q ≠ 4095) : ec_ad p a P Q = ec_ad2 p a (P / 64) (P % 64) (Q / 64) (Q % 64) := by
  unfold ec_ad
  rw [ec_bf hP, ec_bf hQ] <;> rfl
theorem ec_cd {p x y : Nat} (hp : p ≤ 61) (hx : x < p) (hy : y < p) : 64 * x + y ≠ 4095 ∧ (64 * x + y) / 64 = x ∧ (64 * x + y) % 64 = y := by omega
theorem ec_ad_c {p a x y u v : Nat} (hp : p ≤ 61) (hx : x < p) (hy : y < p) (hu : u < p) (hv : v < p) : ec_ad p a (64 * x + y) (64 * u + v) = ec_ad2 p a x y u v := by
  have c1 := ec_cd hp hx hy
  have c2 := ec_cd hp hu hv
  rw [ec_ad_n c1.1 c2.1, c1.2.1, c1.2.2, c2.2.1, c2.2.2]
theorem ec_pt_n {p a b P : Nat} (h : ec_pt p a b P) (n : P ≠ 4095) : ∃ x y, x < p ∧ y < p ∧ P = 64 * x + y ∧ ec_on p a b x y := by
  rcases h with e | ⟨h1, h2, h3⟩
  · exact absurd e n
  · exact ⟨P / 64, P % 64, h1, h2, by omega, h3⟩
theorem ec_pt_c {p a b x y : Nat} (hp : p ≤ 61) (hx : x < p) (hy : y < p) (h : ec_on p a b x y) : ec_pt p a b (64 * x + y) := by
  have c1 := ec_cd hp hx hy
  refine Or.inr ?_
  rw [c1.2.1, c1.2.2]
  exact ⟨hx, hy, h⟩
end
section
/-! a curve carried over by (t^2 x, t^3 y); every curve's sum is closed and associative -/
def ec_ph (p t P : Nat) : Nat := if P = 4095 then 4095 else 64 * (t * t * (P / 64) % p) + t * t * t * (P % 64) % p
theorem ec_ph_0 (p t : Nat) : ec_ph p t 4095 = 4095 := rfl
theorem ec_ph_c {p t x y : Nat} (hp : p ≤ 61) (hx : x < p) (hy : y < p) : ec_ph p t (64 * x + y) = 64 * (t * t * x % p) + t * t * t * y % p := by
  have c := ec_cd hp hx hy
  unfold ec_ph
  rw [if_neg c.1, c.2.1, c.2.2]
theorem ec_x2 (p t x : Nat) : mq_ p ((t * t * x % p : Nat) : Int) ((t : Int) * t * x) := by
  have h := mq_nm p (t * t * x)
  rwa [Int.natCast_mul (t * t) x, Int.natCast_mul t t] at h
theorem ec_y3 (p t y : Nat) : mq_ p ((t * t * t * y % p : Nat) : Int) ((t : Int) * t * t * y) := by
  have h := mq_nm p (t * t * t * y)
  rwa [Int.natCast_mul (t * t * t) y, Int.natCast_mul (t * t) t, Int.natCast_mul t t] at h
theorem ec_T1 {p a b a0 b0 t x y : Nat} (qa : mq_ p (a : Int) ((t : Int) ^ 4 * a0)) (qb : mq_ p (b : Int) ((t : Int) ^ 6 * b0)) (h : ec_on p a0 b0 x y) : ec_on p a b (t * t * x % p) (t * t * t * y % p) := by
  rw [ec_on_q] at h ⊢
  have q1 := ec_x2 p t x
  have q2 := ec_y3 p t y
  refine mq_t (mq_m q2 q2) (mq_s (mq_t (mq_a (mq_a (mq_m q1 (mq_m q1 q1)) (mq_m qa q1)) qb) ?_))
  have h1 : mq_ p ((t : Int) ^ 6 * (y * y)) ((t : Int) ^ 6 * (x * (x * x) + a0 * x + b0)) := mq_m mq_r h
  have e1 : (t : Int) * t * x * (t * t * x * (t * t * x)) + (t : Int) ^ 4 * a0 * (t * t * x) + (t : Int) ^ 6 * b0 = (t : Int) ^ 6 * (x * (x * x) + a0 * x + b0) := by grind
  have e2 : (t : Int) * t * t * y * (t * t * t * y) = (t : Int) ^ 6 * (y * y) := by grind
  rw [e1, e2]
  exact mq_s h1
theorem ec_tn {p t : Nat} (h0 : 0 < t) (ht : t < p) : ¬ mq_ p (t : Int) 0 := by
  intro z
  have e := mq_0.mp z
  rw [Nat.mod_eq_of_lt ht] at e
  omega
theorem ec_tt {p t : Nat} (hp : ec_P p) (h0 : 0 < t) (ht : t < p) : ∃ s : Nat, mq_ p ((t : Int) * s) 1 := by
  obtain ⟨w, hw⟩ := mq_inv hp (ec_tn h0 ht)
  have b := ec_P_b hp
  exact ⟨ec_m p w, mq_t (mq_m mq_r (ec_m_q (by omega) w)) hw⟩
theorem ec_T2 {p a b a0 b0 t x y : Nat} (hp : ec_P p) (h0 : 0 < t) (ht : t < p) (qa : mq_ p (a : Int) ((t : Int) ^ 4 * a0)) (qb : mq_ p (b : Int) ((t : Int) ^ 6 * b0)) (hx : x < p) (hy : y < p) (h : ec_on p a b x y) :
    ∃ x0 y0, x0 < p ∧ y0 < p ∧ ec_on p a0 b0 x0 y0 ∧ t * t * x0 % p = x ∧ t * t * t * y0 % p = y := by
  have b' := ec_P_b hp
  have hp0 : 0 < p := by omega
  obtain ⟨s, hs⟩ := ec_tt hp h0 ht
  have s2 : mq_ p ((t : Int) * s * (t * s)) 1 := mq_t (mq_m hs hs) (mq_e (by decide))
  have s3 : mq_ p ((t : Int) * s * (t * s) * (t * s)) 1 := mq_t (mq_m s2 hs) (mq_e (by decide))
  refine ⟨s * s * x % p, s * s * s * y % p, Nat.mod_lt _ hp0, Nat.mod_lt _ hp0, ?_, ?_, ?_⟩
  · rw [ec_on_q] at h ⊢
    have q1 := ec_x2 p s x
    have q2 := ec_y3 p s y
    have s4 : mq_ p ((t : Int) * s * (t * s) * (t * s * (t * s))) 1 := mq_t (mq_m s2 s2) (mq_e (by decide))
    have s6 : mq_ p ((t : Int) * s * (t * s) * (t * s) * (t * s * (t * s) * (t * s))) 1 := mq_t (mq_m s3 s3) (mq_e (by decide))
    refine mq_t (mq_m q2 q2) (mq_s (mq_t (mq_a (mq_a (mq_m q1 (mq_m q1 q1)) (mq_m (mq_r (x := (a0 : Int))) q1)) (mq_r (x := (b0 : Int)))) ?_))
    have h1 : mq_ p ((s : Int) ^ 6 * (y * y)) ((s : Int) ^ 6 * (x * (x * x) + a * x + b)) := mq_m mq_r h
    have h2 : mq_ p ((s : Int) ^ 6 * (x * (x * x) + a * x + b)) ((s : Int) ^ 6 * (x * (x * x) + (t : Int) ^ 4 * a0 * x + (t : Int) ^ 6 * b0)) := mq_m mq_r (mq_a (mq_a mq_r (mq_m qa mq_r)) qb)
    have e1 : (s : Int) ^ 6 * (x * (x * x) + (t : Int) ^ 4 * a0 * x + (t : Int) ^ 6 * b0) = (s : Int) * s * x * (s * s * x * (s * s * x)) + (t : Int) * s * (t * s) * (t * s * (t * s)) * (a0 * (s * s * x)) + (t : Int) * s * (t * s) * (t * s) * (t * s * (t * s) * (t * s)) * b0 := by grind
    have h3 : mq_ p ((s : Int) * s * x * (s * s * x * (s * s * x)) + (t : Int) * s * (t * s) * (t * s * (t * s)) * (a0 * (s * s * x)) + (t : Int) * s * (t * s) * (t * s) * (t * s * (t * s) * (t * s)) * b0) ((s : Int) * s * x * (s * s * x * (s * s * x)) + 1 * (a0 * (s * s * x)) + 1 * b0) := mq_a (mq_a mq_r (mq_m s4 mq_r)) (mq_m s6 mq_r)
    rw [e1] at h2
    rw [Int.one_mul, Int.one_mul] at h3
    have e2 : (s : Int) * s * s * y * (s * s * s * y) = (s : Int) ^ 6 * (y * y) := by grind
    rw [e2]
    exact mq_s (mq_t h1 (mq_t h2 h3))
  · refine mq_eq (Nat.mod_lt _ hp0) hx (mq_t (ec_x2 p t _) (mq_t (mq_m mq_r (ec_x2 p s x)) ?_))
    have e1 : (t : Int) * t * (s * s * x) = (t : Int) * s * (t * s) * x := by grind
    have h1 : mq_ p ((t : Int) * s * (t * s) * x) (1 * x) := mq_m s2 mq_r
    rw [Int.one_mul] at h1
    rw [e1]; exact h1
  · refine mq_eq (Nat.mod_lt _ hp0) hy (mq_t (ec_y3 p t _) (mq_t (mq_m mq_r (ec_y3 p s y)) ?_))
    have e1 : (t : Int) * t * t * (s * s * s * y) = (t : Int) * s * (t * s) * (t * s) * y := by grind
    have h1 : mq_ p ((t : Int) * s * (t * s) * (t * s) * y) (1 * y) := mq_m s3 mq_r
    rw [Int.one_mul] at h1
    rw [e1]; exact h1
theorem ec_mn {p : Nat} (hp : ec_P p) {x y : Int} (hx : ¬ mq_ p x 0) (hy : ¬ mq_ p y 0) : ¬ mq_ p (x * y) 0 := by
  intro z
  have e : x * 0 = 0 := Int.mul_zero x
  exact hy (mq_can hp hx (e.symm ▸ z))
theorem ec_T3 {p a b0 a0 t x y u v : Nat} (hp : ec_P p) (h0 : 0 < t) (ht : t < p) (qa : mq_ p (a : Int) ((t : Int) ^ 4 * a0)) (hx : x < p) (hy : y < p) (hu : u < p) (hv : v < p) (hP : ec_on p a0 b0 x y) (hQ : ec_on p a0 b0 u v) :
    ec_ad2 p a (t * t * x % p) (t * t * t * y % p) (t * t * u % p) (t * t * t * v % p) = ec_ph p t (ec_ad2 p a0 x y u v) := by
  have b := ec_P_b hp
  have hp0 : 0 < p := by omega
  have n1 := ec_tn h0 ht
  have n2 := ec_mn hp n1 n1
  have n3 := ec_mn hp n2 n1
  have qx := ec_x2 p t x
  have qu := ec_x2 p t u
  have qy := ec_y3 p t y
  have qv := ec_y3 p t v
  have kx : t * t * x % p = t * t * u % p → x = u := by
    intro e
    rw [e] at qx
    exact mq_eq hx hu (mq_can hp n2 (mq_t (mq_s qx) qu))
  have ks : mq_ p ((t * t * t * y % p + t * t * t * v % p : Nat) : Int) ((t : Int) * t * t * ((y : Int) + v)) := by
    have e : (t : Int) * t * t * ((y : Int) + v) = (t : Int) * t * t * y + (t : Int) * t * t * v := by grind
    rw [Int.natCast_add, e]
    exact mq_a qy qv
  by_cases hz : x = u ∧ (y + v) % p = 0
  · rw [ec_ad2_O hz.1 hz.2, ec_ph_0]
    refine ec_ad2_O (by rw [hz.1]) (mq_0.mp (mq_t ks ?_))
    have z : mq_ p ((y : Int) + v) 0 := by rw [← Int.natCast_add]; exact mq_0.mpr hz.2
    have e : (t : Int) * t * t * 0 = 0 := Int.mul_zero _
    have z1 := mq_m (mq_r (p := p) (x := (t : Int) * t * t)) z
    rwa [e] at z1
  · have ho : x = u → y = v := fun e => ec_opp hp hy hv hP (e ▸ hQ) (fun z => hz ⟨e, z⟩)
    obtain ⟨l, hl, s, e⟩ := ec_ad2_F (a := a0) hp hx hy hu hv hz ho
    have hz' : ¬ (t * t * x % p = t * t * u % p ∧ (t * t * t * y % p + t * t * t * v % p) % p = 0) := by
      rintro ⟨z1, z2⟩
      refine hz ⟨kx z1, ?_⟩
      have z3 := mq_t (mq_s ks) (mq_0.mpr z2)
      have e : (t : Int) * t * t * 0 = 0 := Int.mul_zero _
      have z4 : mq_ p ((y : Int) + v) 0 := mq_can hp n3 (e.symm ▸ z3)
      rw [← Int.natCast_add] at z4
      exact mq_0.mp z4
    have ho' : t * t * x % p = t * t * u % p → t * t * t * y % p = t * t * t * v % p := by
      intro z
      rw [ho (kx z)]
    have ql : mq_ p ((t * l % p : Nat) : Int) ((t : Int) * l) := by
      have h := mq_nm p (t * l)
      rwa [Int.natCast_mul] at h
    have s' : ec_sl p a (t * t * x % p) (t * t * t * y % p) (t * t * u % p) (t * t * t * v % p) (t * l % p) := by
      constructor
      · intro z
        have w := s.1 (kx z)
        have w1 : mq_ p ((t : Int) ^ 4 * (2 * y * l)) ((t : Int) ^ 4 * (3 * ((x : Int) * x) + a0)) := mq_m mq_r w
        have e1 : (2 * ((t : Int) * t * t * y)) * ((t : Int) * l) = (t : Int) ^ 4 * (2 * y * l) := by grind
        have e2 : 3 * (((t : Int) * t * x) * ((t : Int) * t * x)) + (t : Int) ^ 4 * a0 = (t : Int) ^ 4 * (3 * ((x : Int) * x) + a0) := by grind
        refine mq_t (mq_m (mq_m mq_r qy) ql) (mq_s (mq_t (mq_a (mq_m mq_r (mq_m qx qx)) qa) ?_))
        rw [e1, e2]
        exact mq_s w1
      · intro z
        have z' : x ≠ u := fun q => z (by rw [q])
        have w := s.2 z'
        have w1 : mq_ p ((t : Int) ^ 3 * (((u : Int) - x) * l)) ((t : Int) ^ 3 * ((v : Int) - y)) := mq_m mq_r w
        have e1 : ((t : Int) * t * u - (t : Int) * t * x) * ((t : Int) * l) = (t : Int) ^ 3 * (((u : Int) - x) * l) := by grind
        have e2 : (t : Int) * t * t * v - (t : Int) * t * t * y = (t : Int) ^ 3 * ((v : Int) - y) := by grind
        refine mq_t (mq_m (mq_d qu qx) ql) (mq_s (mq_t (mq_d qv qy) ?_))
        rw [e1, e2]
        exact mq_s w1
    rw [e, ec_adF hp (Nat.mod_lt _ hp0) (Nat.mod_lt _ hp0) (Nat.mod_lt _ hp0) (Nat.mod_lt _ hp0) hz' ho' (Nat.mod_lt _ hp0) s']
    have hr : ec_r p x u l < p := ec_m_lt hp0 _
    have hs : ec_s p x y (ec_r p x u l) l < p := ec_m_lt hp0 _
    have er : ec_r p (t * t * x % p) (t * t * u % p) (t * l % p) = t * t * ec_r p x u l % p := by
      refine ec_m_of (Nat.mod_lt _ hp0) (mq_t (ec_x2 p t _) ?_)
      have w : mq_ p ((t : Int) * t * ((ec_r p x u l : Nat) : Int)) ((t : Int) * t * ((l : Int) * l - x - u)) := mq_m mq_r (ec_m_q hp0 _)
      have e1 : (t : Int) * l * (t * l) - t * t * x - t * t * u = (t : Int) * t * ((l : Int) * l - x - u) := by grind
      refine mq_t w (mq_s (mq_t (mq_d (mq_d (mq_m ql ql) qx) qu) ?_))
      rw [e1]
      exact mq_r
    have es : ec_s p (t * t * x % p) (t * t * t * y % p) (t * t * ec_r p x u l % p) (t * l % p) = t * t * t * ec_s p x y (ec_r p x u l) l % p := by
      refine ec_m_of (Nat.mod_lt _ hp0) (mq_t (ec_y3 p t _) ?_)
      have w : mq_ p ((t : Int) * t * t * ((ec_s p x y (ec_r p x u l) l : Nat) : Int)) ((t : Int) * t * t * ((l : Int) * ((x : Int) - (ec_r p x u l : Nat)) - y)) := mq_m mq_r (ec_m_q hp0 _)
      have e1 : (t : Int) * l * ((t : Int) * t * x - (t : Int) * t * (ec_r p x u l : Nat)) - (t : Int) * t * t * y = (t : Int) * t * t * ((l : Int) * ((x : Int) - (ec_r p x u l : Nat)) - y) := by grind
      refine mq_t w (mq_s (mq_t (mq_d (mq_m ql (mq_d qx (ec_x2 p t _))) qy) ?_))
      rw [e1]
      exact mq_r
    show 64 * ec_r p (t * t * x % p) (t * t * u % p) (t * l % p) + ec_s p (t * t * x % p) (t * t * t * y % p) (ec_r p (t * t * x % p) (t * t * u % p) (t * l % p)) (t * l % p) = ec_ph p t (64 * ec_r p x u l + ec_s p x y (ec_r p x u l) l)
    rw [ec_ph_c b.2 hr hs, er, es]
theorem ec_carry {p a b a0 b0 t : Nat} (hp : ec_P p) (h0 : 0 < t) (ht : t < p) (ea : t ^ 4 * a0 % p = a) (eb : t ^ 6 * b0 % p = b) (h : ec_G p a0 b0) : ec_G p a b := by
  have b' := ec_P_b hp
  have hp0 : 0 < p := by omega
  have qa : mq_ p (a : Int) ((t : Int) ^ 4 * a0) := by
    have q := mq_nm p (t ^ 4 * a0)
    rw [ea, Int.natCast_mul, Int.natCast_pow] at q
    exact q
  have qb : mq_ p (b : Int) ((t : Int) ^ 6 * b0) := by
    have q := mq_nm p (t ^ 6 * b0)
    rw [eb, Int.natCast_mul, Int.natCast_pow] at q
    exact q
  have k1 : ∀ P, ec_pt p a0 b0 P → ec_pt p a b (ec_ph p t P) := by
    intro P hP
    by_cases n : P = 4095
    · rw [n, ec_ph_0]; exact Or.inl rfl
    · obtain ⟨x, y, hx, hy, e, ho⟩ := ec_pt_n hP n
      rw [e, ec_ph_c b'.2 hx hy]
      exact ec_pt_c b'.2 (Nat.mod_lt _ hp0) (Nat.mod_lt _ hp0) (ec_T1 qa qb ho)
  have k2 : ∀ Q, ec_pt p a b Q → ∃ P, ec_pt p a0 b0 P ∧ ec_ph p t P = Q := by
    intro Q hQ
    by_cases n : Q = 4095
    · exact ⟨4095, Or.inl rfl, by rw [n]; exact ec_ph_0 p t⟩
    · obtain ⟨x, y, hx, hy, e, ho⟩ := ec_pt_n hQ n
      obtain ⟨x0, y0, h1, h2, h3, h4, h5⟩ := ec_T2 hp h0 ht qa qb hx hy ho
      refine ⟨64 * x0 + y0, ec_pt_c b'.2 h1 h2 h3, ?_⟩
      rw [ec_ph_c b'.2 h1 h2, h4, h5, e]
  have k3 : ∀ P Q, ec_pt p a0 b0 P → ec_pt p a0 b0 Q → ec_ad p a (ec_ph p t P) (ec_ph p t Q) = ec_ph p t (ec_ad p a0 P Q) := by
    intro P Q hP hQ
    by_cases n : P = 4095
    · rw [n, ec_ph_0, ec_ad_0, ec_ad_0]
    · by_cases m : Q = 4095
      · rw [m, ec_ph_0, ec_ad_z, ec_ad_z]
      · obtain ⟨x, y, hx, hy, e, ho⟩ := ec_pt_n hP n
        obtain ⟨u, v, hu, hv, f, go⟩ := ec_pt_n hQ m
        rw [e, f, ec_ph_c b'.2 hx hy, ec_ph_c b'.2 hu hv, ec_ad_c b'.2 (Nat.mod_lt _ hp0) (Nat.mod_lt _ hp0) (Nat.mod_lt _ hp0) (Nat.mod_lt _ hp0), ec_ad_c b'.2 hx hy hu hv]
        exact ec_T3 hp h0 ht qa hx hy hu hv ho go
  refine ⟨?_, ?_⟩
  · intro P1 Q1 hP hQ
    obtain ⟨P, g1, rfl⟩ := k2 P1 hP
    obtain ⟨Q, g2, rfl⟩ := k2 Q1 hQ
    rw [k3 P Q g1 g2]
    exact k1 _ (h.1 P Q g1 g2)
  · intro P1 Q1 R1 hP hQ hR
    obtain ⟨P, g1, rfl⟩ := k2 P1 hP
    obtain ⟨Q, g2, rfl⟩ := k2 Q1 hQ
    obtain ⟨R, g3, rfl⟩ := k2 R1 hR
    rw [k3 P Q g1 g2, k3 Q R g2 g3, k3 _ R (h.1 P Q g1 g2) g3, k3 P _ g1 (h.1 Q R g2 g3), h.2 P Q R g1 g2 g3]
theorem ec_allof {p : Nat} {l : List Nat} (hp : ec_P p) (hK : ec_GL p l) (hC : ec_rep p l = true) {a b : Nat} (ha : a < p) (hb : b < p) (hn : (4 * (a * (a * a)) + 27 * (b * b)) % p ≠ 0) : ec_G p a b := by
  have b' := ec_P_b hp
  obtain ⟨c, t, hc, h0, ht, e1, e2⟩ := ec_rep_t (by omega) (by omega) hC ha hb hn
  exact ec_carry hp h0 ht e1 e2 (hK c hc)
theorem ec_every {p a b : Nat} (hp : ec_P p) (ha : a < p) (hb : b < p) (hn : (4 * (a * (a * a)) + 27 * (b * b)) % p ≠ 0) : ec_G p a b := by
  have h := hp
  rcases h with rfl | rfl | rfl | rfl | rfl | rfl | rfl | rfl | rfl | rfl | rfl | rfl | rfl | rfl | rfl | rfl
  · exact ec_allof hp ec_K5 ec_C5 ha hb hn
  · exact ec_allof hp ec_K7 ec_C7 ha hb hn
  · exact ec_allof hp ec_K11 ec_C11 ha hb hn
  · exact ec_allof hp ec_K13 ec_C13 ha hb hn
  · exact ec_allof hp ec_K17 ec_C17 ha hb hn
  · exact ec_allof hp ec_K19 ec_C19 ha hb hn
  · exact ec_allof hp ec_K23 ec_C23 ha hb hn
  · exact ec_allof hp ec_K29 ec_C29 ha hb hn
  · exact ec_allof hp ec_K31 ec_C31 ha hb hn
  · exact ec_allof hp ec_K37 ec_C37 ha hb hn
  · exact ec_allof hp ec_K41 ec_C41 ha hb hn
  · exact ec_allof hp ec_K43 ec_C43 ha hb hn
  · exact ec_allof hp ec_K47 ec_C47 ha hb hn
  · exact ec_allof hp ec_K53 ec_C53 ha hb hn
  · exact ec_allof hp ec_K59 ec_C59 ha hb hn
  · exact ec_allof hp ec_K61 ec_C61 ha hb hn
end
section
/-! a finite group on the indices below c: multiples, orders -/
def gp_ok (c : Nat) (S : Nat → Nat → Nat) : Prop := 0 < c ∧ (∀ i j, i < c → j < c → S i j < c) ∧ (∀ i, i < c → S 0 i = i) ∧ (∀ i, i < c → S i 0 = i) ∧ (∀ i j k, i < c → j < c → k < c → S (S i j) k = S i (S j k)) ∧ (∀ i, i < c → ∃ j, j < c ∧ S i j = 0)
def gp_mul (S : Nat → Nat → Nat) (i : Nat) : Nat → Nat
  | 0 => 0
  | m + 1 => S (gp_mul S i m) i
theorem gp_least (P : Nat → Prop) (h : ∃ k, P k) : ∃ k, P k ∧ ∀ j, j < k → ¬ P j := by
  obtain ⟨k, hk⟩ := h
  have q : ∀ n, ∀ m, m < n → P m → ∃ k, P k ∧ ∀ j, j < k → ¬ P j := by
    intro n
    induction n with
    | zero => intro m hm; exact absurd hm (Nat.not_lt_zero m)
    | succ n ih =>
      intro m hm pm
      by_cases e : ∃ j, j < m ∧ P j
      · obtain ⟨j, hj, pj⟩ := e
        exact ih j (by omega) pj
      · exact ⟨m, pm, fun j hj pj => e ⟨j, hj, pj⟩⟩
  exact q (k + 1) k (Nat.lt_succ_self k) hk
theorem gp_pig : ∀ (c : Nat) (f : Nat → Nat), (∀ k, k ≤ c → f k < c) → ∃ i j, i < j ∧ j ≤ c ∧ f i = f j := by
  intro c
  induction c with
  | zero => intro f h; exact absurd (h 0 (Nat.le_refl 0)) (Nat.not_lt_zero _)
  | succ c ih =>
    intro f h
    by_cases e : ∃ i, i ≤ c ∧ f i = f (c + 1)
    · obtain ⟨i, hi, q⟩ := e
      exact ⟨i, c + 1, by omega, Nat.le_refl _, q⟩
    · -- move the value c to the value f (c + 1)
      have g : ∀ k, k ≤ c → (if f k = c then f (c + 1) else f k) < c := by
        intro k hk
        have h1 := h k (by omega)
        have h2 := h (c + 1) (by omega)
        have h3 : f k ≠ f (c + 1) := fun z => e ⟨k, hk, z⟩
        by_cases w : f k = c
        · rw [if_pos w]; omega
        · rw [if_neg w]; omega
      obtain ⟨i, j, hij, hj, q⟩ := ih (fun k => if f k = c then f (c + 1) else f k) g
      refine ⟨i, j, hij, by omega, ?_⟩
      have q' : (if f i = c then f (c + 1) else f i) = (if f j = c then f (c + 1) else f j) := q
      have n1 : f i ≠ f (c + 1) := fun z => e ⟨i, by omega, z⟩
      have n2 : f j ≠ f (c + 1) := fun z => e ⟨j, hj, z⟩
      by_cases w : f i = c
      · by_cases w' : f j = c
        · rw [w, w']
        · rw [if_pos w, if_neg w'] at q'
          exact absurd q'.symm n2
      · by_cases w' : f j = c
        · rw [if_neg w, if_pos w'] at q'
          exact absurd q' n1
        · rwa [if_neg w, if_neg w'] at q'
theorem gp_lt {c : Nat} {S : Nat → Nat → Nat} (h : gp_ok c S) {i : Nat} (hi : i < c) (m : Nat) : gp_mul S i m < c := by
  induction m with
  | zero => exact h.1
  | succ m ih => exact h.2.1 _ _ ih hi
theorem gp_1 {c : Nat} {S : Nat → Nat → Nat} (h : gp_ok c S) {i : Nat} (hi : i < c) : gp_mul S i 1 = i := h.2.2.1 i hi
theorem gp_add {c : Nat} {S : Nat → Nat → Nat} (h : gp_ok c S) {i : Nat} (hi : i < c) (m n : Nat) : S (gp_mul S i m) (gp_mul S i n) = gp_mul S i (m + n) := by
  induction n with
  | zero => exact h.2.2.2.1 _ (gp_lt h hi m)
  | succ n ih =>
    show S (gp_mul S i m) (S (gp_mul S i n) i) = S (gp_mul S i (m + n)) i
    rw [← h.2.2.2.2.1 _ _ _ (gp_lt h hi m) (gp_lt h hi n) hi, ih]
theorem gp_can {c : Nat} {S : Nat → Nat → Nat} (h : gp_ok c S) {i x y : Nat} (hi : i < c) (hx : x < c) (hy : y < c) (e : S x i = S y i) : x = y := by
  obtain ⟨j, hj, z⟩ := h.2.2.2.2.2 i hi
  have q1 := h.2.2.2.2.1 x i j hx hi hj
  have q2 := h.2.2.2.2.1 y i j hy hi hj
  rw [z, h.2.2.2.1 _ hx] at q1
  rw [z, h.2.2.2.1 _ hy, ← e, q1] at q2
  exact q2
theorem gp_ex {c : Nat} {S : Nat → Nat → Nat} (h : gp_ok c S) {i : Nat} (hi : i < c) : ∃ e, 0 < e ∧ e ≤ c ∧ gp_mul S i e = 0 := by
  obtain ⟨m, n, hmn, hn, e⟩ := gp_pig c (fun k => gp_mul S i k) (fun k _ => gp_lt h hi k)
  have e' : gp_mul S i m = gp_mul S i n := e
  refine ⟨n - m, by omega, by omega, ?_⟩
  have q := gp_add h hi (n - m) m
  rw [show n - m + m = n by omega, ← e'] at q
  have z : S 0 (gp_mul S i m) = gp_mul S i m := h.2.2.1 _ (gp_lt h hi m)
  exact gp_can h (gp_lt h hi m) (gp_lt h hi _) h.1 (q.trans z.symm)
noncomputable def gp_ord (S : Nat → Nat → Nat) (i : Nat) : Nat := Classical.epsilon (fun k => (0 < k ∧ gp_mul S i k = 0) ∧ ∀ j, j < k → ¬ (0 < j ∧ gp_mul S i j = 0))
theorem gp_ord_s {c : Nat} {S : Nat → Nat → Nat} (h : gp_ok c S) {i : Nat} (hi : i < c) : 0 < gp_ord S i ∧ gp_ord S i ≤ c ∧ gp_mul S i (gp_ord S i) = 0 ∧ ∀ j, 0 < j → j < gp_ord S i → gp_mul S i j ≠ 0 := by
  obtain ⟨e, h0, hc, ez⟩ := gp_ex h hi
  have q := Classical.epsilon_spec (gp_least (fun k => 0 < k ∧ gp_mul S i k = 0) ⟨e, h0, ez⟩)
  have q' : (0 < gp_ord S i ∧ gp_mul S i (gp_ord S i) = 0) ∧ ∀ j, j < gp_ord S i → ¬ (0 < j ∧ gp_mul S i j = 0) := q
  refine ⟨q'.1.1, ?_, q'.1.2, fun j a b z => q'.2 j b ⟨a, z⟩⟩
  rcases Nat.lt_or_ge e (gp_ord S i) with g | g
  · exact absurd ⟨h0, ez⟩ (q'.2 e g)
  · omega
theorem gp_ord_u {c : Nat} {S : Nat → Nat → Nat} (h : gp_ok c S) {i e : Nat} (hi : i < c) (h0 : 0 < e) (hz : gp_mul S i e = 0) (hn : ∀ j, 0 < j → j < e → gp_mul S i j ≠ 0) : gp_ord S i = e := by
  obtain ⟨a1, a2, a3, a4⟩ := gp_ord_s h hi
  rcases Nat.lt_trichotomy (gp_ord S i) e with g | g | g
  · exact absurd a3 (hn _ a1 g)
  · exact g
  · exact absurd hz (a4 _ h0 g)
theorem gp_ord_0 {c : Nat} {S : Nat → Nat → Nat} (h : gp_ok c S) : gp_ord S 0 = 1 := gp_ord_u h h.1 (by omega) (gp_1 h h.1) (fun j a b => by omega)
theorem gp_per {c : Nat} {S : Nat → Nat → Nat} (h : gp_ok c S) {i : Nat} (hi : i < c) (q : Nat) : gp_mul S i (gp_ord S i * q) = 0 := by
  induction q with
  | zero => rfl
  | succ q ih =>
    rw [Nat.mul_succ, ← gp_add h hi, ih, h.2.2.1 _ (gp_lt h hi _)]
    exact (gp_ord_s h hi).2.2.1
theorem gp_mod {c : Nat} {S : Nat → Nat → Nat} (h : gp_ok c S) {i : Nat} (hi : i < c) (m : Nat) : gp_mul S i m = gp_mul S i (m % gp_ord S i) := by
  have e := gp_add h hi (gp_ord S i * (m / gp_ord S i)) (m % gp_ord S i)
  rw [Nat.div_add_mod, gp_per h hi, h.2.2.1 _ (gp_lt h hi _)] at e
  exact e.symm
theorem gp_zero {c : Nat} {S : Nat → Nat → Nat} (h : gp_ok c S) {i : Nat} (hi : i < c) (m : Nat) : gp_mul S i m = 0 ↔ m % gp_ord S i = 0 := by
  obtain ⟨a1, a2, a3, a4⟩ := gp_ord_s h hi
  rw [gp_mod h hi m]
  constructor
  · intro z
    rcases Nat.eq_zero_or_pos (m % gp_ord S i) with g | g
    · exact g
    · exact absurd z (a4 _ g (Nat.mod_lt _ a1))
  · intro z
    rw [z]; rfl
theorem gp_neg {c : Nat} {S : Nat → Nat → Nat} (h : gp_ok c S) {i j : Nat} (hi : i < c) (hj : j < c) (z : S i j = 0) : j = gp_mul S i (gp_ord S i - 1) := by
  obtain ⟨a1, a2, a3, a4⟩ := gp_ord_s h hi
  have e : S (gp_mul S i (gp_ord S i - 1)) i = 0 := by
    have q : gp_mul S i (gp_ord S i - 1 + 1) = 0 := by rw [Nat.sub_add_cancel a1]; exact a3
    exact q
  have q := h.2.2.2.2.1 _ _ _ (gp_lt h hi (gp_ord S i - 1)) hi hj
  rw [e, z, h.2.2.1 _ hj, h.2.2.2.1 _ (gp_lt h hi _)] at q
  exact q
theorem gp_neg2 {c : Nat} {S : Nat → Nat → Nat} (h : gp_ok c S) {i : Nat} (hi : i < c) : S i (gp_mul S i (gp_ord S i - 1)) = 0 := by
  obtain ⟨j, hj, z⟩ := h.2.2.2.2.2 i hi
  rw [← gp_neg h hi hj z]; exact z
theorem gp_mm {c : Nat} {S : Nat → Nat → Nat} (h : gp_ok c S) {i : Nat} (hi : i < c) (n k : Nat) : gp_mul S (gp_mul S i n) k = gp_mul S i (n * k) := by
  induction k with
  | zero => rfl
  | succ k ih =>
    show S (gp_mul S (gp_mul S i n) k) (gp_mul S i n) = _
    rw [ih, gp_add h hi, Nat.mul_succ]
/-- the multiple by an integer -/
noncomputable def gp_tm (S : Nat → Nat → Nat) (i : Nat) (e : Int) : Nat := gp_mul S i (ec_m (gp_ord S i) e)
theorem gp_tm_p {c : Nat} {S : Nat → Nat → Nat} (h : gp_ok c S) {i : Nat} (hi : i < c) (m : Nat) : gp_mul S i m = gp_tm S i (m : Int) := by
  unfold gp_tm
  rw [ec_m_n, ← gp_mod h hi]
theorem gp_tm_n {c : Nat} {S : Nat → Nat → Nat} (h : gp_ok c S) {i j : Nat} (hi : i < c) (hj : j < c) (z : S i j = 0) (m : Nat) : gp_mul S j m = gp_tm S i (-(m : Int)) := by
  obtain ⟨a1, a2, a3, a4⟩ := gp_ord_s h hi
  rw [gp_neg h hi hj z, gp_mm h hi, gp_tm_p h hi]
  unfold gp_tm
  refine congrArg _ (ec_m_e ⟨(m : Int), ?_⟩)
  have c1 : ((gp_ord S i - 1 : Nat) : Int) = (gp_ord S i : Int) - 1 := by omega
  rw [Int.natCast_mul, c1]
  grind
theorem gp_tm_lt {c : Nat} {S : Nat → Nat → Nat} (h : gp_ok c S) {i : Nat} (hi : i < c) (e : Int) : gp_tm S i e < c := gp_lt h hi _
theorem gp_tm_0 {c : Nat} {S : Nat → Nat → Nat} (h : gp_ok c S) {i : Nat} (hi : i < c) (m : Nat) : gp_tm S i (m : Int) = 0 ↔ m % gp_ord S i = 0 := by
  rw [← gp_tm_p h hi]; exact gp_zero h hi m
/-- how many below n -/
def gp_cn (f : Nat → Bool) : Nat → Nat
  | 0 => 0
  | n + 1 => gp_cn f n + (if f n = true then 1 else 0)
theorem gp_cn_le (f : Nat → Bool) (n : Nat) : gp_cn f n ≤ n := by
  induction n with
  | zero => exact Nat.le_refl 0
  | succ n ih =>
    show gp_cn f n + (if f n = true then 1 else 0) ≤ n + 1
    split <;> omega
theorem gp_cn_e {f g : Nat → Bool} (n : Nat) (h : ∀ k, k < n → f k = g k) : gp_cn f n = gp_cn g n := by
  induction n with
  | zero => rfl
  | succ n ih =>
    show gp_cn f n + (if f n = true then 1 else 0) = gp_cn g n + (if g n = true then 1 else 0)
    rw [ih (fun k hk => h k (by omega)), h n (by omega)]
theorem gp_cn_t {f : Nat → Bool} {n : Nat} (h : f n = true) : gp_cn f (n + 1) = gp_cn f n + 1 := by
  show gp_cn f n + (if f n = true then 1 else 0) = _
  rw [if_pos h]
theorem gp_cn_f {f : Nat → Bool} {n : Nat} (h : ¬ f n = true) : gp_cn f (n + 1) = gp_cn f n := by
  show gp_cn f n + (if f n = true then 1 else 0) = _
  rw [if_neg h, Nat.add_zero]
/-- the greatest order below n, and the first index that has it -/
noncomputable def gp_mx (S : Nat → Nat → Nat) : Nat → Nat
  | 0 => 0
  | n + 1 => if gp_mx S n < gp_ord S n then gp_ord S n else gp_mx S n
noncomputable def gp_gn (S : Nat → Nat → Nat) : Nat → Nat
  | 0 => 0
  | n + 1 => if gp_mx S n < gp_ord S n then n else gp_gn S n
theorem gp_mx_s (S : Nat → Nat → Nat) (n : Nat) : (∀ k, k < n → gp_ord S k ≤ gp_mx S n) ∧ (0 < n → gp_mx S n = 0 ∨ (gp_gn S n < n ∧ gp_ord S (gp_gn S n) = gp_mx S n ∧ ∀ k, k < gp_gn S n → gp_ord S k < gp_mx S n)) := by
  induction n with
  | zero => exact ⟨fun k hk => absurd hk (Nat.not_lt_zero k), fun h => absurd h (Nat.lt_irrefl 0)⟩
  | succ n ih =>
    by_cases g : gp_mx S n < gp_ord S n
    · have e1 : gp_mx S (n + 1) = gp_ord S n := if_pos g
      have e2 : gp_gn S (n + 1) = n := if_pos g
      rw [e1, e2]
      refine ⟨fun k hk => ?_, fun _ => Or.inr ⟨by omega, rfl, fun k hk => ?_⟩⟩
      · rcases Nat.lt_or_ge k n with q | q
        · have := ih.1 k q; omega
        · have e : k = n := by omega
          rw [e]; exact Nat.le_refl _
      · have := ih.1 k hk; omega
    · have e1 : gp_mx S (n + 1) = gp_mx S n := if_neg g
      have e2 : gp_gn S (n + 1) = gp_gn S n := if_neg g
      rw [e1, e2]
      refine ⟨fun k hk => ?_, fun _ => ?_⟩
      · rcases Nat.lt_or_ge k n with q | q
        · exact ih.1 k q
        · have e : k = n := by omega
          rw [e]; omega
      · rcases Nat.eq_zero_or_pos n with q | q
        · left; rw [q]; rfl
        · rcases ih.2 q with w | ⟨w1, w2, w3⟩
          · exact Or.inl w
          · exact Or.inr ⟨by omega, w2, w3⟩
theorem gp_mx_c {c : Nat} {S : Nat → Nat → Nat} (h : gp_ok c S) {n : Nat} (h0 : 0 < n) (hn : n ≤ c) : 0 < gp_mx S n ∧ gp_mx S n ≤ c ∧ gp_gn S n < n ∧ gp_ord S (gp_gn S n) = gp_mx S n ∧ ∀ k, k < gp_gn S n → gp_ord S k < gp_mx S n := by
  have q := gp_mx_s S n
  have h1 := q.1 0 h0
  rw [gp_ord_0 h] at h1
  rcases q.2 h0 with w | ⟨w1, w2, w3⟩
  · omega
  · have := (gp_ord_s h (i := gp_gn S n) (by omega)).2.1
    exact ⟨by omega, by omega, w1, w2, w3⟩
end
section
/-! the list of points, its indices, and their sum -/
def cg_n (p a b : Nat) : Prop := ec_P p ∧ a < p ∧ b < p ∧ (4 * (a * (a * a)) + 27 * (b * b)) % p ≠ 0
def cg_L (p a b c : Nat) (ax ay : Nat → Int32) : Prop := cg_n p a b ∧ 1 ≤ c ∧ c ≤ 123 ∧ (∀ k, 1 ≤ k → k < c → ∃ x y, x < p ∧ y < p ∧ ec_on p a b x y ∧ ax k = nI x ∧ ay k = nI y) ∧ (∀ x y, x < p → y < p → ec_on p a b x y → ∃ k, 1 ≤ k ∧ k < c ∧ ax k = nI x ∧ ay k = nI y) ∧ (∀ k l, 1 ≤ k → k < c → 1 ≤ l → l < c → ax k = ax l → ay k = ay l → k = l)
def cg_cd (ax ay : Nat → Int32) (k : Nat) : Nat := if k = 0 then 4095 else 64 * (ax k).toNatClampNeg + (ay k).toNatClampNeg
theorem cg_cd_0 (ax ay : Nat → Int32) : cg_cd ax ay 0 = 4095 := rfl
theorem cg_cd_n {ax ay : Nat → Int32} {k x y : Nat} (hk : 1 ≤ k) (hx : x < 61) (hy : y < 61) (ex : ax k = nI x) (ey : ay k = nI y) : cg_cd ax ay k = 64 * x + y := by
  unfold cg_cd
  rw [if_neg (by omega), ex, ey, nI_clamp (by omega), nI_clamp (by omega)]
theorem cg_at {p a b c : Nat} {ax ay : Nat → Int32} (h : cg_L p a b c ax ay) {k : Nat} (h1 : 1 ≤ k) (hk : k < c) : ∃ x y, x < p ∧ y < p ∧ ec_on p a b x y ∧ ax k = nI x ∧ ay k = nI y ∧ cg_cd ax ay k = 64 * x + y := by
  have b' := ec_P_b h.1.1
  obtain ⟨x, y, hx, hy, ho, ex, ey⟩ := h.2.2.2.1 k h1 hk
  exact ⟨x, y, hx, hy, ho, ex, ey, cg_cd_n h1 (by omega) (by omega) ex ey⟩
theorem cg_pt {p a b c : Nat} {ax ay : Nat → Int32} (h : cg_L p a b c ax ay) {k : Nat} (hk : k < c) : ec_pt p a b (cg_cd ax ay k) := by
  have b' := ec_P_b h.1.1
  rcases Nat.eq_zero_or_pos k with e | e
  · rw [e]; exact Or.inl rfl
  · obtain ⟨x, y, hx, hy, ho, ex, ey, ec⟩ := cg_at h e hk
    rw [ec]; exact ec_pt_c b'.2 hx hy ho
theorem cg_inj {p a b c : Nat} {ax ay : Nat → Int32} (h : cg_L p a b c ax ay) {k l : Nat} (hk : k < c) (hl : l < c) (e : cg_cd ax ay k = cg_cd ax ay l) : k = l := by
  have b' := ec_P_b h.1.1
  rcases Nat.eq_zero_or_pos k with q | q
  · rcases Nat.eq_zero_or_pos l with w | w
    · omega
    · obtain ⟨x, y, hx, hy, ho, ex, ey, ec⟩ := cg_at h w hl
      rw [q, cg_cd_0, ec] at e
      omega
  · obtain ⟨x, y, hx, hy, ho, ex, ey, ec⟩ := cg_at h q hk
    rcases Nat.eq_zero_or_pos l with w | w
    · rw [w, cg_cd_0, ec] at e
      omega
    · obtain ⟨u, v, hu, hv, go, eu, ev, ed⟩ := cg_at h w hl
      rw [ec, ed] at e
      have e1 : x = u := by omega
      have e2 : y = v := by omega
      exact h.2.2.2.2.2 k l q hk w hl (by rw [ex, eu, e1]) (by rw [ey, ev, e2])
theorem cg_sur {p a b c : Nat} {ax ay : Nat → Int32} (h : cg_L p a b c ax ay) {P : Nat} (hP : ec_pt p a b P) : ∃ k, k < c ∧ cg_cd ax ay k = P := by
  have b' := ec_P_b h.1.1
  by_cases n : P = 4095
  · have := h.2.1
    exact ⟨0, by omega, by rw [n]; rfl⟩
  · obtain ⟨x, y, hx, hy, e, ho⟩ := ec_pt_n hP n
    obtain ⟨k, h1, hk, ex, ey⟩ := h.2.2.2.2.1 x y hx hy ho
    exact ⟨k, hk, by rw [e]; exact cg_cd_n h1 (by omega) (by omega) ex ey⟩
noncomputable def cg_S (p a c : Nat) (ax ay : Nat → Int32) (i j : Nat) : Nat := Classical.epsilon (fun k => k < c ∧ cg_cd ax ay k = ec_ad p a (cg_cd ax ay i) (cg_cd ax ay j))
theorem cg_G {p a b c : Nat} {ax ay : Nat → Int32} (h : cg_L p a b c ax ay) : ec_G p a b := ec_every h.1.1 h.1.2.1 h.1.2.2.1 h.1.2.2.2
theorem cg_S_s {p a b c : Nat} {ax ay : Nat → Int32} (h : cg_L p a b c ax ay) {i j : Nat} (hi : i < c) (hj : j < c) : cg_S p a c ax ay i j < c ∧ cg_cd ax ay (cg_S p a c ax ay i j) = ec_ad p a (cg_cd ax ay i) (cg_cd ax ay j) :=
  Classical.epsilon_spec (cg_sur h ((cg_G h).1 _ _ (cg_pt h hi) (cg_pt h hj)))
theorem cg_S_u {p a b c : Nat} {ax ay : Nat → Int32} (h : cg_L p a b c ax ay) {i j k : Nat} (hi : i < c) (hj : j < c) (hk : k < c) (e : cg_cd ax ay k = ec_ad p a (cg_cd ax ay i) (cg_cd ax ay j)) : cg_S p a c ax ay i j = k :=
  cg_inj h (cg_S_s h hi hj).1 hk ((cg_S_s h hi hj).2.trans e.symm)
theorem cg_on_neg {p a b x y : Nat} (hp : 0 < p) (hy : y < p) (h : ec_on p a b x y) : ec_on p a b x ((p - y) % p) := by
  rw [ec_on_q] at h ⊢
  refine mq_t ?_ h
  have q : mq_ p (((p - y) % p : Nat) : Int) (-(y : Int)) := by
    refine mq_t (mq_nm p (p - y)) ⟨1, ?_⟩
    omega
  refine mq_t (mq_m q q) (mq_e ?_)
  grind
theorem cg_neg_0 {p y : Nat} (hy : y < p) : (y + (p - y) % p) % p = 0 := by
  rcases Nat.eq_zero_or_pos y with e | e
  · rw [e, Nat.sub_zero, Nat.mod_self]; exact Nat.zero_mod p
  · rw [Nat.mod_eq_of_lt (show p - y < p by omega), show y + (p - y) = p by omega, Nat.mod_self]
theorem cg_S_n {p a b c : Nat} {ax ay : Nat → Int32} (h : cg_L p a b c ax ay) {i j x y u v : Nat} (hi : i < c) (hj : j < c) (h1 : 1 ≤ i) (h2 : 1 ≤ j) (hx : x < p) (hy : y < p) (hu : u < p) (hv : v < p) (ex : ax i = nI x) (ey : ay i = nI y) (eu : ax j = nI u) (ev : ay j = nI v) :
    ec_ad p a (cg_cd ax ay i) (cg_cd ax ay j) = ec_ad2 p a x y u v := by
  have b' := ec_P_b h.1.1
  rw [cg_cd_n h1 (by omega) (by omega) ex ey, cg_cd_n h2 (by omega) (by omega) eu ev, ec_ad_c b'.2 hx hy hu hv]
theorem cg_ok {p a b c : Nat} {ax ay : Nat → Int32} (h : cg_L p a b c ax ay) : gp_ok c (cg_S p a c ax ay) := by
  have b' := ec_P_b h.1.1
  have c0 : 0 < c := h.2.1
  refine ⟨c0, fun i j hi hj => (cg_S_s h hi hj).1, fun i hi => ?_, fun i hi => ?_, fun i j k hi hj hk => ?_, fun i hi => ?_⟩
  · exact cg_S_u h c0 hi hi (by rw [cg_cd_0, ec_ad_0])
  · exact cg_S_u h hi c0 hi (by rw [cg_cd_0, ec_ad_z])
  · have s1 := cg_S_s h hi hj
    have s2 := cg_S_s h hj hk
    have s3 := cg_S_s h hi s2.1
    refine cg_S_u h s1.1 hk s3.1 ?_
    rw [s3.2, s2.2, s1.2]
    exact ((cg_G h).2 _ _ _ (cg_pt h hi) (cg_pt h hj) (cg_pt h hk)).symm
  · rcases Nat.eq_zero_or_pos i with e | e
    · exact ⟨0, c0, by rw [e]; exact cg_S_u h c0 c0 c0 (by rw [cg_cd_0, ec_ad_0])⟩
    · obtain ⟨x, y, hx, hy, ho, ex, ey, ec⟩ := cg_at h e hi
      have hm : (p - y) % p < p := Nat.mod_lt _ (by omega)
      obtain ⟨j, h1, hj, ex', ey'⟩ := h.2.2.2.2.1 x _ hx hm (cg_on_neg (by omega) hy ho)
      refine ⟨j, hj, cg_S_u h hi hj c0 ?_⟩
      rw [cg_S_n h hi hj e h1 hx hy hx hm ex ey ex' ey', cg_cd_0]
      exact (ec_ad2_O rfl (cg_neg_0 hy)).symm
/-- the sum of two points that are not the zero point -/
theorem cg_S_O {p a b c : Nat} {ax ay : Nat → Int32} (h : cg_L p a b c ax ay) {i j x y u v : Nat} (hi : i < c) (hj : j < c) (h1 : 1 ≤ i) (h2 : 1 ≤ j) (hx : x < p) (hy : y < p) (hu : u < p) (hv : v < p) (ex : ax i = nI x) (ey : ay i = nI y) (eu : ax j = nI u) (ev : ay j = nI v) (z : x = u) (z2 : (y + v) % p = 0) : cg_S p a c ax ay i j = 0 := by
  refine cg_S_u h hi hj h.2.1 ?_
  rw [cg_S_n h hi hj h1 h2 hx hy hu hv ex ey eu ev, cg_cd_0]
  exact (ec_ad2_O z z2).symm
theorem cg_S_F {p a b c : Nat} {ax ay : Nat → Int32} (h : cg_L p a b c ax ay) {i j x y u v : Nat} (hi : i < c) (hj : j < c) (h1 : 1 ≤ i) (h2 : 1 ≤ j) (hx : x < p) (hy : y < p) (hu : u < p) (hv : v < p) (ex : ax i = nI x) (ey : ay i = nI y) (eu : ax j = nI u) (ev : ay j = nI v) (hz : ¬ (x = u ∧ (y + v) % p = 0)) :
    ∃ l, l < p ∧ ec_sl p a x y u v l ∧ (∀ l', l' < p → ec_sl p a x y u v l' → l' = l) ∧ 1 ≤ cg_S p a c ax ay i j ∧ cg_S p a c ax ay i j < c ∧ ax (cg_S p a c ax ay i j) = nI (ec_r p x u l) ∧ ay (cg_S p a c ax ay i j) = nI (ec_s p x y (ec_r p x u l) l) := by
  have hp := h.1.1
  have b' := ec_P_b hp
  have oi : ec_on p a b x y := by
    obtain ⟨x', y', hx', hy', ho, ex', ey', _⟩ := cg_at h h1 hi
    rw [ex, nI_eq (by omega) (by omega)] at ex'
    rw [ey, nI_eq (by omega) (by omega)] at ey'
    rw [ex', ey']; exact ho
  have oj : ec_on p a b u v := by
    obtain ⟨x', y', hx', hy', ho, ex', ey', _⟩ := cg_at h h2 hj
    rw [eu, nI_eq (by omega) (by omega)] at ex'
    rw [ev, nI_eq (by omega) (by omega)] at ey'
    rw [ex', ey']; exact ho
  have ho : x = u → y = v := fun e => ec_opp hp hy hv oi (e ▸ oj) (fun z => hz ⟨e, z⟩)
  obtain ⟨l, hl, s, e⟩ := ec_ad2_F (a := a) hp hx hy hu hv hz ho
  have ss := cg_S_s h hi hj
  rw [cg_S_n h hi hj h1 h2 hx hy hu hv ex ey eu ev, e] at ss
  have hr : ec_r p x u l < p := ec_m_lt (by omega) _
  have hs : ec_s p x y (ec_r p x u l) l < p := ec_m_lt (by omega) _
  have eF : ec_F p x y u l = 64 * ec_r p x u l + ec_s p x y (ec_r p x u l) l := rfl
  have n0 : 1 ≤ cg_S p a c ax ay i j := by
    rcases Nat.eq_zero_or_pos (cg_S p a c ax ay i j) with q | q
    · have w := ss.2
      rw [q, cg_cd_0, eF] at w
      omega
    · exact q
  refine ⟨l, hl, s, fun l' hl' s' => ec_sl_u hp hx hu hz ho hl' hl s' s, n0, ss.1, ?_⟩
  obtain ⟨x', y', hx', hy', _, ex', ey', ec'⟩ := cg_at h n0 ss.1
  have w := ss.2
  rw [ec', eF] at w
  have e1 : x' = ec_r p x u l := by omega
  have e2 : y' = ec_s p x y (ec_r p x u l) l := by omega
  rw [ex', ey', e1, e2]
  exact ⟨rfl, rfl⟩
end
section
/-! small integers as Int32: the remainders of both sides -/
def zi_ (k : Int) : Int32 := Int32.ofInt k
theorem zi_n (n : Nat) : nI n = zi_ (n : Int) := Int32.ofInt_eq_ofNat.symm
theorem zi_add (a b : Int) : zi_ a + zi_ b = zi_ (a + b) := (Int32.ofInt_add a b).symm
theorem zi_sub (a b : Int) : zi_ a - zi_ b = zi_ (a - b) := (Int32.ofInt_sub a b).symm
theorem zi_mul (a b : Int) : zi_ a * zi_ b = zi_ (a * b) := (Int32.ofInt_mul a b).symm
theorem zi_neg (a : Int) : -zi_ a = zi_ (-a) := (Int32.ofInt_neg a).symm
def zi_in (k : Int) : Prop := -1000000000 ≤ k ∧ k ≤ 1000000000
theorem zi_toInt {k : Int} (h : zi_in k) : (zi_ k).toInt = k := Int32.toInt_ofInt_of_le (by unfold zi_in at h; omega) (by unfold zi_in at h; omega)
theorem zi_inj {a b : Int} (ha : zi_in a) (hb : zi_in b) : zi_ a = zi_ b ↔ a = b := by
  constructor
  · intro h
    have e := congrArg Int32.toInt h
    rwa [zi_toInt ha, zi_toInt hb] at e
  · intro h; rw [h]
theorem zi_lt {a b : Int} (ha : zi_in a) (hb : zi_in b) : zi_ a < zi_ b ↔ a < b := by
  rw [Int32.lt_iff_toInt_lt, zi_toInt ha, zi_toInt hb]
theorem zi_le {a b : Int} (ha : zi_in a) (hb : zi_in b) : zi_ a ≤ zi_ b ↔ a ≤ b := by
  rw [Int32.le_iff_toInt_le, zi_toInt ha, zi_toInt hb]
theorem zi_div {a b : Int} (ha : zi_in a) (hb : zi_in b) : zi_ a / zi_ b = zi_ (a.tdiv b) := by
  have m1 : Int32.minValue.toInt = -2147483648 := by decide
  have m2 : Int32.maxValue.toInt = 2147483647 := by decide
  unfold zi_in at ha hb
  exact (Int32.ofInt_tdiv (by omega) (by omega) (by omega) (by omega)).symm
theorem zi_rem {a b : Int} (ha : zi_in a) (hb : zi_in b) : zi_ a - zi_ a / zi_ b * zi_ b = zi_ (a.tmod b) := by
  rw [zi_div ha hb, zi_mul, zi_sub, Int.tmod_def, Int.mul_comm]
theorem zi_pin {p : Nat} (hp : p ≤ 1000) : zi_in (p : Int) := by unfold zi_in; omega
theorem zi_tb {p : Nat} (h0 : 0 < p) (a : Int) : -(p : Int) < a.tmod p ∧ a.tmod p < p := ⟨Int.lt_tmod_of_pos a (by omega), Int.tmod_lt_of_pos a (by omega)⟩
theorem zi_tq (p : Nat) (a : Int) : mq_ p (a.tmod p) a := ⟨-(a.tdiv p), by rw [Int.tmod_def]; grind⟩
/-- the remainder that has the dividend's sign -/
theorem zi_r1 {p : Nat} {a : Int} (hp : p ≤ 1000) (ha : zi_in a) : zi_ a - zi_ a / nI p * nI p = zi_ (a.tmod p) := by
  rw [zi_n]; exact zi_rem ha (zi_pin hp)
/-- the reference's rest -/
theorem zi_rs {p : Nat} {a : Int} (h0 : 0 < p) (hp : p ≤ 1000) (ha : zi_in a) : (zi_ a - zi_ a / nI p * nI p + nI p) - (zi_ a - zi_ a / nI p * nI p + nI p) / nI p * nI p = nI (ec_m p a) := by
  have b := zi_tb h0 a
  rw [zi_r1 hp ha]
  have e : zi_ (a.tmod p) + nI p = zi_ (a.tmod p + p) := by rw [zi_n, zi_add]
  rw [e, zi_r1 hp (by unfold zi_in; omega), zi_n]
  have q : mq_ p ((a.tmod p + p).tmod p) a := mq_t (zi_tq p _) (mq_t (mq_a (zi_tq p a) (⟨1, by grind⟩ : mq_ p (p : Int) 0)) (mq_e (Int.add_zero a)))
  have n : 0 ≤ (a.tmod p + p).tmod p := Int.tmod_nonneg _ (by omega)
  have l := (zi_tb h0 (a.tmod p + p)).2
  refine congrArg zi_ ?_
  have e1 : (((a.tmod p + p).tmod p).toNat : Int) = (a.tmod p + p).tmod p := Int.toNat_of_nonneg n
  have e2 : ec_m p a = ((a.tmod p + p).tmod p).toNat := ec_m_of (by omega) (by rw [e1]; exact q)
  rw [e2, e1]
/-- the component's reduced -/
theorem zi_rdn {p : Nat} {a : Int} (h0 : 0 < p) (hp : p ≤ 1000) (n : a.tmod p < 0) : zi_ (a.tmod p) + nI p = nI (ec_m p a) := by
  have b := zi_tb h0 a
  rw [zi_n, zi_n, zi_add]
  refine congrArg zi_ ?_
  have e1 : ((a.tmod p + p).toNat : Int) = a.tmod p + p := Int.toNat_of_nonneg (by omega)
  have q : mq_ p (a.tmod p + p) a := mq_t (mq_a (zi_tq p a) (⟨1, by grind⟩ : mq_ p (p : Int) 0)) (mq_e (Int.add_zero a))
  have e2 : ec_m p a = (a.tmod p + p).toNat := ec_m_of (by omega) (by rw [e1]; exact q)
  rw [e2, e1]
theorem zi_rdp {p : Nat} {a : Int} (h0 : 0 < p) (n : ¬ a.tmod p < 0) : zi_ (a.tmod p) = nI (ec_m p a) := by
  have b := zi_tb h0 a
  rw [zi_n]
  refine congrArg zi_ ?_
  have e1 : ((a.tmod p).toNat : Int) = a.tmod p := Int.toNat_of_nonneg (by omega)
  have e2 : ec_m p a = (a.tmod p).toNat := ec_m_of (by omega) (by rw [e1]; exact zi_tq p a)
  rw [e2, e1]
theorem zi_neg0 {p : Nat} {a : Int} (h0 : 0 < p) (hp : p ≤ 1000) : zi_ (a.tmod p) < 0 ↔ a.tmod p < 0 := by
  have b := zi_tb h0 a
  have z : (0 : Int32) = zi_ 0 := by decide
  rw [z]
  exact zi_lt (by unfold zi_in; omega) (by unfold zi_in; omega)
end
section
/-! the list as it grows: all points before (x, y) stand in it, and no others -/
theorem ec_sq2 {p : Nat} (h : ec_P p) : ∀ t, t < p → gp_cn (fun z => Nat.beq (z * z % p) t) p ≤ 2 := by
  rcases h with rfl | rfl | rfl | rfl | rfl | rfl | rfl | rfl | rfl | rfl | rfl | rfl | rfl | rfl | rfl | rfl <;> decide +kernel
theorem ec_on2 {p a b x : Nat} (h : ec_P p) : gp_cn (fun z => ec_onb p a b x z) p ≤ 2 := by
  have b' := ec_P_b h
  exact ec_sq2 h ((x * (x * x) + a * x + b) % p) (Nat.mod_lt _ (by omega))
theorem gp_cn_mono (f : Nat → Bool) {m n : Nat} (h : m ≤ n) : gp_cn f m ≤ gp_cn f n := by
  induction n with
  | zero => rw [show m = 0 by omega]; exact Nat.le_refl _
  | succ n ih =>
    rcases Nat.lt_or_ge n m with g | g
    · rw [show m = n + 1 by omega]; exact Nat.le_refl _
    · have q := ih g
      have w : gp_cn f n ≤ gp_cn f (n + 1) := Nat.le_add_right _ _
      omega
def cg_I (p a b x y c : Nat) (ax ay : Nat → Int32) : Prop := 1 ≤ c ∧ c ≤ 1 + 2 * x + gp_cn (fun z => ec_onb p a b x z) y ∧ (∀ k, 1 ≤ k → k < c → ∃ x' y', x' < p ∧ y' < p ∧ ec_on p a b x' y' ∧ ax k = nI x' ∧ ay k = nI y' ∧ (x' < x ∨ (x' = x ∧ y' < y))) ∧ (∀ x' y', x' < p → y' < p → ec_on p a b x' y' → (x' < x ∨ (x' = x ∧ y' < y)) → ∃ k, 1 ≤ k ∧ k < c ∧ ax k = nI x' ∧ ay k = nI y') ∧ (∀ k l, 1 ≤ k → k < c → 1 ≤ l → l < c → ax k = ax l → ay k = ay l → k = l)
theorem cg_I_0 (p a b : Nat) (ax ay : Nat → Int32) : cg_I p a b 0 0 1 ax ay :=
  ⟨by omega, by omega, fun k h1 h2 => by omega, fun x' y' h1 h2 h3 h4 => by omega, fun k l h1 h2 h3 h4 h5 h6 => by omega⟩
theorem cg_us {f : Nat → Int32} {k : Nat} {x : Int32} : upd f k x k = x := if_pos rfl
theorem cg_un {f : Nat → Int32} {k j : Nat} {x : Int32} (h : j ≠ k) : upd f k x j = f j := if_neg h
theorem cg_I_c {p a b x y c : Nat} {ax ay : Nat → Int32} (hp : ec_P p) (hx : x < p) (hy : y < p) (ho : ec_on p a b x y) (h : cg_I p a b x y c ax ay) : c < 123 := by
  have b' := ec_P_b hp
  have q1 : gp_cn (fun z => ec_onb p a b x z) (y + 1) = gp_cn (fun z => ec_onb p a b x z) y + 1 := gp_cn_t (ec_onb_t.mpr ho)
  have q2 := gp_cn_mono (fun z => ec_onb p a b x z) (show y + 1 ≤ p by omega)
  have q3 := ec_on2 (a := a) (b := b) (x := x) hp
  have q4 := h.2.1
  omega
theorem cg_I_on {p a b x y c : Nat} {ax ay : Nat → Int32} (hp : ec_P p) (hx : x < p) (hy : y < p) (ho : ec_on p a b x y) (h : cg_I p a b x y c ax ay) : cg_I p a b x (y + 1) (c + 1) (upd ax c (nI x)) (upd ay c (nI y)) := by
  have b' := ec_P_b hp
  obtain ⟨h1, h2, h3, h4, h5⟩ := h
  have q1 : gp_cn (fun z => ec_onb p a b x z) (y + 1) = gp_cn (fun z => ec_onb p a b x z) y + 1 := gp_cn_t (ec_onb_t.mpr ho)
  have new : ∀ k, 1 ≤ k → k < c → ¬ (upd ax c (nI x) k = nI x ∧ upd ay c (nI y) k = nI y) := by
    rintro k k1 k2 ⟨e1, e2⟩
    rw [cg_un (by omega)] at e1 e2
    obtain ⟨x', y', g1, g2, g3, g4, g5, g6⟩ := h3 k k1 k2
    rw [g4, nI_eq (by omega) (by omega)] at e1
    rw [g5, nI_eq (by omega) (by omega)] at e2
    omega
  refine ⟨by omega, by omega, ?_, ?_, ?_⟩
  · intro k k1 k2
    rcases Nat.lt_or_ge k c with g | g
    · obtain ⟨x', y', g1, g2, g3, g4, g5, g6⟩ := h3 k k1 g
      refine ⟨x', y', g1, g2, g3, ?_, ?_, by omega⟩
      · rw [cg_un (by omega)]; exact g4
      · rw [cg_un (by omega)]; exact g5
    · have e : k = c := by omega
      rw [e]
      exact ⟨x, y, hx, hy, ho, cg_us, cg_us, by omega⟩
  · intro x' y' g1 g2 g3 g4
    by_cases e : x' = x ∧ y' = y
    · rw [e.1, e.2]
      exact ⟨c, h1, by omega, cg_us, cg_us⟩
    · obtain ⟨k, k1, k2, e1, e2⟩ := h4 x' y' g1 g2 g3 (by omega)
      refine ⟨k, k1, by omega, ?_, ?_⟩
      · rw [cg_un (by omega)]; exact e1
      · rw [cg_un (by omega)]; exact e2
  · intro k l k1 k2 l1 l2 e1 e2
    rcases Nat.lt_or_ge k c with g | g
    · rcases Nat.lt_or_ge l c with w | w
      · rw [cg_un (by omega), cg_un (by omega)] at e1 e2
        exact h5 k l k1 g l1 w e1 e2
      · have e : l = c := by omega
        rw [e, cg_us] at e1 e2
        exact absurd ⟨e1, e2⟩ (new k k1 g)
    · have e : k = c := by omega
      rcases Nat.lt_or_ge l c with w | w
      · rw [e, cg_us] at e1 e2
        exact absurd ⟨e1.symm, e2.symm⟩ (new l l1 w)
      · omega
theorem cg_I_off {p a b x y c : Nat} {ax ay : Nat → Int32} (ho : ¬ ec_on p a b x y) (h : cg_I p a b x y c ax ay) : cg_I p a b x (y + 1) c ax ay := by
  obtain ⟨h1, h2, h3, h4, h5⟩ := h
  have q1 : gp_cn (fun z => ec_onb p a b x z) (y + 1) = gp_cn (fun z => ec_onb p a b x z) y := gp_cn_f (fun z => ho (ec_onb_t.mp z))
  refine ⟨h1, by omega, ?_, ?_, h5⟩
  · intro k k1 k2
    obtain ⟨x', y', g1, g2, g3, g4, g5, g6⟩ := h3 k k1 k2
    exact ⟨x', y', g1, g2, g3, g4, g5, by omega⟩
  · intro x' y' g1 g2 g3 g4
    by_cases e : x' = x ∧ y' = y
    · rw [e.1, e.2] at g3
      exact absurd g3 ho
    · exact h4 x' y' g1 g2 g3 (by omega)
theorem cg_I_row {p a b x c : Nat} {ax ay : Nat → Int32} (hp : ec_P p) (h : cg_I p a b x p c ax ay) : cg_I p a b (x + 1) 0 c ax ay := by
  obtain ⟨h1, h2, h3, h4, h5⟩ := h
  have q3 := ec_on2 (a := a) (b := b) (x := x) hp
  refine ⟨h1, by omega, ?_, ?_, h5⟩
  · intro k k1 k2
    obtain ⟨x', y', g1, g2, g3, g4, g5, g6⟩ := h3 k k1 k2
    exact ⟨x', y', g1, g2, g3, g4, g5, by omega⟩
  · intro x' y' g1 g2 g3 g4
    exact h4 x' y' g1 g2 g3 (by omega)
theorem cg_I_end {p a b c : Nat} {ax ay : Nat → Int32} (hn : cg_n p a b) (h : cg_I p a b p 0 c ax ay) : cg_L p a b c ax ay := by
  have b' := ec_P_b hn.1
  obtain ⟨h1, h2, h3, h4, h5⟩ := h
  have q : gp_cn (fun z => ec_onb p a b p z) 0 = 0 := rfl
  refine ⟨hn, h1, by omega, ?_, ?_, h5⟩
  · intro k k1 k2
    obtain ⟨x', y', g1, g2, g3, g4, g5, g6⟩ := h3 k k1 k2
    exact ⟨x', y', g1, g2, g3, g4, g5⟩
  · intro x' y' g1 g2 g3
    exact h4 x' y' g1 g2 g3 (by omega)
/-! squares -/
noncomputable def cg_sq (p g : Nat) : Bool := Nat.beq (gp_cn (fun z => Nat.beq (z * z % p) (g % p)) p) 0
theorem gp_cn_0 {f : Nat → Bool} {n : Nat} : gp_cn f n = 0 ↔ ∀ k, k < n → ¬ f k = true := by
  induction n with
  | zero => exact ⟨fun _ k hk => absurd hk (Nat.not_lt_zero k), fun _ => rfl⟩
  | succ n ih =>
    constructor
    · intro h k hk
      have w : gp_cn f n ≤ gp_cn f (n + 1) := Nat.le_add_right _ _
      rcases Nat.lt_or_ge k n with g | g
      · exact ih.mp (by omega) k g
      · rw [show k = n by omega]
        intro z
        rw [gp_cn_t z] at h
        omega
    · intro h
      rw [gp_cn_f (h n (by omega))]
      exact ih.mpr (fun k hk => h k (by omega))
theorem cg_sq_t {p g : Nat} : cg_sq p g = true ↔ ∀ z, z < p → ¬ z * z % p = g % p := by
  constructor
  · intro h z hz e
    exact gp_cn_0.mp (Nat.eq_of_beq_eq_true h) z hz (by rw [e]; exact Nat.beq_refl _)
  · intro h
    have e : gp_cn (fun z => Nat.beq (z * z % p) (g % p)) p = 0 := gp_cn_0.mpr (fun z hz w => h z hz (Nat.eq_of_beq_eq_true w))
    unfold cg_sq
    rw [e]; rfl
theorem cg_ns {p : Nat} (h : ec_P p) : ∃ g, 1 < g ∧ g < p - 1 ∧ cg_sq p g = true := by
  rcases h with rfl | rfl | rfl | rfl | rfl | rfl | rfl | rfl | rfl | rfl | rfl | rfl | rfl | rfl | rfl | rfl
  · exact ⟨2, by decide +kernel⟩
  · exact ⟨3, by decide +kernel⟩
  · exact ⟨2, by decide +kernel⟩
  · exact ⟨2, by decide +kernel⟩
  · exact ⟨3, by decide +kernel⟩
  · exact ⟨2, by decide +kernel⟩
  · exact ⟨5, by decide +kernel⟩
  · exact ⟨2, by decide +kernel⟩
  · exact ⟨3, by decide +kernel⟩
  · exact ⟨2, by decide +kernel⟩
  · exact ⟨3, by decide +kernel⟩
  · exact ⟨2, by decide +kernel⟩
  · exact ⟨5, by decide +kernel⟩
  · exact ⟨2, by decide +kernel⟩
  · exact ⟨2, by decide +kernel⟩
  · exact ⟨2, by decide +kernel⟩
end
section
/-! numbers of the walks; the small methods of both sides -/
theorem zb_m {a b : Int} {A B : Nat} (h : a.natAbs ≤ A) (g : b.natAbs ≤ B) : (a * b).natAbs ≤ A * B := by
  rw [Int.natAbs_mul]; exact Nat.mul_le_mul h g
theorem zb_a {a b : Int} {A B : Nat} (h : a.natAbs ≤ A) (g : b.natAbs ≤ B) : (a + b).natAbs ≤ A + B := Nat.le_trans (Int.natAbs_add_le a b) (Nat.add_le_add h g)
theorem zb_s {a b : Int} {A B : Nat} (h : a.natAbs ≤ A) (g : b.natAbs ≤ B) : (a - b).natAbs ≤ A + B := Nat.le_trans (Int.natAbs_sub_le a b) (Nat.add_le_add h g)
theorem zb_n {x N : Nat} (h : x < N) : (x : Int).natAbs ≤ N := by omega
theorem zb_in {z : Int} {M : Nat} (h : z.natAbs ≤ M) (hM : M ≤ 1000000000) : zi_in z := by unfold zi_in; omega
theorem wk_sub {a b : Nat} (h : b ≤ a) : nI a - nI b = nI (a - b) := (Int32.ofNat_sub a b h).symm
theorem wk_mul (a b : Nat) : nI a * nI b = nI (a * b) := (Int32.ofNat_mul a b).symm
theorem wk_rem {a d : Nat} (ha : a < 1000000000) (hd : d ≤ 1000) : nI a - nI a / nI d * nI d = nI (a % d) := by
  have e : ((a : Int).tmod (d : Int)) = ((a % d : Nat) : Int) := by
    rw [Int.tmod_eq_emod_of_nonneg (by omega), Int.natCast_emod]
  rw [zi_n a, zi_r1 hd (by unfold zi_in; omega), e, ← zi_n]
theorem wk_eq0 {a : Nat} (h : a < 2 ^ 31) : nI a = 0 ↔ a = 0 := by
  rw [← nI_0, nI_eq h (by omega)]
theorem wk_ix (v : Int32) {c : Nat} (hc : c < 2 ^ 31) : (v < 0 ∨ nI c ≤ v) ∨ ∃ i : Nat, i < c ∧ v = nI i := by
  by_cases h : v < 0
  · exact Or.inl (Or.inl h)
  · obtain ⟨j, hj, rfl⟩ := nI_of h
    by_cases h2 : j < c
    · exact Or.inr ⟨j, h2, rfl⟩
    · exact Or.inl (Or.inr (nI_le (by omega) hj))
theorem wk_n4 {k : Nat} (hk : k < 2 ^ 31) : ¬ nI k = -4 := by
  intro e
  have h := nI_pos (n := k) hk
  rw [e] at h
  exact h (by decide)
theorem wk_10 : ¬ (1 : Int32) = 0 := by decide
section WKB
variable {p a b c : Nat} {ax ay : Nat → Int32} (h : cg_L p a b c ax ay)
theorem wk_b (h : cg_L p a b c ax ay) : 5 ≤ p ∧ p ≤ 61 ∧ 1 ≤ c ∧ c ≤ 123 := by
  have b' := ec_P_b h.1.1
  exact ⟨b'.1, b'.2, h.2.1, h.2.2.1⟩
theorem xw_ip_t (h : cg_L p a b c ax ay) {i : Nat} (hi : i < c) {post : Int32 → Prop} (hp : post 1) : wpX_isPoint post (nI p, nI a, nI b, nI c, ax, ay) (nI i) := by
  have q := wk_b h
  exact br_f (nI_pos (by omega)) (br_f (nI_ge hi (by omega)) hp)
theorem xw_ip_f {v : Int32} (hv : v < 0 ∨ nI c ≤ v) {post : Int32 → Prop} (hp : post 0) : wpX_isPoint post (nI p, nI a, nI b, nI c, ax, ay) v := by
  by_cases g : v < 0
  · exact br_t g hp
  · rcases hv with w | w
    · exact absurd w g
    · exact br_f g (br_t w hp)
theorem yw_np_t (h : cg_L p a b c ax ay) {i : Nat} (hi : i < c) {post : Int32 → Prop} (hp : post 0) : wpY_noPoint post (nI p, nI a, nI b, nI c, ax, ay) (nI i) := by
  have q := wk_b h
  exact br_f (nI_pos (by omega)) (br_t (nI_lt hi (by omega)) hp)
theorem yw_np_f {v : Int32} (hv : v < 0 ∨ nI c ≤ v) {post : Int32 → Prop} (hp : post 1) : wpY_noPoint post (nI p, nI a, nI b, nI c, ax, ay) v := by
  by_cases g : v < 0
  · exact br_t g hp
  · rcases hv with w | w
    · exact absurd w g
    · exact br_f g (br_f (Int32.not_lt.mpr w) hp)
theorem xw_red (h : cg_L p a b c ax ay) {w : Int32} {z : Int} (e : w = zi_ z) (hz : zi_in z) {post : Int32 → Prop} (hp : post (nI (ec_m p z))) : wpX_reduced post (nI p, nI a, nI b, nI c, ax, ay) w := by
  have q := wk_b h
  have p0 : 0 < p := by omega
  have z0 := zi_neg0 (p := p) (a := z) p0 (by omega)
  have er : w - w / nI p * nI p = zi_ (z.tmod p) := by rw [e]; exact zi_r1 (by omega) hz
  refine ⟨nI_ne0 p0 (by omega), nm_r er ?_⟩
  by_cases g : z.tmod p < 0
  · refine br_f (fun w => ?_) ?_
    · exact absurd (z0.mpr g) (Int32.not_lt.mpr w)
    · rw [zi_rdn p0 (by omega) g]; exact hp
  · refine br_t (Int32.not_lt.mp (fun w => g (z0.mp w))) ?_
    rw [zi_rdp p0 g]; exact hp
theorem yw_rest (h : cg_L p a b c ax ay) {w : Int32} {z : Int} (e : w = zi_ z) (hz : zi_in z) {post : Int32 → Prop} (hp : post (nI (ec_m p z))) : wpY_rest post (nI p, nI a, nI b, nI c, ax, ay) w := by
  have q := wk_b h
  have p0 : 0 < p := by omega
  have er := zi_rs (p := p) (a := z) p0 (by omega) hz
  rw [← e] at er
  refine ⟨nI_ne0 p0 (by omega), nI_ne0 p0 (by omega), ?_⟩
  rw [er]; exact hp
/-- what a search answers -/
def cg_fr (c : Nat) (ax ay : Nat → Int32) (x y r : Int32) : Prop := (∃ k, 1 ≤ k ∧ k < c ∧ ax k = x ∧ ay k = y ∧ r = nI k ∧ ∀ l, 1 ≤ l → l < k → ¬ (ax l = x ∧ ay l = y)) ∨ ((∀ k, 1 ≤ k → k < c → ¬ (ax k = x ∧ ay k = y)) ∧ r = -4)
theorem cg_fr_e (c : Nat) (ax ay : Nat → Int32) (x y : Int32) : ∃ r, cg_fr c ax ay x y r := by
  by_cases g : ∃ k, 1 ≤ k ∧ k < c ∧ ax k = x ∧ ay k = y
  · obtain ⟨k, hk, hn⟩ := gp_least (fun k => 1 ≤ k ∧ k < c ∧ ax k = x ∧ ay k = y) g
    refine ⟨nI k, Or.inl ⟨k, hk.1, hk.2.1, hk.2.2.1, hk.2.2.2, rfl, fun l l1 l2 z => ?_⟩⟩
    exact hn l l2 ⟨l1, by omega, z.1, z.2⟩
  · exact ⟨-4, Or.inr ⟨fun k k1 k2 z => g ⟨k, k1, k2, z.1, z.2⟩, rfl⟩⟩
theorem xw_find_l (hc : c ≤ 123) {x y r : Int32} (hr : cg_fr c ax ay x y r) {post : Int32 → Prop} (hp : post r) : ∀ d j, j + d = c → 1 ≤ j → (∀ k, 1 ≤ k → k < j → ¬ (ax k = x ∧ ay k = y)) → wX_find_2 post x y (nI p) (nI a) (nI b) (nI c) ax ay (d + 1) (nI j) := by
  intro d
  induction d with
  | zero =>
    intro j hj j1 hn
    refine br_t (nI_le (by omega) (by omega)) ?_
    rcases hr with ⟨k, k1, k2, ex, ey, _, _⟩ | ⟨_, er⟩
    · exact absurd ⟨ex, ey⟩ (hn k k1 (by omega))
    · rw [← er]; exact hp
  | succ d ih =>
    intro j hj j1 hn
    have ec : (nI j).toNatClampNeg = j := nI_clamp (by omega)
    have hi : vp_in (nI j) 123 := vp_in_nI (by omega) (by omega)
    have nx : ¬ (ax j = x ∧ ay j = y) → wX_find_2 post x y (nI p) (nI a) (nI b) (nI c) ax ay (d + 1) (nI (j + 1)) := by
      intro z
      refine ih (j + 1) (by omega) (by omega) (fun k k1 k2 => ?_)
      rcases Nat.lt_or_ge k j with g | g
      · exact hn k k1 g
      · rw [show k = j by omega]; exact z
    refine br_f (nI_ge (by omega) (by omega)) ⟨hi, ?_⟩
    by_cases e1 : ax j = x
    · refine br_t (by rw [ec]; exact e1) ⟨hi, ?_⟩
      by_cases e2 : ay j = y
      · refine br_t (by rw [ec]; exact e2) ?_
        rcases hr with ⟨k, k1, k2, ex, ey, er, hl⟩ | ⟨hl, _⟩
        · have ek : k = j := by
            rcases Nat.lt_trichotomy k j with g | g | g
            · exact absurd ⟨ex, ey⟩ (hn k k1 g)
            · exact g
            · exact absurd ⟨e1, e2⟩ (hl j j1 g)
          rw [← ek, ← er]; exact hp
        · exact absurd ⟨e1, e2⟩ (hl j j1 (by omega))
      · exact br_f (by rw [ec]; exact e2) (nm_r (nI_1 j) (nx (fun z => e2 z.2)))
    · exact br_f (by rw [ec]; exact e1) (nm_r (nI_1 j) (nx (fun z => e1 z.1)))
theorem xw_find (h : cg_L p a b c ax ay) {x y r : Int32} (hr : cg_fr c ax ay x y r) {post : Int32 → Prop} (hp : post r) : wpX_find post (nI p, nI a, nI b, nI c, ax, ay) x y := by
  have q := wk_b h
  have w := xw_find_l (p := p) (a := a) (b := b) q.2.2.2 hr hp (c - 1) 1 (by omega) (by omega) (fun k k1 k2 => by omega)
  exact ⟨c - 1 + 1, w⟩
theorem yw_find_l (hc : c ≤ 123) {x y r : Int32} (hr : cg_fr c ax ay x y r) {post : Int32 → Prop} (hp : post r) : ∀ d j, j + d = c → 1 ≤ j → (∀ k, 1 ≤ k → k < j → ¬ (ax k = x ∧ ay k = y)) → wY_find_2 post x y (nI p) (nI a) (nI b) (nI c) ax ay (d + 1) (nI j) := by
  intro d
  induction d with
  | zero =>
    intro j hj j1 hn
    refine br_t (nI_le (by omega) (by omega)) ?_
    rcases hr with ⟨k, k1, k2, ex, ey, _, _⟩ | ⟨_, er⟩
    · exact absurd ⟨ex, ey⟩ (hn k k1 (by omega))
    · rw [← er]; exact hp
  | succ d ih =>
    intro j hj j1 hn
    have ec : (nI j).toNatClampNeg = j := nI_clamp (by omega)
    have hi : vp_in (nI j) 140 := vp_in_nI (by omega) (by omega)
    have nx : ¬ (ax j = x ∧ ay j = y) → wY_find_2 post x y (nI p) (nI a) (nI b) (nI c) ax ay (d + 1) (nI (j + 1)) := by
      intro z
      refine ih (j + 1) (by omega) (by omega) (fun k k1 k2 => ?_)
      rcases Nat.lt_or_ge k j with g | g
      · exact hn k k1 g
      · rw [show k = j by omega]; exact z
    refine br_f (nI_ge (by omega) (by omega)) ⟨hi, ?_⟩
    by_cases e1 : ax j = x
    · refine br_t (by rw [ec]; exact e1) ⟨hi, ?_⟩
      by_cases e2 : ay j = y
      · refine br_t (by rw [ec]; exact e2) ?_
        rcases hr with ⟨k, k1, k2, ex, ey, er, hl⟩ | ⟨hl, _⟩
        · have ek : k = j := by
            rcases Nat.lt_trichotomy k j with g | g | g
            · exact absurd ⟨ex, ey⟩ (hn k k1 g)
            · exact g
            · exact absurd ⟨e1, e2⟩ (hl j j1 g)
          rw [← ek, ← er]; exact hp
        · exact absurd ⟨e1, e2⟩ (hl j j1 (by omega))
      · exact br_f (by rw [ec]; exact e2) (nm_r (nI_1 j) (nx (fun z => e2 z.2)))
    · exact br_f (by rw [ec]; exact e1) (nm_r (nI_1 j) (nx (fun z => e1 z.1)))
theorem yw_find (h : cg_L p a b c ax ay) {x y r : Int32} (hr : cg_fr c ax ay x y r) {post : Int32 → Prop} (hp : post r) : wpY_find post (nI p, nI a, nI b, nI c, ax, ay) x y := by
  have q := wk_b h
  have w := yw_find_l (p := p) (a := a) (b := b) q.2.2.2 hr hp (c - 1) 1 (by omega) (by omega) (fun k k1 k2 => by omega)
  exact ⟨c - 1 + 1, w⟩
theorem cg_fr_at (h : cg_L p a b c ax ay) {k : Nat} (k1 : 1 ≤ k) (k2 : k < c) : cg_fr c ax ay (ax k) (ay k) (nI k) := by
  refine Or.inl ⟨k, k1, k2, rfl, rfl, rfl, fun l l1 l2 z => ?_⟩
  have e := h.2.2.2.2.2 l k l1 (by omega) k1 k2 z.1 z.2
  omega
end WKB
end
section
/-! the sum of two points on both sides -/
section WKS
variable {p a b c : Nat} {ax ay : Nat → Int32}
theorem xw_quo_l (hb : 5 ≤ p ∧ p ≤ 61) {z w : Nat} (hw : w < p) {post : Int32 → Prop} (hp : post (nI (z * w ^ (p - 2) % p))) : ∀ d k, k + d = p - 2 → wX_quotient_5 post (nI w) (nI p) (nI a) (nI b) (nI c) ax ay (d + 1) (nI (z * w ^ k % p)) (nI k) := by
  have p0 : 0 < p := by omega
  have e2 : nI p - 2 = nI (p - 2) := wk_sub (a := p) (b := 2) (by omega)
  intro d
  induction d with
  | zero =>
    intro k hk
    refine br_t (by rw [e2]; exact nI_le (by omega) (by omega)) ?_
    rw [show k = p - 2 by omega]; exact hp
  | succ d ih =>
    intro k hk
    have hm : z * w ^ k % p < p := Nat.mod_lt _ p0
    have hb2 : z * w ^ k % p * w < 1000000000 := by
      have q := Nat.mul_le_mul (Nat.le_of_lt hm) (Nat.le_of_lt hw)
      have q2 : p * p ≤ 61 * 61 := Nat.mul_le_mul hb.2 hb.2
      omega
    have er : nI (z * w ^ k % p) * nI w - nI (z * w ^ k % p) * nI w / nI p * nI p = nI (z * w ^ (k + 1) % p) := by
      rw [wk_mul, wk_rem hb2 (by omega), Nat.mod_mul_mod, Nat.pow_succ, Nat.mul_assoc]
    refine br_f (by rw [e2]; exact nI_ge (by omega) (by omega)) ⟨nI_ne0 p0 (by omega), nm_r er (nm_r (nI_1 k) (ih (k + 1) (by omega)))⟩
theorem xw_quo (h : cg_L p a b c ax ay) {z w : Nat} (hz : z < p) (hw : w < p) {post : Int32 → Prop} (hp : post (nI (z * w ^ (p - 2) % p))) : wpX_quotient post (nI p, nI a, nI b, nI c, ax, ay) (nI z) (nI w) := by
  have q := wk_b h
  have w1 := xw_quo_l (a := a) (b := b) (c := c) (ax := ax) (ay := ay) ⟨q.1, q.2.1⟩ hw hp (p - 2) 0 (by omega)
  have e : z * w ^ 0 % p = z := by rw [Nat.pow_zero, Nat.mul_one, Nat.mod_eq_of_lt hz]
  rw [e, nI_0] at w1
  exact ⟨p - 2 + 1, w1⟩
/-- rise and run of the slope -/
def cg_top (a x y u v : Nat) : Int := if x = u then 3 * (x : Int) * x + a else (v : Int) - y
def cg_bot (x y u : Nat) : Int := if x = u then 2 * (y : Int) else (u : Int) - x
theorem cg_sl_of {l z w : Nat} {x y u v : Nat} (hz : z = ec_m p (cg_top a x y u v)) (hw : w = ec_m p (cg_bot x y u)) (p0 : 0 < p) : mq_ p ((w : Int) * l) (z : Int) ↔ ec_sl p a x y u v l := by
  have q1 : mq_ p (z : Int) (cg_top a x y u v) := by rw [hz]; exact ec_m_q p0 _
  have q2 : mq_ p (w : Int) (cg_bot x y u) := by rw [hw]; exact ec_m_q p0 _
  have k : mq_ p ((w : Int) * l) (z : Int) ↔ mq_ p (cg_bot x y u * l) (cg_top a x y u v) := by
    constructor
    · intro g; exact mq_t (mq_m (mq_s q2) mq_r) (mq_t g q1)
    · intro g; exact mq_t (mq_m q2 mq_r) (mq_t g (mq_s q1))
  rw [k]
  unfold cg_top cg_bot ec_sl
  by_cases e : x = u
  · rw [if_pos e, if_pos e]
    have e1 : 3 * (x : Int) * x + a = 3 * ((x : Int) * x) + a := by rw [Int.mul_assoc]
    rw [e1]
    exact ⟨fun g => ⟨fun _ => g, fun n => absurd e n⟩, fun g => g.1 e⟩
  · rw [if_neg e, if_neg e]
    exact ⟨fun g => ⟨fun n => absurd n e, fun _ => g⟩, fun g => g.2 e⟩
theorem cg_bot_n {x y u v : Nat} (hp : ec_P p) (hx : x < p) (hu : u < p) (ho : x = u → y = v) (hz : ¬ (x = u ∧ (y + v) % p = 0)) : ¬ ec_m p (cg_bot x y u) % p = 0 := by
  have b' := ec_P_b hp
  intro g
  have g1 : mq_ p (cg_bot x y u) 0 := mq_t (mq_s (ec_m_q (by omega) _)) (mq_0.mpr g)
  unfold cg_bot at g1
  by_cases e : x = u
  · rw [if_pos e] at g1
    exact ec_2y (fun z => hz ⟨e, by rw [← ho e]; exact z⟩) g1
  · rw [if_neg e] at g1
    exact ec_ne hx hu e g1
theorem cg_on_at (h : cg_L p a b c ax ay) {i x y : Nat} (h1 : 1 ≤ i) (hi : i < c) (hx : x < p) (hy : y < p) (ex : ax i = nI x) (ey : ay i = nI y) : ec_on p a b x y := by
  have q := wk_b h
  obtain ⟨x', y', hx', hy', ho, ex', ey', _⟩ := cg_at h h1 hi
  rw [ex, nI_eq (by omega) (by omega)] at ex'
  rw [ey, nI_eq (by omega) (by omega)] at ey'
  rw [ex', ey']; exact ho
theorem cg_same (h : cg_L p a b c ax ay) {i j x y u v : Nat} (hi : i < c) (hj : j < c) (h1 : 1 ≤ i) (h2 : 1 ≤ j) (hx : x < p) (hy : y < p) (hu : u < p) (hv : v < p) (ex : ax i = nI x) (ey : ay i = nI y) (eu : ax j = nI u) (ev : ay j = nI v) (hz : ¬ (x = u ∧ (y + v) % p = 0)) : x = u → y = v := by
  intro e
  have o1 := cg_on_at h h1 hi hx hy ex ey
  have o2 := cg_on_at h h2 hj hu hv eu ev
  exact ec_opp h.1.1 hy hv o1 (e ▸ o2) (fun z => hz ⟨e, z⟩)
theorem cg_top_i {x y u v : Nat} (ha : a < 61) (hx : x < 61) (hy : y < 61) (hv : v < 61) : zi_in (cg_top a x y u v) := by
  unfold cg_top
  by_cases e : x = u
  · rw [if_pos e]
    exact zb_in (zb_a (zb_m (zb_m (A := 3) (by decide) (zb_n hx)) (zb_n hx)) (zb_n ha)) (by decide)
  · rw [if_neg e]
    exact zb_in (zb_s (zb_n hv) (zb_n hy)) (by decide)
theorem cg_bot_i {x y u : Nat} (hx : x < 61) (hy : y < 61) (hu : u < 61) : zi_in (cg_bot x y u) := by
  unfold cg_bot
  by_cases e : x = u
  · rw [if_pos e]
    exact zb_in (zb_m (A := 2) (by decide) (zb_n hy)) (by decide)
  · rw [if_neg e]
    exact zb_in (zb_s (zb_n hu) (zb_n hx)) (by decide)
theorem zi_3 : (3 : Int32) = zi_ 3 := by decide
theorem zi_2 : (2 : Int32) = zi_ 2 := by decide
theorem xw_s62 (h : cg_L p a b c ax ay) {i j x y u v : Nat} (hi : i < c) (hj : j < c) (h1 : 1 ≤ i) (h2 : 1 ≤ j) (hx : x < p) (hy : y < p) (hu : u < p) (hv : v < p) (ex : ax i = nI x) (ey : ay i = nI y) (eu : ax j = nI u) (ev : ay j = nI v) (hz : ¬ (x = u ∧ (y + v) % p = 0)) {z0 : Int32} (e0 : z0 = zi_ (cg_bot x y u)) {post : Int32 → Prop} (hp : post (nI (cg_S p a c ax ay i j))) : wX_sumOfPairs_62 post (nI x) (nI y) (nI u) (nI (ec_m p (cg_top a x y u v))) z0 (nI p) (nI a) (nI b) (nI c) ax ay := by
  have q := wk_b h
  have p0 : 0 < p := by omega
  have ho := cg_same h hi hj h1 h2 hx hy hu hv ex ey eu ev hz
  obtain ⟨l, hl, s, un, n1, hS, eX, eY⟩ := cg_S_F h hi hj h1 h2 hx hy hu hv ex ey eu ev hz
  have el : ec_m p (cg_top a x y u v) * ec_m p (cg_bot x y u) ^ (p - 2) % p = l := by
    refine un _ (Nat.mod_lt _ p0) ((cg_sl_of rfl rfl p0).mp ?_)
    exact ec_div h.1.1 (cg_bot_n h.1.1 hx hu ho hz)
  unfold wX_sumOfPairs_62
  refine xw_red h e0 (cg_bot_i (by omega) (by omega) (by omega)) ?_
  refine xw_quo h (ec_m_lt p0 _) (ec_m_lt p0 _) ?_
  rw [el]
  refine xw_red h (z := (l : Int) * l - x - u) (by simp only [zi_n, zi_mul, zi_sub]) (zb_in (zb_s (zb_s (zb_m (zb_n (N := 61) (by omega)) (zb_n (N := 61) (by omega))) (zb_n (N := 61) (by omega))) (zb_n (N := 61) (by omega))) (by decide)) ?_
  have hr : ec_r p x u l < p := ec_m_lt p0 _
  refine xw_red h (z := (l : Int) * ((x : Int) - (ec_r p x u l : Nat)) - y) (by simp only [zi_n, zi_mul, zi_sub]; rfl) (zb_in (zb_s (zb_m (zb_n (N := 61) (by omega)) (zb_s (zb_n (N := 61) (by omega)) (zb_n (N := 61) (by omega)))) (zb_n (N := 61) (by omega))) (by decide)) ?_
  have fr := cg_fr_at h n1 hS
  rw [eX, eY] at fr
  exact xw_find h fr hp
theorem xw_s19 (h : cg_L p a b c ax ay) {i j x y u v : Nat} (hi : i < c) (hj : j < c) (h1 : 1 ≤ i) (h2 : 1 ≤ j) (hx : x < p) (hy : y < p) (hu : u < p) (hv : v < p) (ex : ax i = nI x) (ey : ay i = nI y) (eu : ax j = nI u) (ev : ay j = nI v) (hz : ¬ (x = u ∧ (y + v) % p = 0)) {post : Int32 → Prop} (hp : post (nI (cg_S p a c ax ay i j))) : wX_sumOfPairs_19 post (nI x) (nI y) (nI u) (nI v) (nI p) (nI a) (nI b) (nI c) ax ay := by
  have q := wk_b h
  have ha := h.1.2.1
  have hi1 : zi_in (cg_top a x y u v) := cg_top_i (by omega) (by omega) (by omega) (by omega)
  have k : ∀ {z0 : Int32}, z0 = zi_ (cg_top a x y u v) → wX_sumOfPairs_42 post (nI x) (nI y) (nI u) z0 (nI p) (nI a) (nI b) (nI c) ax ay := by
    intro z0 e0
    unfold wX_sumOfPairs_42
    refine xw_red h e0 hi1 ?_
    by_cases e : x = u
    · refine br_t (by rw [e]) (xw_s62 h hi hj h1 h2 hx hy hu hv ex ey eu ev hz ?_ hp)
      unfold cg_bot
      rw [if_pos e, zi_2, zi_n, zi_mul]
    · refine br_f (fun w => e ((nI_eq (by omega) (by omega)).mp w)) (xw_s62 h hi hj h1 h2 hx hy hu hv ex ey eu ev hz ?_ hp)
      unfold cg_bot
      rw [if_neg e, zi_n, zi_n, zi_sub]
  unfold wX_sumOfPairs_19
  by_cases e : x = u
  · refine br_t (by rw [e]) (k ?_)
    unfold cg_top
    rw [if_pos e, zi_3, zi_n, zi_n, zi_mul, zi_mul, zi_add]
  · refine br_f (fun w => e ((nI_eq (by omega) (by omega)).mp w)) (k ?_)
    unfold cg_top
    rw [if_neg e, zi_n, zi_n, zi_sub]
theorem xw_sop (h : cg_L p a b c ax ay) {i j x y u v : Nat} (hi : i < c) (hj : j < c) (h1 : 1 ≤ i) (h2 : 1 ≤ j) (hx : x < p) (hy : y < p) (hu : u < p) (hv : v < p) (ex : ax i = nI x) (ey : ay i = nI y) (eu : ax j = nI u) (ev : ay j = nI v) {post : Int32 → Prop} (hp : post (nI (cg_S p a c ax ay i j))) : wpX_sumOfPairs post (nI p, nI a, nI b, nI c, ax, ay) (nI x) (nI y) (nI u) (nI v) := by
  have q := wk_b h
  have er : nI y + nI v - (nI y + nI v) / nI p * nI p = nI ((y + v) % p) := by
    rw [nI_add, wk_rem (by omega) (by omega)]
  by_cases e : x = u
  · refine br_t (by rw [e]) ⟨nI_ne0 (by omega) (by omega), ?_⟩
    have hm : (y + v) % p < p := Nat.mod_lt _ (by omega)
    by_cases g : (y + v) % p = 0
    · refine br_t (by rw [er, g]; exact nI_0) ?_
      rw [cg_S_O h hi hj h1 h2 hx hy hu hv ex ey eu ev e g, nI_0] at hp
      exact hp
    · refine br_f (by rw [er]; exact fun w => g ((wk_eq0 (by omega)).mp w)) ?_
      exact xw_s19 h hi hj h1 h2 hx hy hu hv ex ey eu ev (fun w => g w.2) hp
  · refine br_f (fun w => e ((nI_eq (by omega) (by omega)).mp w)) ?_
    exact xw_s19 h hi hj h1 h2 hx hy hu hv ex ey eu ev (fun w => e w.1) hp
theorem xw_add (h : cg_L p a b c ax ay) {i j : Nat} (hi : i < c) (hj : j < c) {post : Int32 → Prop} (hp : post (nI (cg_S p a c ax ay i j))) : wpX_add post (nI p, nI a, nI b, nI c, ax, ay) (nI i) (nI j) := by
  have q := wk_b h
  have g := cg_ok h
  unfold wpX_add
  dsimp only
  refine xw_ip_t h hi ?_
  refine br_f wk_10 ?_
  refine xw_ip_t h hj ?_
  refine br_f wk_10 ?_
  rcases Nat.eq_zero_or_pos i with e | e
  · refine br_t (by rw [e]; exact nI_0) ?_
    rw [e, g.2.2.1 j hj] at hp
    exact hp
  · refine br_f (nI_ne0 e (by omega)) ?_
    rcases Nat.eq_zero_or_pos j with e' | e'
    · refine br_t (by rw [e']; exact nI_0) ?_
      rw [e', g.2.2.2.1 i hi] at hp
      exact hp
    · refine br_f (nI_ne0 e' (by omega)) ⟨vp_in_nI (by omega) (by omega), vp_in_nI (by omega) (by omega), vp_in_nI (by omega) (by omega), vp_in_nI (by omega) (by omega), ?_⟩
      obtain ⟨x, y, hx, hy, _, ex, ey, _⟩ := cg_at h e hi
      obtain ⟨u, v, hu, hv, _, eu, ev, _⟩ := cg_at h e' hj
      rw [nI_clamp (by omega), nI_clamp (by omega), ex, ey, eu, ev]
      exact xw_sop h hi hj e e' hx hy hu hv ex ey eu ev hp
theorem yw_div (h : cg_L p a b c ax ay) {z w l : Nat} (hz : z < p) (hw : w < p) (hl : l < p) (e : mq_ p ((w : Int) * l) z) (hn : ∀ q, q < l → ¬ mq_ p ((w : Int) * q) z) {post : Int32 → Prop} (hp : post (nI l)) : wpY_divide post (nI p, nI a, nI b, nI c, ax, ay) (nI z) (nI w) := by
  have q := wk_b h
  have p0 : 0 < p := by omega
  have st : ∀ k, k < p → ∀ {Q : Int32 → Prop}, Q (nI (ec_m p ((k : Int) * w - z))) → wpY_rest Q (nI p, nI a, nI b, nI c, ax, ay) (nI k * nI w - nI z) := by
    intro k hk Q hQ
    exact yw_rest h (z := (k : Int) * w - z) (by simp only [zi_n, zi_mul, zi_sub]) (zb_in (zb_s (zb_m (zb_n (N := 61) (by omega)) (zb_n (N := 61) (by omega))) (zb_n (N := 61) (by omega))) (by decide)) hQ
  have k0 : ∀ k : Nat, ec_m p ((k : Int) * w - z) = 0 ↔ mq_ p ((w : Int) * k) z := by
    intro k
    constructor
    · intro g
      have g1 := ec_m_q p0 ((k : Int) * w - z)
      rw [g] at g1
      have g2 := mq_a (mq_s g1) (mq_r (p := p) (x := (z : Int)))
      have e1 : (k : Int) * w - z + z = (w : Int) * k := by grind
      have e2 : ((0 : Nat) : Int) + z = z := Int.zero_add _
      rw [e1, e2] at g2
      exact g2
    · intro g
      refine ec_m_of p0 ?_
      have g1 := mq_d g (mq_r (p := p) (x := (z : Int)))
      have e1 : (w : Int) * k - z = (k : Int) * w - z := by grind
      have e2 : (z : Int) - z = ((0 : Nat) : Int) := Int.sub_self _
      rw [e1, e2] at g1
      exact mq_s g1
  have lp : ∀ d k, k + d = l → wY_divide_2 post (nI z) (nI w) (nI p) (nI a) (nI b) (nI c) ax ay (d + 1) (nI k) := by
    intro d
    induction d with
    | zero =>
      intro k hk
      unfold wY_divide_2
      refine st k (by omega) (br_t ?_ ?_)
      · rw [(k0 k).mpr (by rw [show k = l by omega]; exact e)]; exact nI_0
      · rw [show k = l by omega]; exact hp
    | succ d ih =>
      intro k hk
      unfold wY_divide_2
      refine st k (by omega) (br_f ?_ ?_)
      · intro g
        have hm : ec_m p ((k : Int) * w - z) < p := ec_m_lt p0 _
        exact hn k (by omega) ((k0 k).mp ((wk_eq0 (by omega)).mp g))
      · exact nm_r (nI_1 k) (ih (k + 1) (by omega))
  have w1 := lp l 0 (by omega)
  rw [nI_0] at w1
  exact ⟨l + 1, w1⟩
theorem yw_s145 (h : cg_L p a b c ax ay) {i j x y u v : Nat} (hi : i < c) (hj : j < c) (h1 : 1 ≤ i) (h2 : 1 ≤ j) (hx : x < p) (hy : y < p) (hu : u < p) (hv : v < p) (ex : ax i = nI x) (ey : ay i = nI y) (eu : ax j = nI u) (ev : ay j = nI v) (hz : ¬ (x = u ∧ (y + v) % p = 0)) {post : Int32 → Prop} (hp : post (nI (cg_S p a c ax ay i j))) : wY_sum_145 post (nI i) (nI j) (nI (ec_m p (cg_top a x y u v))) (nI (ec_m p (cg_bot x y u))) (nI p) (nI a) (nI b) (nI c) ax ay := by
  have q := wk_b h
  have p0 : 0 < p := by omega
  have ho := cg_same h hi hj h1 h2 hx hy hu hv ex ey eu ev hz
  obtain ⟨l, hl, s, un, n1, hS, eX, eY⟩ := cg_S_F h hi hj h1 h2 hx hy hu hv ex ey eu ev hz
  have v1 : vp_in (nI i) 140 := vp_in_nI (by omega) (by omega)
  have v2 : vp_in (nI j) 140 := vp_in_nI (by omega) (by omega)
  unfold wY_sum_145
  refine yw_div h (ec_m_lt p0 _) (ec_m_lt p0 _) hl ((cg_sl_of rfl rfl p0).mpr s) (fun k hk g => ?_) ?_
  · have e := un k (by omega) ((cg_sl_of rfl rfl p0).mp g)
    omega
  · rw [nI_clamp (by omega), nI_clamp (by omega), ex, ey, eu]
    refine ⟨v1, v2, ?_⟩
    refine yw_rest h (z := (l : Int) * l - x - u) (by simp only [zi_n, zi_mul, zi_sub]) (zb_in (zb_s (zb_s (zb_m (zb_n (N := 61) (by omega)) (zb_n (N := 61) (by omega))) (zb_n (N := 61) (by omega))) (zb_n (N := 61) (by omega))) (by decide)) ?_
    have hr : ec_r p x u l < p := ec_m_lt p0 _
    refine ⟨v1, v1, ?_⟩
    refine yw_rest h (z := (l : Int) * ((x : Int) - (ec_r p x u l : Nat)) - y) (by simp only [zi_n, zi_mul, zi_sub]; rfl) (zb_in (zb_s (zb_m (zb_n (N := 61) (by omega)) (zb_s (zb_n (N := 61) (by omega)) (zb_n (N := 61) (by omega)))) (zb_n (N := 61) (by omega))) (by decide)) ?_
    have fr := cg_fr_at h n1 hS
    rw [eX, eY] at fr
    exact yw_find h fr hp
theorem yw_s59 (h : cg_L p a b c ax ay) {i j x y u v : Nat} (hi : i < c) (hj : j < c) (h1 : 1 ≤ i) (h2 : 1 ≤ j) (hx : x < p) (hy : y < p) (hu : u < p) (hv : v < p) (ex : ax i = nI x) (ey : ay i = nI y) (eu : ax j = nI u) (ev : ay j = nI v) (hz : ¬ (x = u ∧ (y + v) % p = 0)) {x3 : Int32} (e3 : x3 = 0 ↔ ¬ x = u) {post : Int32 → Prop} (hp : post (nI (cg_S p a c ax ay i j))) : wY_sum_59 post (nI i) (nI j) x3 (nI p) (nI a) (nI b) (nI c) ax ay := by
  have q := wk_b h
  have ha := h.1.2.1
  have v1 : vp_in (nI i) 140 := vp_in_nI (by omega) (by omega)
  have v2 : vp_in (nI j) 140 := vp_in_nI (by omega) (by omega)
  have c1 : (nI i).toNatClampNeg = i := nI_clamp (by omega)
  have c2 : (nI j).toNatClampNeg = j := nI_clamp (by omega)
  have it : zi_in (cg_top a x y u v) := cg_top_i (by omega) (by omega) (by omega) (by omega)
  have ib : zi_in (cg_bot x y u) := cg_bot_i (by omega) (by omega) (by omega)
  have fin := yw_s145 h hi hj h1 h2 hx hy hu hv ex ey eu ev hz hp
  have k : wY_sum_107 post (nI i) (nI j) x3 (nI (ec_m p (cg_top a x y u v))) (nI p) (nI a) (nI b) (nI c) ax ay := by
    unfold wY_sum_107
    rw [c1, c2, ex, ey, eu]
    by_cases e : x = u
    · refine br_f (fun w => e3.mp w e) ⟨v1, yw_rest h (z := cg_bot x y u) ?_ ib fin⟩
      unfold cg_bot
      rw [if_pos e, zi_2, zi_n, zi_mul]
    · refine br_t (e3.mpr e) ⟨v2, v1, yw_rest h (z := cg_bot x y u) ?_ ib fin⟩
      unfold cg_bot
      rw [if_neg e, zi_n, zi_n, zi_sub]
  unfold wY_sum_59
  rw [c1, c2, ex, ey, ev]
  by_cases e : x = u
  · refine br_f (fun w => e3.mp w e) ⟨v1, v1, yw_rest h (z := cg_top a x y u v) ?_ it k⟩
    unfold cg_top
    rw [if_pos e, zi_3, zi_n, zi_n, zi_mul, zi_mul, zi_add]
  · refine br_t (e3.mpr e) ⟨v2, v1, yw_rest h (z := cg_top a x y u v) ?_ it k⟩
    unfold cg_top
    rw [if_neg e, zi_n, zi_n, zi_sub]
theorem yw_sum (h : cg_L p a b c ax ay) {i j : Nat} (hi : i < c) (hj : j < c) {post : Int32 → Prop} (hp : post (nI (cg_S p a c ax ay i j))) : wpY_sum post (nI p, nI a, nI b, nI c, ax, ay) (nI i) (nI j) := by
  have q := wk_b h
  have g := cg_ok h
  rcases Nat.eq_zero_or_pos i with e | e
  · refine br_t (by rw [e]; exact nI_0) ?_
    rw [e, g.2.2.1 j hj] at hp
    exact hp
  · refine br_f (nI_ne0 e (by omega)) ?_
    rcases Nat.eq_zero_or_pos j with e' | e'
    · refine br_t (by rw [e']; exact nI_0) ?_
      rw [e', g.2.2.2.1 i hi] at hp
      exact hp
    · have v1 : vp_in (nI i) 140 := vp_in_nI (by omega) (by omega)
      have v2 : vp_in (nI j) 140 := vp_in_nI (by omega) (by omega)
      have c1 : (nI i).toNatClampNeg = i := nI_clamp (by omega)
      have c2 : (nI j).toNatClampNeg = j := nI_clamp (by omega)
      refine br_f (nI_ne0 e' (by omega)) ⟨v1, v2, ?_⟩
      obtain ⟨x, y, hx, hy, _, ex, ey, _⟩ := cg_at h e hi
      obtain ⟨u, v, hu, hv, _, eu, ev, _⟩ := cg_at h e' hj
      rw [c1, c2, ex, eu]
      by_cases w : x = u
      · refine br_t (by rw [w]) ?_
        unfold wY_sum_32
        refine br_f (by decide) ⟨v1, v2, ?_⟩
        rw [c1, c2, ey, ev]
        have em : ec_m p (((y + v : Nat) : Int)) = (y + v) % p := ec_m_n p (y + v)
        have hm : (y + v) % p < p := Nat.mod_lt _ (by omega)
        refine yw_rest h (z := ((y + v : Nat) : Int)) (by rw [nI_add, zi_n]) (zb_in (zb_n (N := 200) (by omega)) (by decide)) ?_
        rw [em]
        by_cases z : (y + v) % p = 0
        · refine br_t (by rw [z]; exact nI_0) ?_
          rw [cg_S_O h hi hj e e' hx hy hu hv ex ey eu ev w z, nI_0] at hp
          exact hp
        · refine br_f (fun t => z ((wk_eq0 (by omega)).mp t)) ?_
          exact yw_s59 h hi hj e e' hx hy hu hv ex ey eu ev (fun t => z t.2) ⟨fun t => absurd t (by decide), fun t => absurd w t⟩ hp
      · refine br_f (fun t => w ((nI_eq (by omega) (by omega)).mp t)) ?_
        unfold wY_sum_32
        refine br_t rfl ?_
        exact yw_s59 h hi hj e e' hx hy hu hv ex ey eu ev (fun t => w t.1) ⟨fun _ => w, fun _ => rfl⟩ hp
theorem yw_add (h : cg_L p a b c ax ay) {i j : Nat} (hi : i < c) (hj : j < c) {post : Int32 → Prop} (hp : post (nI (cg_S p a c ax ay i j))) : wpY_add post (nI p, nI a, nI b, nI c, ax, ay) (nI i) (nI j) := by
  unfold wpY_add
  dsimp only
  refine yw_np_t h hi ?_
  refine br_t rfl ?_
  refine yw_np_t h hj ?_
  refine br_t rfl ?_
  exact yw_sum h hi hj hp
end WKS
end
section
/-! orders and multiples on both sides (the rows pk_ are pasted from the kit's rows) -/
theorem pk_tn {n : Nat} (h : n < 2 ^ 32) : (nI n).toBitVec.toNat = n := Nat.mod_eq_of_lt h
theorem pk_and (x : Int32) {m : Int32} (k : Nat) (hm : m.toBitVec.toNat = 2 ^ k - 1) : x &&& m = nI (x.toBitVec.toNat % 2 ^ k) := by
  apply Int32.toBitVec_inj.mp
  apply BitVec.eq_of_toNat_eq
  rw [Int32.toBitVec_and, BitVec.toNat_and, hm, Nat.and_two_pow_sub_one_eq_mod]
  show _ = (BitVec.ofNat 32 _).toNat
  rw [BitVec.toNat_ofNat]
  exact (Nat.mod_eq_of_lt (Nat.lt_of_le_of_lt (Nat.mod_le _ _) x.toBitVec.isLt)).symm
theorem pk_andN {n : Nat} (h : n < 2 ^ 32) {m : Int32} (k : Nat) (hm : m.toBitVec.toNat = 2 ^ k - 1) : nI n &&& m = nI (n % 2 ^ k) := by
  rw [pk_and _ k hm, pk_tn h]
theorem pk_shr (a s : Int32) (k : Nat) (hs : (s.toBitVec.smod 32).toNat = k) : (a >>> s).toInt = a.toInt >>> k := by
  show (a.toBitVec.sshiftRight (s.toBitVec.smod 32).toNat).toInt = _
  rw [hs, BitVec.toInt_sshiftRight]
  rfl
theorem pk_shrN {n : Nat} (h : n < 2 ^ 31) (s : Int32) (k : Nat) (hs : (s.toBitVec.smod 32).toNat = k) : nI n >>> s = nI (n / 2 ^ k) := by
  apply Int32.toInt_inj.mp
  have h2 : n / 2 ^ k ≤ n := Nat.div_le_self _ _
  rw [pk_shr _ _ k hs, nI_toInt h, nI_toInt (by omega), Int.shiftRight_eq_div_pow]
  rfl
section WKO
variable {p a b c : Nat} {ax ay : Nat → Int32}
theorem wk_lt (h : cg_L p a b c ax ay) {i m : Nat} (hi : i < c) : gp_mul (cg_S p a c ax ay) i m < c := gp_lt (cg_ok h) hi m
theorem xw_ord_l (h : cg_L p a b c ax ay) {i : Nat} (hi : i < c) {post : Int32 → Prop} (hp : post (nI (gp_ord (cg_S p a c ax ay) i))) : ∀ d e, e + d = gp_ord (cg_S p a c ax ay) i → 1 ≤ e → wX_order_14 post (nI i) (nI p) (nI a) (nI b) (nI c) ax ay (d + 1) (nI e) (nI (gp_mul (cg_S p a c ax ay) i e)) := by
  have q := wk_b h
  obtain ⟨o1, o2, o3, o4⟩ := gp_ord_s (cg_ok h) hi
  intro d
  induction d with
  | zero =>
    intro e he e1
    have ee : e = gp_ord (cg_S p a c ax ay) i := by omega
    refine br_t (by rw [ee, o3]; exact nI_0) ?_
    rw [ee]; exact hp
  | succ d ih =>
    intro e he e1
    have hl := wk_lt h (i := i) (m := e) hi
    have n0 := o4 e (by omega) (by omega)
    refine br_f (nI_ne0 (by omega) (by omega)) (br_f (nI_ge (by omega) (by omega)) ?_)
    exact xw_add h hl hi (nm_r (nI_1 e) (ih (e + 1) (by omega) (by omega)))
theorem xw_ord (h : cg_L p a b c ax ay) {i : Nat} (hi : i < c) {post : Int32 → Prop} (hp : post (nI (gp_ord (cg_S p a c ax ay) i))) : wpX_order post (nI p, nI a, nI b, nI c, ax, ay) (nI i) := by
  obtain ⟨o1, o2, o3, o4⟩ := gp_ord_s (cg_ok h) hi
  have w := xw_ord_l h hi hp (gp_ord (cg_S p a c ax ay) i - 1) 1 (by omega) (by omega)
  rw [gp_1 (cg_ok h) hi] at w
  unfold wpX_order
  dsimp only
  refine xw_ip_t h hi ?_
  refine br_f wk_10 ?_
  exact ⟨_, w⟩
theorem yw_ord_l (h : cg_L p a b c ax ay) {i : Nat} (hi : i < c) {post : Int32 → Prop} (hp : post (nI (gp_ord (cg_S p a c ax ay) i))) : ∀ d e, e + d = gp_ord (cg_S p a c ax ay) i → 1 ≤ e → wY_orderOf_4 post (nI i) (nI p) (nI a) (nI b) (nI c) ax ay (d + 1) (nI e) (nI (gp_mul (cg_S p a c ax ay) i e)) := by
  have q := wk_b h
  obtain ⟨o1, o2, o3, o4⟩ := gp_ord_s (cg_ok h) hi
  intro d
  induction d with
  | zero =>
    intro e he e1
    have ee : e = gp_ord (cg_S p a c ax ay) i := by omega
    refine br_t (by rw [ee, o3]; exact nI_0) ?_
    rw [ee]; exact hp
  | succ d ih =>
    intro e he e1
    have hl := wk_lt h (i := i) (m := e) hi
    have n0 := o4 e (by omega) (by omega)
    refine br_f (nI_ne0 (by omega) (by omega)) ?_
    exact yw_sum h hl hi (nm_r (nI_1 e) (ih (e + 1) (by omega) (by omega)))
theorem yw_ord (h : cg_L p a b c ax ay) {i : Nat} (hi : i < c) {post : Int32 → Prop} (hp : post (nI (gp_ord (cg_S p a c ax ay) i))) : wpY_orderOf post (nI p, nI a, nI b, nI c, ax, ay) (nI i) := by
  obtain ⟨o1, o2, o3, o4⟩ := gp_ord_s (cg_ok h) hi
  have w := yw_ord_l h hi hp (gp_ord (cg_S p a c ax ay) i - 1) 1 (by omega) (by omega)
  rw [gp_1 (cg_ok h) hi] at w
  exact ⟨_, w⟩
/-- the opposite point's index -/
noncomputable def cg_ng (p a c : Nat) (ax ay : Nat → Int32) (i : Nat) : Nat := gp_mul (cg_S p a c ax ay) i (gp_ord (cg_S p a c ax ay) i - 1)
theorem cg_ng_s (h : cg_L p a b c ax ay) {i : Nat} (hi : i < c) : cg_ng p a c ax ay i < c ∧ cg_S p a c ax ay i (cg_ng p a c ax ay i) = 0 ∧ ∀ j, j < c → cg_S p a c ax ay i j = 0 → j = cg_ng p a c ax ay i :=
  ⟨wk_lt h hi, gp_neg2 (cg_ok h) hi, fun _ hj z => gp_neg (cg_ok h) hi hj z⟩
theorem xw_neg (h : cg_L p a b c ax ay) {i : Nat} (hi : i < c) {post : Int32 → Prop} (hp : post (nI (cg_ng p a c ax ay i))) : wpX_negate post (nI p, nI a, nI b, nI c, ax, ay) (nI i) := by
  have q := wk_b h
  have p0 : 0 < p := by omega
  have s := cg_ng_s h hi
  unfold wpX_negate
  dsimp only
  refine xw_ip_t h hi ?_
  refine br_f wk_10 ?_
  rcases Nat.eq_zero_or_pos i with e | e
  · refine br_t (by rw [e]; exact nI_0) ?_
    have z : cg_S p a c ax ay i 0 = 0 := by rw [(cg_ok h).2.2.2.1 i hi]; exact e
    rw [← s.2.2 0 (by omega) z, nI_0] at hp
    exact hp
  · have v1 : vp_in (nI i) 123 := vp_in_nI (by omega) (by omega)
    have c1 : (nI i).toNatClampNeg = i := nI_clamp (by omega)
    refine br_f (nI_ne0 e (by omega)) ⟨v1, ?_⟩
    obtain ⟨x, y, hx, hy, ho, ex, ey, _⟩ := cg_at h e hi
    rw [c1, ex, ey]
    refine xw_red h (z := -(y : Int)) (by rw [zi_n, zi_neg]) (by unfold zi_in; omega) ⟨v1, ?_⟩
    have hm : (p - y) % p < p := Nat.mod_lt _ p0
    have em : ec_m p (-(y : Int)) = (p - y) % p := by
      refine ec_m_of hm (mq_t (mq_nm p (p - y)) ⟨1, ?_⟩)
      omega
    obtain ⟨j, h1, hj, ex', ey'⟩ := h.2.2.2.2.1 x _ hx hm (cg_on_neg p0 hy ho)
    have ej := s.2.2 j hj (cg_S_O h hi hj e h1 hx hy hx hm ex ey ex' ey' rfl (cg_neg_0 hy))
    have fr := cg_fr_at h h1 hj
    rw [ex', ey', ej] at fr
    rw [em]
    exact xw_find h fr hp
theorem yw_neg (h : cg_L p a b c ax ay) {i : Nat} (hi : i < c) {post : Int32 → Prop} (hp : post (nI (cg_ng p a c ax ay i))) : wpY_opposite post (nI p, nI a, nI b, nI c, ax, ay) (nI i) := by
  have q := wk_b h
  have s := cg_ng_s h hi
  have lp : ∀ d k, k + d = cg_ng p a c ax ay i → wY_opposite_2 post (nI i) (nI p) (nI a) (nI b) (nI c) ax ay (d + 1) (nI k) := by
    intro d
    induction d with
    | zero =>
      intro k hk
      have ek : k = cg_ng p a c ax ay i := by omega
      unfold wY_opposite_2
      refine yw_sum h hi (by omega) ?_
      refine br_t ?_ ?_
      · rw [ek, s.2.1]; exact nI_0
      · rw [ek]; exact hp
    | succ d ih =>
      intro k hk
      have hl := (cg_S_s h hi (show k < c by omega)).1
      unfold wY_opposite_2
      refine yw_sum h hi (by omega) ?_
      refine br_f (fun g => ?_) (nm_r (nI_1 k) (ih (k + 1) (by omega)))
      have z := s.2.2 k (by omega) ((wk_eq0 (by omega)).mp g)
      omega
  have w := lp (cg_ng p a c ax ay i) 0 (by omega)
  rw [nI_0] at w
  exact ⟨_, w⟩
theorem wk_sh : ∀ t, t < 20 → ((nI t &&& 31).toBitVec.smod 32).toNat = t := by decide +kernel
theorem xw_tm_l (h : cg_L p a b c ax ay) {i m : Nat} (hi : i < c) (hm : m < 2 ^ 20) {post : Int32 → Prop} (hp : post (nI (gp_mul (cg_S p a c ax ay) i m))) : ∀ d t, t + d = 20 → wX_times_54 post (nI m) (nI p) (nI a) (nI b) (nI c) ax ay (d + 1) (nI (gp_mul (cg_S p a c ax ay) i (2 ^ t))) (nI (gp_mul (cg_S p a c ax ay) i (m % 2 ^ t))) (nI t) := by
  have q := wk_b h
  intro d
  induction d with
  | zero =>
    intro t ht
    have e : t = 20 := by omega
    refine br_t (nI_le (a := 20) (by omega) (by omega)) ?_
    rw [e, Nat.mod_eq_of_lt hm]; exact hp
  | succ d ih =>
    intro t ht
    have es : nI m >>> (nI t &&& 31) = nI (m / 2 ^ t) := pk_shrN (by omega) _ t (wk_sh t (by omega))
    have hd : m / 2 ^ t ≤ m := Nat.div_le_self _ _
    have ea : nI (m / 2 ^ t) &&& 1 = nI (m / 2 ^ t % 2 ^ 1) := pk_andN (by omega) 1 (by decide)
    have l1 := wk_lt h (i := i) (m := 2 ^ t) hi
    have l2 := wk_lt h (i := i) (m := m % 2 ^ t) hi
    have e2 : cg_S p a c ax ay (gp_mul (cg_S p a c ax ay) i (2 ^ t)) (gp_mul (cg_S p a c ax ay) i (2 ^ t)) = gp_mul (cg_S p a c ax ay) i (2 ^ (t + 1)) := by
      rw [gp_add (cg_ok h) hi]
      exact congrArg _ (by rw [Nat.pow_succ]; omega)
    have e3 := Nat.mod_pow_succ (x := m) (b := 2) (k := t)
    refine br_f (nI_ge (b := 20) (by omega) (by omega)) ?_
    rw [es, ea]
    rcases Nat.eq_zero_or_pos (m / 2 ^ t) with z | z
    · refine br_t (by rw [z]; decide) ?_
      have e := Nat.div_add_mod m (2 ^ t)
      rw [z, Nat.mul_zero, Nat.zero_add] at e
      rw [e]; exact hp
    · refine br_f (nI_nle z (by omega)) ?_
      have lst : ∀ s, s = m % 2 ^ (t + 1) → wX_times_88 post (wX_times_54 post (nI m) (nI p) (nI a) (nI b) (nI c) ax ay (d + 1)) (nI m) (nI (gp_mul (cg_S p a c ax ay) i (2 ^ t))) (nI (gp_mul (cg_S p a c ax ay) i s)) (nI t) (nI p) (nI a) (nI b) (nI c) ax ay := by
        intro s es
        unfold wX_times_88
        refine xw_add h l1 l1 (nm_r (nI_1 t) ?_)
        rw [e2, es]
        exact ih (t + 1) (by omega)
      rcases Nat.mod_two_eq_zero_or_one (m / 2 ^ t) with w | w
      · refine br_f (by rw [Nat.pow_one, w]; decide) (lst _ ?_)
        rw [e3, w]; omega
      · refine br_t (by rw [Nat.pow_one, w]; decide) ?_
        refine xw_add h l2 l1 ?_
        rw [gp_add (cg_ok h) hi]
        refine lst _ ?_
        rw [e3, w, Nat.mul_one]
theorem xw_tm (h : cg_L p a b c ax ay) {i m : Nat} (hi : i < c) (hm : m < 2 ^ 20) {post : Int32 → Prop} (hp : post (nI (gp_mul (cg_S p a c ax ay) i m))) : ∃ n, wX_times_54 post (nI m) (nI p) (nI a) (nI b) (nI c) ax ay n (nI i) 0 0 := by
  have w := xw_tm_l h hi hm hp 20 0 (by omega)
  rw [Nat.pow_zero, gp_1 (cg_ok h) hi, Nat.mod_one, nI_0] at w
  exact ⟨_, w⟩
theorem wk_ti (v : Int32) : v = zi_ v.toInt := (Int32.ofInt_toInt v).symm
theorem xw_times (h : cg_L p a b c ax ay) {i : Nat} (hi : i < c) {v : Int32} (h1 : ¬ v < -1000000) (h2 : v ≤ 1000000) {post : Int32 → Prop} (hp : post (nI (gp_tm (cg_S p a c ax ay) i v.toInt))) : wpX_times post (nI p, nI a, nI b, nI c, ax, ay) (nI i) v := by
  have k1 : ¬ v.toInt < -1000000 := fun g => h1 (Int32.lt_iff_toInt_lt.mpr g)
  have k2 : v.toInt ≤ 1000000 := Int32.le_iff_toInt_le.mp h2
  have s := cg_ng_s h hi
  unfold wpX_times
  dsimp only
  refine xw_ip_t h hi ?_
  refine br_f wk_10 ?_
  refine br_f h1 ?_
  refine br_t h2 ?_
  by_cases g : 0 ≤ v
  · refine br_t g ?_
    unfold wX_times_32
    refine br_t g ?_
    have k0 : 0 ≤ v.toInt := Int32.le_iff_toInt_le.mp g
    obtain ⟨m, hm⟩ := Int.eq_ofNat_of_zero_le k0
    have ev : v = nI m := by rw [zi_n, ← hm]; exact wk_ti v
    rw [hm, ← gp_tm_p (cg_ok h) hi] at hp
    rw [ev]
    exact xw_tm h hi (by omega) hp
  · refine br_f g ?_
    unfold wX_times_32
    refine br_f g ?_
    have k0 : ¬ 0 ≤ v.toInt := fun w => g (Int32.le_iff_toInt_le.mpr w)
    obtain ⟨m, hm⟩ := Int.eq_ofNat_of_zero_le (show 0 ≤ -v.toInt by omega)
    have hm' : v.toInt = -(m : Int) := by omega
    have ev : -v = nI m := by rw [zi_n, ← hm, ← zi_neg, ← wk_ti]
    rw [hm', ← gp_tm_n (cg_ok h) hi s.1 s.2.1] at hp
    rw [ev]
    exact xw_neg h hi (xw_tm h s.1 (by omega) hp)
theorem yw_mul (h : cg_L p a b c ax ay) {i : Nat} (hi : i < c) {v : Int32} (h1 : ¬ v < -1000000) (h2 : v ≤ 1000000) {post : Int32 → Prop} (hp : post (nI (gp_tm (cg_S p a c ax ay) i v.toInt))) : wpY_multiple post (nI p, nI a, nI b, nI c, ax, ay) (nI i) v := by
  have q := wk_b h
  have k1 : ¬ v.toInt < -1000000 := fun g => h1 (Int32.lt_iff_toInt_lt.mpr g)
  have k2 : v.toInt ≤ 1000000 := Int32.le_iff_toInt_le.mp h2
  obtain ⟨o1, o2, o3, o4⟩ := gp_ord_s (cg_ok h) hi
  unfold wpY_multiple
  dsimp only
  refine yw_ord h hi ?_
  refine ⟨nI_ne0 o1 (by omega), nI_ne0 o1 (by omega), ?_⟩
  have er := zi_rs (p := gp_ord (cg_S p a c ax ay) i) (a := v.toInt) o1 (by omega) (by unfold zi_in; omega)
  rw [← wk_ti] at er
  refine nm_r er ?_
  have hl : ec_m (gp_ord (cg_S p a c ax ay) i) v.toInt < gp_ord (cg_S p a c ax ay) i := ec_m_lt o1 _
  have lp : ∀ d k, k + d = ec_m (gp_ord (cg_S p a c ax ay) i) v.toInt → wY_multiple_21 post (nI i) (nI (ec_m (gp_ord (cg_S p a c ax ay) i) v.toInt)) (nI p) (nI a) (nI b) (nI c) ax ay (d + 1) (nI (gp_mul (cg_S p a c ax ay) i k)) (nI k) := by
    intro d
    induction d with
    | zero =>
      intro k hk
      refine br_t (nI_le (by omega) (by omega)) ?_
      have ek : k = ec_m (gp_ord (cg_S p a c ax ay) i) v.toInt := by omega
      rw [ek]; exact hp
    | succ d ih =>
      intro k hk
      refine br_f (nI_ge (by omega) (by omega)) ?_
      exact yw_sum h (wk_lt h hi) hi (nm_r (nI_1 k) (ih (k + 1) (by omega)))
  have w := lp (ec_m (gp_ord (cg_S p a c ax ay) i) v.toInt) 0 (by omega)
  have e0 : gp_mul (cg_S p a c ax ay) i 0 = 0 := rfl
  rw [e0, nI_0] at w
  exact ⟨_, w⟩
end WKO
end
section
/-! the methods that run over all points -/
section WKC
variable {p a b c : Nat} {ax ay : Nat → Int32}
theorem wk_mx1 (h : cg_L p a b c ax ay) : gp_mx (cg_S p a c ax ay) 1 = 1 ∧ gp_gn (cg_S p a c ax ay) 1 = 0 := by
  have e := gp_ord_0 (cg_ok h)
  have l : gp_mx (cg_S p a c ax ay) 0 < gp_ord (cg_S p a c ax ay) 0 := by rw [e]; exact Nat.zero_lt_one
  exact ⟨(if_pos l).trans e, if_pos l⟩
theorem wk_mxt {S : Nat → Nat → Nat} {n : Nat} (g : gp_mx S n < gp_ord S n) : gp_mx S (n + 1) = gp_ord S n ∧ gp_gn S (n + 1) = n := ⟨if_pos g, if_pos g⟩
theorem wk_mxf {S : Nat → Nat → Nat} {n : Nat} (g : ¬ gp_mx S n < gp_ord S n) : gp_mx S (n + 1) = gp_mx S n ∧ gp_gn S (n + 1) = gp_gn S n := ⟨if_neg g, if_neg g⟩
theorem xw_gen (h : cg_L p a b c ax ay) {post : Int32 → Prop} (hp : post (nI (gp_gn (cg_S p a c ax ay) c))) : wpX_generator post (nI p, nI a, nI b, nI c, ax, ay) := by
  have q := wk_b h
  have lp : ∀ d k, k + d = c → 1 ≤ k → wX_generator_6 post (nI p) (nI a) (nI b) (nI c) ax ay (d + 1) (nI (gp_gn (cg_S p a c ax ay) k)) (nI (gp_mx (cg_S p a c ax ay) k)) (nI k) := by
    intro d
    induction d with
    | zero =>
      intro k hk k1
      refine br_t (nI_le (by omega) (by omega)) ?_
      rw [show k = c by omega]; exact hp
    | succ d ih =>
      intro k hk k1
      have hkc : k < c := by omega
      obtain ⟨o1, o2, o3, o4⟩ := gp_ord_s (cg_ok h) hkc
      have m := gp_mx_c (cg_ok h) (n := k) (by omega) (by omega)
      refine br_f (nI_ge (by omega) (by omega)) (xw_ord h hkc ?_)
      have nx := ih (k + 1) (by omega) (by omega)
      by_cases g : gp_mx (cg_S p a c ax ay) k < gp_ord (cg_S p a c ax ay) k
      · have e := wk_mxt g
        rw [e.1, e.2] at nx
        exact br_f (nI_ge (by omega) (by omega)) (nm_r (nI_1 k) nx)
      · have e := wk_mxf g
        rw [e.1, e.2] at nx
        exact br_t (nI_le (by omega) (by omega)) (nm_r (nI_1 k) nx)
  have w := lp (c - 1) 1 (by omega) (by omega)
  rw [(wk_mx1 h).1, (wk_mx1 h).2, nI_0] at w
  exact ⟨_, w⟩
theorem yw_exp (h : cg_L p a b c ax ay) {post : Int32 → Prop} (hp : post (nI (gp_mx (cg_S p a c ax ay) c))) : wpY_exponent post (nI p, nI a, nI b, nI c, ax, ay) := by
  have q := wk_b h
  have lp : ∀ d k, k + d = c → wY_exponent_4 post (nI p) (nI a) (nI b) (nI c) ax ay (d + 1) (nI (gp_mx (cg_S p a c ax ay) k)) (nI k) := by
    intro d
    induction d with
    | zero =>
      intro k hk
      refine br_t (nI_le (by omega) (by omega)) ?_
      rw [show k = c by omega]; exact hp
    | succ d ih =>
      intro k hk
      have hkc : k < c := by omega
      obtain ⟨o1, o2, o3, o4⟩ := gp_ord_s (cg_ok h) hkc
      have mb : gp_mx (cg_S p a c ax ay) k ≤ c := by
        rcases Nat.eq_zero_or_pos k with z | z
        · rw [z]; exact Nat.zero_le _
        · exact (gp_mx_c (cg_ok h) (n := k) z (by omega)).2.1
      refine br_f (nI_ge (by omega) (by omega)) (yw_ord h hkc ?_)
      have nx := ih (k + 1) (by omega)
      by_cases g : gp_mx (cg_S p a c ax ay) k < gp_ord (cg_S p a c ax ay) k
      · have e := wk_mxt g
        rw [e.1] at nx
        exact br_f (nI_ge (by omega) (by omega)) (nm_r (nI_1 k) nx)
      · have e := wk_mxf g
        rw [e.1] at nx
        exact br_t (nI_le (by omega) (by omega)) (nm_r (nI_1 k) nx)
  have w := lp c 0 (by omega)
  have e0 : gp_mx (cg_S p a c ax ay) 0 = 0 := rfl
  rw [e0, nI_0] at w
  exact ⟨_, w⟩
theorem yw_gen (h : cg_L p a b c ax ay) {post : Int32 → Prop} (hp : post (nI (gp_gn (cg_S p a c ax ay) c))) : wpY_generator post (nI p, nI a, nI b, nI c, ax, ay) := by
  have q := wk_b h
  obtain ⟨m1, m2, m3, m4, m5⟩ := gp_mx_c (cg_ok h) (n := c) (by omega) (Nat.le_refl c)
  unfold wpY_generator
  dsimp only
  refine yw_exp h ?_
  have lp : ∀ d k, k + d = gp_gn (cg_S p a c ax ay) c → wY_generator_7 post (nI (gp_mx (cg_S p a c ax ay) c)) (nI p) (nI a) (nI b) (nI c) ax ay (d + 1) (nI k) := by
    intro d
    induction d with
    | zero =>
      intro k hk
      have ek : k = gp_gn (cg_S p a c ax ay) c := by omega
      unfold wY_generator_7
      refine yw_ord h (by omega) ?_
      refine br_t ?_ ?_
      · rw [ek, m4]
      · rw [ek]; exact hp
    | succ d ih =>
      intro k hk
      have l := m5 k (by omega)
      unfold wY_generator_7
      refine yw_ord h (by omega) ?_
      refine br_f (fun g => ?_) (nm_r (nI_1 k) (ih (k + 1) (by omega)))
      have e := (nI_eq (by omega) (by omega)).mp g
      omega
  have w := lp (gp_gn (cg_S p a c ax ay) c) 0 (by omega)
  rw [nI_0] at w
  exact ⟨_, w⟩
theorem xw_exp (h : cg_L p a b c ax ay) {post : Int32 → Prop} (hp : post (nI (gp_mx (cg_S p a c ax ay) c))) : wpX_exponent post (nI p, nI a, nI b, nI c, ax, ay) := by
  have q := wk_b h
  obtain ⟨m1, m2, m3, m4, m5⟩ := gp_mx_c (cg_ok h) (n := c) (by omega) (Nat.le_refl c)
  unfold wpX_exponent
  dsimp only
  refine xw_gen h ?_
  refine xw_ord h m3 ?_
  rw [m4]; exact hp
theorem xw_wid (h : cg_L p a b c ax ay) {post : Int32 → Prop} (hp : post (nI c / nI (gp_mx (cg_S p a c ax ay) c))) : wpX_width post (nI p, nI a, nI b, nI c, ax, ay) := by
  have q := wk_b h
  obtain ⟨m1, m2, m3, m4, m5⟩ := gp_mx_c (cg_ok h) (n := c) (by omega) (Nat.le_refl c)
  unfold wpX_width
  dsimp only
  refine xw_gen h ?_
  refine xw_ord h m3 ?_
  rw [m4]
  exact br_f (nI_nle m1 (by omega)) ⟨nI_ne0 m1 (by omega), hp⟩
theorem yw_wid (h : cg_L p a b c ax ay) {post : Int32 → Prop} (hp : post (nI c / nI (gp_mx (cg_S p a c ax ay) c))) : wpY_width post (nI p, nI a, nI b, nI c, ax, ay) := by
  have q := wk_b h
  obtain ⟨m1, m2, m3, m4, m5⟩ := gp_mx_c (cg_ok h) (n := c) (by omega) (Nat.le_refl c)
  unfold wpY_width
  dsimp only
  refine yw_exp h ?_
  exact ⟨nI_ne0 m1 (by omega), hp⟩
/-- how many k have m k = i -/
noncomputable def cg_rt (p a c : Nat) (ax ay : Nat → Int32) (i : Nat) (e : Int) (n : Nat) : Nat := gp_cn (fun k => Nat.beq (gp_tm (cg_S p a c ax ay) k e) i) n
theorem wk_cnt {f : Nat → Bool} {n : Nat} (g : f n = true) : nI (gp_cn f n) + 1 = nI (gp_cn f (n + 1)) := by rw [gp_cn_t g, nI_1]
theorem xw_rts (h : cg_L p a b c ax ay) {i : Nat} (hi : i < c) {v : Int32} (h1 : ¬ v < 1) (h2 : v ≤ 1000) {post : Int32 → Prop} (hp : post (nI (cg_rt p a c ax ay i v.toInt c))) : wpX_roots post (nI p, nI a, nI b, nI c, ax, ay) (nI i) v := by
  have q := wk_b h
  have t1 : ¬ v < -1000000 := fun g => h1 (Int32.lt_trans g (by decide))
  have t2 : v ≤ 1000000 := Int32.le_trans h2 (by decide)
  unfold wpX_roots
  dsimp only
  refine xw_ip_t h hi ?_
  refine br_f wk_10 ?_
  refine br_f h1 ?_
  refine br_t h2 ?_
  have lp : ∀ d k, k + d = c → wX_roots_27 post (nI i) v (nI p) (nI a) (nI b) (nI c) ax ay (d + 1) (nI (cg_rt p a c ax ay i v.toInt k)) (nI k) := by
    intro d
    induction d with
    | zero =>
      intro k hk
      refine br_t (nI_le (by omega) (by omega)) ?_
      rw [show k = c by omega]; exact hp
    | succ d ih =>
      intro k hk
      have hl := gp_tm_lt (cg_ok h) (show k < c by omega) v.toInt
      have nx := ih (k + 1) (by omega)
      refine br_f (nI_ge (by omega) (by omega)) (xw_times h (by omega) t1 t2 ?_)
      by_cases g : gp_tm (cg_S p a c ax ay) k v.toInt = i
      · have w : nI (cg_rt p a c ax ay i v.toInt k) + 1 = nI (cg_rt p a c ax ay i v.toInt (k + 1)) := wk_cnt (by rw [g]; exact Nat.beq_refl i)
        exact br_t (by rw [g]) (nm_r w (nm_r (nI_1 k) nx))
      · have w : cg_rt p a c ax ay i v.toInt (k + 1) = cg_rt p a c ax ay i v.toInt k := gp_cn_f (fun z => g (Nat.eq_of_beq_eq_true z))
        rw [w] at nx
        exact br_f (fun z => g ((nI_eq (by omega) (by omega)).mp z)) (nm_r (nI_1 k) nx)
  have w := lp c 0 (by omega)
  have e0 : cg_rt p a c ax ay i v.toInt 0 = 0 := rfl
  rw [e0, nI_0] at w
  exact ⟨_, w⟩
theorem yw_nt_t {v : Int32} (h1 : ¬ v < 1) (h2 : v ≤ 1000) {u : SY} {post : Int32 → Prop} (hp : post 0) : wpY_noTimes post u v := by
  obtain ⟨f1, f2, f3, f4, f5, f6⟩ := u
  exact br_f h1 (br_t h2 hp)
theorem yw_nt_f {v : Int32} (h1 : v < 1 ∨ ¬ v ≤ 1000) {u : SY} {post : Int32 → Prop} (hp : post 1) : wpY_noTimes post u v := by
  obtain ⟨f1, f2, f3, f4, f5, f6⟩ := u
  by_cases g : v < 1
  · exact br_t g hp
  · rcases h1 with w | w
    · exact absurd w g
    · exact br_f g (br_f w hp)
theorem yw_rts (h : cg_L p a b c ax ay) {i : Nat} (hi : i < c) {v : Int32} (h1 : ¬ v < 1) (h2 : v ≤ 1000) {post : Int32 → Prop} (hp : post (nI (cg_rt p a c ax ay i v.toInt c))) : wpY_roots post (nI p, nI a, nI b, nI c, ax, ay) (nI i) v := by
  have q := wk_b h
  have t1 : ¬ v < -1000000 := fun g => h1 (Int32.lt_trans g (by decide))
  have t2 : v ≤ 1000000 := Int32.le_trans h2 (by decide)
  unfold wpY_roots
  dsimp only
  refine yw_np_t h hi ?_
  refine br_t rfl ?_
  refine yw_nt_t h1 h2 ?_
  refine br_t rfl ?_
  have lp : ∀ d k, k + d = c → wY_roots_23 post (nI i) v (nI p) (nI a) (nI b) (nI c) ax ay (d + 1) (nI (cg_rt p a c ax ay i v.toInt k)) (nI k) := by
    intro d
    induction d with
    | zero =>
      intro k hk
      refine br_t (nI_le (by omega) (by omega)) ?_
      rw [show k = c by omega]; exact hp
    | succ d ih =>
      intro k hk
      have hl := gp_tm_lt (cg_ok h) (show k < c by omega) v.toInt
      have nx := ih (k + 1) (by omega)
      refine br_f (nI_ge (by omega) (by omega)) (yw_mul h (by omega) t1 t2 ?_)
      by_cases g : gp_tm (cg_S p a c ax ay) k v.toInt = i
      · have w : nI (cg_rt p a c ax ay i v.toInt k) + 1 = nI (cg_rt p a c ax ay i v.toInt (k + 1)) := wk_cnt (by rw [g]; exact Nat.beq_refl i)
        exact br_t (by rw [g]) (nm_r w (nm_r (nI_1 k) nx))
      · have w : cg_rt p a c ax ay i v.toInt (k + 1) = cg_rt p a c ax ay i v.toInt k := gp_cn_f (fun z => g (Nat.eq_of_beq_eq_true z))
        rw [w] at nx
        exact br_f (fun z => g ((nI_eq (by omega) (by omega)).mp z)) (nm_r (nI_1 k) nx)
  have w := lp c 0 (by omega)
  have e0 : cg_rt p a c ax ay i v.toInt 0 = 0 := rfl
  rw [e0, nI_0] at w
  exact ⟨_, w⟩
theorem wk_m {v : Int32} (h1 : ¬ v < 1) (h2 : v ≤ 1000) : ∃ m : Nat, 1 ≤ m ∧ m ≤ 1000 ∧ v = nI m ∧ v.toInt = (m : Int) := by
  have k1 : ¬ v.toInt < 1 := fun g => h1 (Int32.lt_iff_toInt_lt.mpr g)
  have k2 : v.toInt ≤ 1000 := Int32.le_iff_toInt_le.mp h2
  obtain ⟨m, hm⟩ := Int.eq_ofNat_of_zero_le (show 0 ≤ v.toInt by omega)
  exact ⟨m, by omega, by omega, by rw [zi_n, ← hm]; exact wk_ti v, hm⟩
theorem yw_tor (h : cg_L p a b c ax ay) {v : Int32} (h1 : ¬ v < 1) (h2 : v ≤ 1000) {post : Int32 → Prop} (hp : post (nI (cg_rt p a c ax ay 0 v.toInt c))) : wpY_torsion post (nI p, nI a, nI b, nI c, ax, ay) v := by
  have q := wk_b h
  obtain ⟨m, m1, m2, ev, et⟩ := wk_m h1 h2
  unfold wpY_torsion
  dsimp only
  refine yw_nt_t h1 h2 ?_
  refine br_t rfl ?_
  have lp : ∀ d k, k + d = c → wY_torsion_14 post v (nI p) (nI a) (nI b) (nI c) ax ay (d + 1) (nI (cg_rt p a c ax ay 0 v.toInt k)) (nI k) := by
    intro d
    induction d with
    | zero =>
      intro k hk
      refine br_t (nI_le (by omega) (by omega)) ?_
      rw [show k = c by omega]; exact hp
    | succ d ih =>
      intro k hk
      have hkc : k < c := by omega
      obtain ⟨o1, o2, o3, o4⟩ := gp_ord_s (cg_ok h) hkc
      have nx := ih (k + 1) (by omega)
      have er : v - v / nI (gp_ord (cg_S p a c ax ay) k) * nI (gp_ord (cg_S p a c ax ay) k) = nI (m % gp_ord (cg_S p a c ax ay) k) := by
        rw [ev]; exact wk_rem (by omega) (by omega)
      have hm : m % gp_ord (cg_S p a c ax ay) k < gp_ord (cg_S p a c ax ay) k := Nat.mod_lt _ o1
      have z := gp_tm_0 (cg_ok h) hkc m
      rw [← et] at z
      refine br_f (nI_ge (by omega) (by omega)) (yw_ord h hkc ⟨nI_ne0 o1 (by omega), ?_⟩)
      by_cases g : m % gp_ord (cg_S p a c ax ay) k = 0
      · have w : nI (cg_rt p a c ax ay 0 v.toInt k) + 1 = nI (cg_rt p a c ax ay 0 v.toInt (k + 1)) := wk_cnt (by rw [z.mpr g]; exact Nat.beq_refl 0)
        exact br_t (by rw [er, g]; exact nI_0) (nm_r w (nm_r (nI_1 k) nx))
      · have w : cg_rt p a c ax ay 0 v.toInt (k + 1) = cg_rt p a c ax ay 0 v.toInt k := gp_cn_f (fun t => g (z.mp (Nat.eq_of_beq_eq_true t)))
        rw [w] at nx
        exact br_f (by rw [er]; exact fun t => g ((wk_eq0 (by omega)).mp t)) (nm_r (nI_1 k) nx)
  have w := lp c 0 (by omega)
  have e0 : cg_rt p a c ax ay 0 v.toInt 0 = 0 := rfl
  rw [e0, nI_0] at w
  exact ⟨_, w⟩
/-- how many k have order m -/
noncomputable def cg_oo (p a c : Nat) (ax ay : Nat → Int32) (m n : Nat) : Nat := gp_cn (fun k => Nat.beq (gp_ord (cg_S p a c ax ay) k) m) n
theorem xw_oo (h : cg_L p a b c ax ay) {m : Nat} (m1 : 1 ≤ m) (m2 : m ≤ 1000) {post : Int32 → Prop} (hp : post (nI (cg_oo p a c ax ay m c))) : wpX_ofOrder post (nI p, nI a, nI b, nI c, ax, ay) (nI m) := by
  have q := wk_b h
  refine br_f (nI_nlt (b := 1) m1 (by omega)) (br_t (nI_le (b := 1000) m2 (by omega)) ?_)
  have lp : ∀ d k, k + d = c → wX_ofOrder_18 post (nI m) (nI p) (nI a) (nI b) (nI c) ax ay (d + 1) (nI (cg_oo p a c ax ay m k)) (nI k) := by
    intro d
    induction d with
    | zero =>
      intro k hk
      refine br_t (nI_le (by omega) (by omega)) ?_
      rw [show k = c by omega]; exact hp
    | succ d ih =>
      intro k hk
      have hkc : k < c := by omega
      obtain ⟨o1, o2, o3, o4⟩ := gp_ord_s (cg_ok h) hkc
      have nx := ih (k + 1) (by omega)
      refine br_f (nI_ge (by omega) (by omega)) (xw_ord h hkc ?_)
      by_cases g : gp_ord (cg_S p a c ax ay) k = m
      · have w : nI (cg_oo p a c ax ay m k) + 1 = nI (cg_oo p a c ax ay m (k + 1)) := wk_cnt (by rw [g]; exact Nat.beq_refl m)
        exact br_t (by rw [g]) (nm_r w (nm_r (nI_1 k) nx))
      · have w : cg_oo p a c ax ay m (k + 1) = cg_oo p a c ax ay m k := gp_cn_f (fun t => g (Nat.eq_of_beq_eq_true t))
        rw [w] at nx
        exact br_f (fun t => g ((nI_eq (by omega) (by omega)).mp t)) (nm_r (nI_1 k) nx)
  have w := lp c 0 (by omega)
  have e0 : cg_oo p a c ax ay m 0 = 0 := rfl
  rw [e0, nI_0] at w
  exact ⟨_, w⟩
theorem yw_oo (h : cg_L p a b c ax ay) {m : Nat} (m1 : 1 ≤ m) (m2 : m ≤ 1000) {post : Int32 → Prop} (hp : post (nI (cg_oo p a c ax ay m c))) : wpY_ofOrder post (nI p, nI a, nI b, nI c, ax, ay) (nI m) := by
  have q := wk_b h
  unfold wpY_ofOrder
  dsimp only
  refine yw_nt_t (nI_nlt (b := 1) m1 (by omega)) (nI_le (b := 1000) m2 (by omega)) ?_
  refine br_t rfl ?_
  have lp : ∀ d k, k + d = c → wY_ofOrder_14 post (nI m) (nI p) (nI a) (nI b) (nI c) ax ay (d + 1) (nI (cg_oo p a c ax ay m k)) (nI k) := by
    intro d
    induction d with
    | zero =>
      intro k hk
      refine br_t (nI_le (by omega) (by omega)) ?_
      rw [show k = c by omega]; exact hp
    | succ d ih =>
      intro k hk
      have hkc : k < c := by omega
      obtain ⟨o1, o2, o3, o4⟩ := gp_ord_s (cg_ok h) hkc
      have nx := ih (k + 1) (by omega)
      refine br_f (nI_ge (by omega) (by omega)) (yw_ord h hkc ?_)
      by_cases g : gp_ord (cg_S p a c ax ay) k = m
      · have w : nI (cg_oo p a c ax ay m k) + 1 = nI (cg_oo p a c ax ay m (k + 1)) := wk_cnt (by rw [g]; exact Nat.beq_refl m)
        exact br_t (by rw [g]) (nm_r w (nm_r (nI_1 k) nx))
      · have w : cg_oo p a c ax ay m (k + 1) = cg_oo p a c ax ay m k := gp_cn_f (fun t => g (Nat.eq_of_beq_eq_true t))
        rw [w] at nx
        exact br_f (fun t => g ((nI_eq (by omega) (by omega)).mp t)) (nm_r (nI_1 k) nx)
  have w := lp c 0 (by omega)
  have e0 : cg_oo p a c ax ay m 0 = 0 := rfl
  rw [e0, nI_0] at w
  exact ⟨_, w⟩
/-- what a logarithm answers -/
def cg_lg (S : Nat → Nat → Nat) (i j : Nat) (r : Int32) : Prop := (∃ e, gp_mul S i e = j ∧ r = nI e ∧ ∀ k, k < e → gp_mul S i k ≠ j) ∨ ((∀ e, gp_mul S i e ≠ j) ∧ r = -4)
theorem cg_lg_e (S : Nat → Nat → Nat) (i j : Nat) : ∃ r, cg_lg S i j r := by
  by_cases g : ∃ e, gp_mul S i e = j
  · obtain ⟨e, he, hn⟩ := gp_least (fun e => gp_mul S i e = j) g
    exact ⟨nI e, Or.inl ⟨e, he, rfl, hn⟩⟩
  · exact ⟨-4, Or.inr ⟨fun e z => g ⟨e, z⟩, rfl⟩⟩
theorem cg_lg_l (h : cg_L p a b c ax ay) {i j e : Nat} (hi : i < c) (he : gp_mul (cg_S p a c ax ay) i e = j) (hn : ∀ k, k < e → gp_mul (cg_S p a c ax ay) i k ≠ j) : e < gp_ord (cg_S p a c ax ay) i := by
  obtain ⟨o1, o2, o3, o4⟩ := gp_ord_s (cg_ok h) hi
  have m := gp_mod (cg_ok h) hi e
  have l : e % gp_ord (cg_S p a c ax ay) i < gp_ord (cg_S p a c ax ay) i := Nat.mod_lt _ o1
  rcases Nat.lt_or_ge e (gp_ord (cg_S p a c ax ay) i) with g | g
  · exact g
  · exact absurd (m.symm.trans he) (hn _ (by omega))
theorem xw_log (h : cg_L p a b c ax ay) {i j : Nat} (hi : i < c) (hj : j < c) {r : Int32} (hr : cg_lg (cg_S p a c ax ay) i j r) {post : Int32 → Prop} (hp : post r) : wpX_logarithm post (nI p, nI a, nI b, nI c, ax, ay) (nI i) (nI j) := by
  have q := wk_b h
  obtain ⟨o1, o2, o3, o4⟩ := gp_ord_s (cg_ok h) hi
  unfold wpX_logarithm
  dsimp only
  refine xw_ip_t h hi ?_
  refine br_f wk_10 ?_
  refine xw_ip_t h hj ?_
  refine br_f wk_10 ?_
  have lp : ∀ d k, k + d = c → (∀ t, t < k → gp_mul (cg_S p a c ax ay) i t ≠ j) → wX_logarithm_23 post (nI i) (nI j) (nI p) (nI a) (nI b) (nI c) ax ay (d + 1) (nI (gp_mul (cg_S p a c ax ay) i k)) (nI k) := by
    intro d
    induction d with
    | zero =>
      intro k hk hn
      refine br_t (nI_le (by omega) (by omega)) ?_
      rcases hr with ⟨e, he, _, hl⟩ | ⟨_, er⟩
      · have z := cg_lg_l h hi he hl
        exact absurd he (hn e (by omega))
      · rw [← er]; exact hp
    | succ d ih =>
      intro k hk hn
      have hl := wk_lt h (i := i) (m := k) hi
      refine br_f (nI_ge (by omega) (by omega)) ?_
      by_cases g : gp_mul (cg_S p a c ax ay) i k = j
      · refine br_t (by rw [g]) ?_
        rcases hr with ⟨e, he, er, hl⟩ | ⟨hl, _⟩
        · have ek : e = k := by
            rcases Nat.lt_trichotomy e k with w | w | w
            · exact absurd he (hn e w)
            · exact w
            · exact absurd g (hl k w)
          rw [← ek, ← er]; exact hp
        · exact absurd g (hl k)
      · refine br_f (fun t => g ((nI_eq (by omega) (by omega)).mp t)) ?_
        refine xw_add h hl hi (nm_r (nI_1 k) (ih (k + 1) (by omega) (fun t ht => ?_)))
        rcases Nat.lt_or_ge t k with w | w
        · exact hn t w
        · rw [show t = k by omega]; exact g
  have w := lp c 0 (by omega) (fun t ht => absurd ht (Nat.not_lt_zero t))
  have e0 : gp_mul (cg_S p a c ax ay) i 0 = 0 := rfl
  rw [e0, nI_0] at w
  exact ⟨_, w⟩
theorem yw_log (h : cg_L p a b c ax ay) {i j : Nat} (hi : i < c) (hj : j < c) {r : Int32} (hr : cg_lg (cg_S p a c ax ay) i j r) {post : Int32 → Prop} (hp : post r) : wpY_logarithm post (nI p, nI a, nI b, nI c, ax, ay) (nI i) (nI j) := by
  have q := wk_b h
  obtain ⟨o1, o2, o3, o4⟩ := gp_ord_s (cg_ok h) hi
  unfold wpY_logarithm
  dsimp only
  refine yw_np_t h hi ?_
  refine br_t rfl ?_
  refine yw_np_t h hj ?_
  refine br_t rfl ?_
  refine yw_ord h hi ?_
  have lp : ∀ d k, k + d = gp_ord (cg_S p a c ax ay) i → (∀ t, t < k → gp_mul (cg_S p a c ax ay) i t ≠ j) → wY_logarithm_30 post (nI i) (nI j) (nI (gp_ord (cg_S p a c ax ay) i)) (nI p) (nI a) (nI b) (nI c) ax ay (d + 1) (nI (gp_mul (cg_S p a c ax ay) i k)) (nI k) := by
    intro d
    induction d with
    | zero =>
      intro k hk hn
      refine br_t (nI_le (by omega) (by omega)) ?_
      rcases hr with ⟨e, he, _, hl⟩ | ⟨_, er⟩
      · have z := cg_lg_l h hi he hl
        exact absurd he (hn e (by omega))
      · rw [← er]; exact hp
    | succ d ih =>
      intro k hk hn
      have hl := wk_lt h (i := i) (m := k) hi
      refine br_f (nI_ge (by omega) (by omega)) ?_
      by_cases g : gp_mul (cg_S p a c ax ay) i k = j
      · refine br_t (by rw [g]) ?_
        rcases hr with ⟨e, he, er, hl⟩ | ⟨hl, _⟩
        · have ek : e = k := by
            rcases Nat.lt_trichotomy e k with w | w | w
            · exact absurd he (hn e w)
            · exact w
            · exact absurd g (hl k w)
          rw [← ek, ← er]; exact hp
        · exact absurd g (hl k)
      · refine br_f (fun t => g ((nI_eq (by omega) (by omega)).mp t)) ?_
        refine yw_sum h hl hi (nm_r (nI_1 k) (ih (k + 1) (by omega) (fun t ht => ?_)))
        rcases Nat.lt_or_ge t k with w | w
        · exact hn t w
        · rw [show t = k by omega]; exact g
  have w := lp (gp_ord (cg_S p a c ax ay) i) 0 (by omega) (fun t ht => absurd ht (Nat.not_lt_zero t))
  have e0 : gp_mul (cg_S p a c ax ay) i 0 = 0 := rfl
  rw [e0, nI_0] at w
  exact ⟨_, w⟩
end WKC
end
section
/-! the twist and the changes on both sides -/
theorem yw_rest0 {p : Nat} (p0 : 0 < p) (hp : p ≤ 1000) {f2 f3 f4 : Int32} {g1 g2 : Nat → Int32} {w : Int32} {z : Int} (e : w = zi_ z) (hz : zi_in z) {post : Int32 → Prop} (hq : post (nI (ec_m p z))) : wpY_rest post (nI p, f2, f3, f4, g1, g2) w := by
  have er := zi_rs (p := p) (a := z) p0 hp hz
  rw [← e] at er
  refine ⟨nI_ne0 p0 (by omega), nI_ne0 p0 (by omega), ?_⟩
  rw [er]; exact hq
theorem wk_on_e {p A B x y : Nat} (hb : 5 ≤ p ∧ p ≤ 61) (hx : x < 61) (hy : y < 61) (hA : A < 61) (hB : B < 61) :
    nI y * nI y - nI y * nI y / nI p * nI p = nI (y * y % p) ∧ nI x * nI x * nI x + nI A * nI x + nI B - (nI x * nI x * nI x + nI A * nI x + nI B) / nI p * nI p = nI ((x * (x * x) + A * x + B) % p) := by
  have b1 : y * y ≤ 61 * 61 := Nat.mul_le_mul (by omega) (by omega)
  have b2 : x * x ≤ 61 * 61 := Nat.mul_le_mul (by omega) (by omega)
  have b3 : x * (x * x) ≤ 61 * (61 * 61) := Nat.mul_le_mul (by omega) b2
  have b4 : A * x ≤ 61 * 61 := Nat.mul_le_mul (by omega) (by omega)
  refine ⟨by rw [wk_mul, wk_rem (by omega) (by omega)], ?_⟩
  rw [wk_mul, wk_mul, wk_mul, nI_add, nI_add, Nat.mul_assoc x x x, wk_rem (by omega) (by omega)]
theorem xw_on_t {p A B x y : Nat} (hb : 5 ≤ p ∧ p ≤ 61) (hx : x < 61) (hy : y < 61) (hA : A < 61) (hB : B < 61) (ho : ec_on p A B x y) {f2 f3 f4 : Int32} {g1 g2 : Nat → Int32} {post : Int32 → Prop} (hp : post 1) : wpX_isOnCurve post (nI p, f2, f3, f4, g1, g2) (nI x) (nI y) (nI A) (nI B) := by
  have e := wk_on_e hb hx hy hA hB
  refine ⟨nI_ne0 (by omega) (by omega), nI_ne0 (by omega) (by omega), br_t ?_ hp⟩
  rw [e.1, e.2]
  exact congrArg nI ho
theorem xw_on_f {p A B x y : Nat} (hb : 5 ≤ p ∧ p ≤ 61) (hx : x < 61) (hy : y < 61) (hA : A < 61) (hB : B < 61) (ho : ¬ ec_on p A B x y) {f2 f3 f4 : Int32} {g1 g2 : Nat → Int32} {post : Int32 → Prop} (hp : post 0) : wpX_isOnCurve post (nI p, f2, f3, f4, g1, g2) (nI x) (nI y) (nI A) (nI B) := by
  have e := wk_on_e hb hx hy hA hB
  refine ⟨nI_ne0 (by omega) (by omega), nI_ne0 (by omega) (by omega), br_f ?_ hp⟩
  rw [e.1, e.2]
  intro g
  have l1 : y * y % p < p := Nat.mod_lt _ (by omega)
  have l2 : (x * (x * x) + A * x + B) % p < p := Nat.mod_lt _ (by omega)
  exact ho ((nI_eq (by omega) (by omega)).mp g)
theorem ec_m_z {p : Nat} (p0 : 0 < p) {z : Int} : ec_m p z = 0 ↔ mq_ p z 0 := by
  constructor
  · intro g
    have q := ec_m_q p0 z
    rw [g] at q
    exact mq_s q
  · intro g
    exact ec_m_of p0 (mq_s g)
theorem mq_d0 {p : Nat} {x y : Int} : mq_ p (x - y) 0 ↔ mq_ p x y := by
  constructor
  · intro g
    have q := mq_a g (mq_r (p := p) (x := y))
    have e : x - y + y = x := by grind
    rw [e, Int.zero_add] at q
    exact q
  · intro g
    have q := mq_d g (mq_r (p := p) (x := y))
    rwa [Int.sub_self] at q
/-- the count of the points before row x -/
noncomputable def cg_tw (p A B : Nat) : Nat → Nat
  | 0 => 1
  | x + 1 => cg_tw p A B x + gp_cn (fun z => ec_onb p A B x z) p
section WKT
variable {p a b c : Nat} {ax ay : Nat → Int32}
/-- the least g that is no square -/
def cg_g (p g : Nat) : Prop := 2 ≤ g ∧ g < p - 1 ∧ cg_sq p g = true ∧ ∀ k, 1 ≤ k → k < g → ¬ cg_sq p k = true
theorem cg_g_e (hp : ec_P p) : ∃ g, cg_g p g := by
  have b' := ec_P_b hp
  obtain ⟨g1, h1, h2, h3⟩ := cg_ns hp
  obtain ⟨g, ⟨k1, k2⟩, k3⟩ := gp_least (fun g => 1 ≤ g ∧ cg_sq p g = true) ⟨g1, by omega, h3⟩
  have n1 : ¬ cg_sq p 1 = true := fun z => cg_sq_t.mp z 1 (by omega) rfl
  have l : g ≤ g1 := by
    rcases Nat.lt_or_ge g1 g with w | w
    · exact absurd ⟨by omega, h3⟩ (k3 g1 w)
    · exact w
  refine ⟨g, ?_, by omega, k2, fun k a1 a2 z => k3 k a2 ⟨a1, z⟩⟩
  rcases Nat.lt_or_ge 1 g with w | w
  · exact w
  · have e : g = 1 := by omega
    rw [e] at k2
    exact absurd k2 n1
theorem xw_sq (h : cg_L p a b c ax ay) {g : Nat} (hg : g < p) {r : Int32} (hr : (cg_sq p g = true ∧ r = 0) ∨ (¬ cg_sq p g = true ∧ r = 1)) {post : Int32 → Prop} (hp : post r) : wpX_isSquare post (nI p, nI a, nI b, nI c, ax, ay) (nI g) := by
  have q := wk_b h
  have lp : ∀ d k, k + d = p → (∀ z, z < k → ¬ z * z % p = g) → wX_isSquare_2 post (nI g) (nI p) (nI a) (nI b) (nI c) ax ay (d + 1) (nI k) := by
    intro d
    induction d with
    | zero =>
      intro k hk hn
      refine br_t (nI_le (by omega) (by omega)) ?_
      rcases hr with ⟨_, er⟩ | ⟨w, _⟩
      · rw [← er]; exact hp
      · refine absurd (cg_sq_t.mpr (fun z hz e => ?_)) w
        rw [Nat.mod_eq_of_lt hg] at e
        exact hn z (by omega) e
    | succ d ih =>
      intro k hk hn
      have b1 : k * k ≤ 61 * 61 := Nat.mul_le_mul (by omega) (by omega)
      have er : nI k * nI k - nI k * nI k / nI p * nI p = nI (k * k % p) := by rw [wk_mul, wk_rem (by omega) (by omega)]
      have l1 : k * k % p < p := Nat.mod_lt _ (by omega)
      refine br_f (nI_ge (by omega) (by omega)) ⟨nI_ne0 (by omega) (by omega), ?_⟩
      rw [er]
      by_cases e : k * k % p = g
      · refine br_t (by rw [e]) ?_
        rcases hr with ⟨w, _⟩ | ⟨_, er⟩
        · exact absurd (by rw [Nat.mod_eq_of_lt hg]; exact e) (cg_sq_t.mp w k (by omega))
        · rw [← er]; exact hp
      · refine br_f (fun t => e ((nI_eq (by omega) (by omega)).mp t)) (nm_r (nI_1 k) (ih (k + 1) (by omega) (fun z hz => ?_)))
        rcases Nat.lt_or_ge z k with w | w
        · exact hn z w
        · rw [show z = k by omega]; exact e
  have w := lp p 0 (by omega) (fun z hz => absurd hz (Nat.not_lt_zero z))
  rw [nI_0] at w
  exact ⟨_, w⟩
theorem yw_sq (h : cg_L p a b c ax ay) {g : Nat} (hg : g < p) {r : Int32} (hr : (cg_sq p g = true ∧ r = 0) ∨ (¬ cg_sq p g = true ∧ r = 1)) {post : Int32 → Prop} (hp : post r) : wpY_isSquare post (nI p, nI a, nI b, nI c, ax, ay) (nI g) := by
  have q := wk_b h
  have p0 : 0 < p := by omega
  have lp : ∀ d k, k + d = p → (∀ z, z < k → ¬ z * z % p = g) → wY_isSquare_2 post (nI g) (nI p) (nI a) (nI b) (nI c) ax ay (d + 1) (nI k) := by
    intro d
    induction d with
    | zero =>
      intro k hk hn
      refine br_t (nI_le (by omega) (by omega)) ?_
      rcases hr with ⟨_, er⟩ | ⟨w, _⟩
      · rw [← er]; exact hp
      · refine absurd (cg_sq_t.mpr (fun z hz e => ?_)) w
        rw [Nat.mod_eq_of_lt hg] at e
        exact hn z (by omega) e
    | succ d ih =>
      intro k hk hn
      have k0 : ec_m p ((k : Int) * k - g) = 0 ↔ k * k % p = g := by
        rw [ec_m_z p0, mq_d0, ← Int.natCast_mul, mq_mod, Nat.mod_eq_of_lt hg]
      have l1 : ec_m p ((k : Int) * k - g) < p := ec_m_lt p0 _
      refine br_f (nI_ge (by omega) (by omega)) ?_
      refine yw_rest h (z := (k : Int) * k - g) (by simp only [zi_n, zi_mul, zi_sub]) (zb_in (zb_s (zb_m (zb_n (N := 61) (by omega)) (zb_n (N := 61) (by omega))) (zb_n (N := 61) (by omega))) (by decide)) ?_
      by_cases e : k * k % p = g
      · refine br_t (by rw [k0.mpr e]; exact nI_0) ?_
        rcases hr with ⟨w, _⟩ | ⟨_, er⟩
        · exact absurd (by rw [Nat.mod_eq_of_lt hg]; exact e) (cg_sq_t.mp w k (by omega))
        · rw [← er]; exact hp
      · refine br_f (fun t => e (k0.mp ((wk_eq0 (by omega)).mp t))) (nm_r (nI_1 k) (ih (k + 1) (by omega) (fun z hz => ?_)))
        rcases Nat.lt_or_ge z k with w | w
        · exact hn z w
        · rw [show z = k by omega]; exact e
  have w := lp p 0 (by omega) (fun z hz => absurd hz (Nat.not_lt_zero z))
  rw [nI_0] at w
  exact ⟨_, w⟩
theorem xw_lns (h : cg_L p a b c ax ay) {g : Nat} (hg : cg_g p g) {post : Int32 → Prop} (hp : post (nI g)) : wpX_leastNonSquare post (nI p, nI a, nI b, nI c, ax, ay) := by
  have q := wk_b h
  obtain ⟨g1, g2, g3, g4⟩ := hg
  have e1 : nI p - 1 = nI (p - 1) := wk_sub (a := p) (b := 1) (by omega)
  have lp : ∀ d k, k + d = g → 2 ≤ k → wX_leastNonSquare_2 post (nI p) (nI a) (nI b) (nI c) ax ay (d + 1) (nI k) := by
    intro d
    induction d with
    | zero =>
      intro k hk k1
      have ek : k = g := by omega
      refine br_f (by rw [e1]; exact nI_ge (by omega) (by omega)) ?_
      refine xw_sq h (by omega) (Or.inl ⟨by rw [ek]; exact g3, rfl⟩) ?_
      refine br_t rfl ?_
      rw [ek]; exact hp
    | succ d ih =>
      intro k hk k1
      refine br_f (by rw [e1]; exact nI_ge (by omega) (by omega)) ?_
      refine xw_sq h (by omega) (Or.inr ⟨g4 k (by omega) (by omega), rfl⟩) ?_
      exact br_f wk_10 (nm_r (nI_1 k) (ih (k + 1) (by omega) (by omega)))
  have w := lp (g - 2) 2 (by omega) (by omega)
  exact ⟨_, w⟩
theorem xw_tw_l (h : cg_L p a b c ax ay) {A B : Nat} (hA : A < p) (hB : B < p) {post : Int32 → Prop} (hp : post (nI (cg_tw p A B p))) : ∀ d x, x + d = p → wX_twist_41 post (nI A) (nI B) (nI p) (nI a) (nI b) (nI c) ax ay (d + 1) (nI (cg_tw p A B x)) (nI x) := by
  have q := wk_b h
  intro d
  induction d with
  | zero =>
    intro x hx
    refine br_t (nI_le (by omega) (by omega)) ?_
    rw [show x = p by omega]; exact hp
  | succ d ih =>
    intro x hx
    refine br_f (nI_ge (by omega) (by omega)) ?_
    have nx := ih (x + 1) (by omega)
    have lp : ∀ d' y, y + d' = p → wX_twist_53 post (wX_twist_41 post (nI A) (nI B) (nI p) (nI a) (nI b) (nI c) ax ay (d + 1)) (nI A) (nI B) (nI x) (nI p) (nI a) (nI b) (nI c) ax ay (d' + 1) (nI (cg_tw p A B x + gp_cn (fun z => ec_onb p A B x z) y)) (nI y) := by
      intro d'
      induction d' with
      | zero =>
        intro y hy
        refine br_t (nI_le (by omega) (by omega)) (nm_r (nI_1 x) ?_)
        rw [show y = p by omega]; exact nx
      | succ d' ih' =>
        intro y hy
        have ny := ih' (y + 1) (by omega)
        refine br_f (nI_ge (by omega) (by omega)) ?_
        by_cases o : ec_on p A B x y
        · refine xw_on_t ⟨q.1, q.2.1⟩ (by omega) (by omega) (by omega) (by omega) o ?_
          rw [gp_cn_t (f := fun z => ec_onb p A B x z) (ec_onb_t.mpr o), ← Nat.add_assoc] at ny
          exact br_f wk_10 (nm_r (nI_1 _) (nm_r (nI_1 y) ny))
        · refine xw_on_f ⟨q.1, q.2.1⟩ (by omega) (by omega) (by omega) (by omega) o ?_
          rw [gp_cn_f (f := fun z => ec_onb p A B x z) (fun t => o (ec_onb_t.mp t))] at ny
          exact br_t rfl (nm_r (nI_1 y) ny)
    have w := lp p 0 (by omega)
    have e0 : gp_cn (fun z => ec_onb p A B x z) 0 = 0 := rfl
    rw [e0, Nat.add_zero, nI_0] at w
    exact ⟨_, w⟩
theorem xw_twist (h : cg_L p a b c ax ay) {g : Nat} (hg : cg_g p g) {post : Int32 → Prop} (hp : post (nI (cg_tw p (a * g * g % p) (b * g * g * g % p) p))) : wpX_twist post (nI p, nI a, nI b, nI c, ax, ay) := by
  have q := wk_b h
  have p0 : 0 < p := by omega
  have ha := h.1.2.1
  have hb := h.1.2.2.1
  have g2 := hg.2.1
  have b1 : a * g ≤ 61 * 61 := Nat.mul_le_mul (by omega) (by omega)
  have b2 : a * g * g ≤ 61 * 61 * 61 := Nat.mul_le_mul b1 (by omega)
  have b3 : b * g ≤ 61 * 61 := Nat.mul_le_mul (by omega) (by omega)
  have b4 : b * g * g ≤ 61 * 61 * 61 := Nat.mul_le_mul b3 (by omega)
  have b5 : b * g * g * g ≤ 61 * 61 * 61 * 61 := Nat.mul_le_mul b4 (by omega)
  have e1 : nI a * nI g * nI g - nI a * nI g * nI g / nI p * nI p = nI (a * g * g % p) := by rw [wk_mul, wk_mul, wk_rem (by omega) (by omega)]
  have e2 : nI b * nI g * nI g * nI g - nI b * nI g * nI g * nI g / nI p * nI p = nI (b * g * g * g % p) := by rw [wk_mul, wk_mul, wk_mul, wk_rem (by omega) (by omega)]
  have n0 := nI_ne0 p0 (show p < 2 ^ 31 by omega)
  unfold wpX_twist
  dsimp only
  refine xw_lns h hg ?_
  refine ⟨n0, nm_r e1 ⟨n0, nm_r e2 ?_⟩⟩
  have w := xw_tw_l h (Nat.mod_lt (a * g * g) p0) (Nat.mod_lt (b * g * g * g) p0) hp p 0 (by omega)
  rw [nI_0] at w
  exact ⟨_, w⟩
theorem yw_tw_l (h : cg_L p a b c ax ay) {g A D B : Nat} (hg : g < p) (hA : A < p) (hD : D < p) (hB : B < p) (eB : mq_ p ((D : Int) * g) B) {post : Int32 → Prop} (hp : post (nI (cg_tw p A B p))) : ∀ d x, x + d = p → wY_twist_48 post (nI g) (nI A) (nI D) (nI p) (nI a) (nI b) (nI c) ax ay (d + 1) (nI (cg_tw p A B x)) (nI x) := by
  have q := wk_b h
  have p0 : 0 < p := by omega
  intro d
  induction d with
  | zero =>
    intro x hx
    refine br_t (nI_le (by omega) (by omega)) ?_
    rw [show x = p by omega]; exact hp
  | succ d ih =>
    intro x hx
    refine br_f (nI_ge (by omega) (by omega)) ?_
    have nx := ih (x + 1) (by omega)
    have lp : ∀ d' y, y + d' = p → wY_twist_60 post (wY_twist_48 post (nI g) (nI A) (nI D) (nI p) (nI a) (nI b) (nI c) ax ay (d + 1)) (nI g) (nI A) (nI D) (nI x) (nI p) (nI a) (nI b) (nI c) ax ay (d' + 1) (nI (cg_tw p A B x + gp_cn (fun z => ec_onb p A B x z) y)) (nI y) := by
      intro d'
      induction d' with
      | zero =>
        intro y hy
        refine br_t (nI_le (by omega) (by omega)) (nm_r (nI_1 x) ?_)
        rw [show y = p by omega]; exact nx
      | succ d' ih' =>
        intro y hy
        have ny := ih' (y + 1) (by omega)
        have k0 : ec_m p ((y : Int) * y - x * x * x - A * x - D * g) = 0 ↔ ec_on p A B x y := by
          rw [ec_m_z p0, ec_on_q]
          have e : (y : Int) * y - x * x * x - A * x - D * g = (y : Int) * y - (x * (x * x) + A * x + D * g) := by grind
          rw [e, mq_d0]
          constructor
          · intro t; exact mq_t t (mq_a mq_r eB)
          · intro t; exact mq_t t (mq_a mq_r (mq_s eB))
        have l1 : ec_m p ((y : Int) * y - x * x * x - A * x - D * g) < p := ec_m_lt p0 _
        refine br_f (nI_ge (by omega) (by omega)) ?_
        refine yw_rest h (z := (y : Int) * y - x * x * x - A * x - D * g) (by simp only [zi_n, zi_mul, zi_sub]) (zb_in (zb_s (zb_s (zb_s (zb_m (zb_n (N := 61) (by omega)) (zb_n (N := 61) (by omega))) (zb_m (zb_m (zb_n (N := 61) (by omega)) (zb_n (N := 61) (by omega))) (zb_n (N := 61) (by omega)))) (zb_m (zb_n (N := 61) (by omega)) (zb_n (N := 61) (by omega)))) (zb_m (zb_n (N := 61) (by omega)) (zb_n (N := 61) (by omega)))) (by decide)) ?_
        by_cases o : ec_on p A B x y
        · rw [gp_cn_t (f := fun z => ec_onb p A B x z) (ec_onb_t.mpr o), ← Nat.add_assoc] at ny
          exact br_t (by rw [k0.mpr o]; exact nI_0) (nm_r (nI_1 _) (nm_r (nI_1 y) ny))
        · rw [gp_cn_f (f := fun z => ec_onb p A B x z) (fun t => o (ec_onb_t.mp t))] at ny
          exact br_f (fun t => o (k0.mp ((wk_eq0 (by omega)).mp t))) (nm_r (nI_1 y) ny)
    have w := lp p 0 (by omega)
    have e0 : gp_cn (fun z => ec_onb p A B x z) 0 = 0 := rfl
    rw [e0, Nat.add_zero, nI_0] at w
    exact ⟨_, w⟩
theorem yw_twist (h : cg_L p a b c ax ay) {g : Nat} (hg : cg_g p g) {post : Int32 → Prop} (hp : post (nI (cg_tw p (a * g * g % p) (b * g * g * g % p) p))) : wpY_twist post (nI p, nI a, nI b, nI c, ax, ay) := by
  have q := wk_b h
  have p0 : 0 < p := by omega
  have ha := h.1.2.1
  have hb := h.1.2.2.1
  obtain ⟨g1, g2, g3, g4⟩ := hg
  have eA : ec_m p ((a : Int) * g * g) = a * g * g % p := by rw [← Int.natCast_mul, ← Int.natCast_mul, ec_m_n]
  have eD : ec_m p ((b : Int) * g * g) = b * g * g % p := by rw [← Int.natCast_mul, ← Int.natCast_mul, ec_m_n]
  have qB : mq_ p (((b * g * g % p : Nat) : Int) * g) ((b * g * g * g % p : Nat) : Int) := by
    rw [← Int.natCast_mul, mq_mod, Nat.mod_mul_mod, Nat.mod_mod]
  have lp : ∀ d k, k + d = g → 1 ≤ k → wY_twist_2 post (nI p) (nI a) (nI b) (nI c) ax ay (d + 1) (nI k) := by
    intro d
    induction d with
    | zero =>
      intro k hk k1
      have ek : k = g := by omega
      rw [ek]
      unfold wY_twist_2
      refine yw_sq h (by omega) (Or.inl ⟨g3, rfl⟩) ?_
      refine br_t rfl ?_
      refine yw_rest h (z := (a : Int) * g * g) (by simp only [zi_n, zi_mul]) (zb_in (zb_m (zb_m (zb_n (N := 61) (by omega)) (zb_n (N := 61) (by omega))) (zb_n (N := 61) (by omega))) (by decide)) ?_
      refine yw_rest h (z := (b : Int) * g * g) (by simp only [zi_n, zi_mul]) (zb_in (zb_m (zb_m (zb_n (N := 61) (by omega)) (zb_n (N := 61) (by omega))) (zb_n (N := 61) (by omega))) (by decide)) ?_
      rw [eA, eD]
      have w := yw_tw_l h (show g < p by omega) (Nat.mod_lt (a * g * g) p0) (Nat.mod_lt (b * g * g) p0) (Nat.mod_lt (b * g * g * g) p0) qB hp p 0 (by omega)
      rw [nI_0] at w
      exact ⟨_, w⟩
    | succ d ih =>
      intro k hk k1
      unfold wY_twist_2
      refine yw_sq h (by omega) (Or.inr ⟨g4 k (by omega) (by omega), rfl⟩) ?_
      exact br_f wk_10 (nm_r (nI_1 k) (ih (k + 1) (by omega) (by omega)))
  have w := lp (g - 1) 1 (by omega) (by omega)
  exact ⟨_, w⟩
/-- u changes the curve to C, D -/
def cg_ch (p a b C D u : Nat) : Prop := a * (u * u % p * (u * u % p) % p) % p = C ∧ b * (u * u % p * (u * u % p) % p * (u * u % p) % p) % p = D
noncomputable def cg_cn (p a b C D k : Nat) : Nat := gp_cn (fun t => @decide (cg_ch p a b C D (t + 1)) (Classical.propDecidable _)) k
theorem cg_cn_t {p a b C D k : Nat} (g : cg_ch p a b C D (k + 1)) : cg_cn p a b C D (k + 1) = cg_cn p a b C D k + 1 := gp_cn_t (f := fun t => @decide (cg_ch p a b C D (t + 1)) (Classical.propDecidable _)) (@decide_eq_true _ (Classical.propDecidable _) g)
theorem cg_cn_f {p a b C D k : Nat} (g : ¬ cg_ch p a b C D (k + 1)) : cg_cn p a b C D (k + 1) = cg_cn p a b C D k := gp_cn_f (f := fun t => @decide (cg_ch p a b C D (t + 1)) (Classical.propDecidable _)) (fun t => g (@of_decide_eq_true _ (Classical.propDecidable _) t))
theorem xw_chg (h : cg_L p a b c ax ay) {C D : Nat} (hC : C < p) (hD : D < p) {post : Int32 → Prop} (hp : post (nI (cg_cn p a b C D (p - 1)))) : wpX_changes post (nI p, nI a, nI b, nI c, ax, ay) (nI C) (nI D) := by
  have q := wk_b h
  have p0 : 0 < p := by omega
  have ha := h.1.2.1
  have hb := h.1.2.2.1
  have n0 := nI_ne0 p0 (show p < 2 ^ 31 by omega)
  have mm : ∀ s t, s < p → t < p → nI s * nI t - nI s * nI t / nI p * nI p = nI (s * t % p) := by
    intro s t hs ht
    have b1 : s * t ≤ 61 * 61 := Nat.mul_le_mul (by omega) (by omega)
    rw [wk_mul, wk_rem (by omega) (by omega)]
  refine br_f (nI_pos (by omega)) (br_f (nI_ge hC (by omega)) (br_f (nI_pos (by omega)) (br_t (nI_lt hD (by omega)) ?_)))
  have lp : ∀ d k, k + d = p - 1 → wX_changes_31 post (nI C) (nI D) (nI p) (nI a) (nI b) (nI c) ax ay (d + 1) (nI (cg_cn p a b C D k)) (nI (k + 1)) := by
    intro d
    induction d with
    | zero =>
      intro k hk
      refine br_t (nI_le (by omega) (by omega)) ?_
      rw [show k = p - 1 by omega]; exact hp
    | succ d ih =>
      intro k hk
      have nx := ih (k + 1) (by omega)
      have l2 : (k + 1) * (k + 1) % p < p := Nat.mod_lt _ p0
      have l4 : (k + 1) * (k + 1) % p * ((k + 1) * (k + 1) % p) % p < p := Nat.mod_lt _ p0
      have l6 : (k + 1) * (k + 1) % p * ((k + 1) * (k + 1) % p) % p * ((k + 1) * (k + 1) % p) % p < p := Nat.mod_lt _ p0
      have la : a * ((k + 1) * (k + 1) % p * ((k + 1) * (k + 1) % p) % p) % p < p := Nat.mod_lt _ p0
      have lb : b * ((k + 1) * (k + 1) % p * ((k + 1) * (k + 1) % p) % p * ((k + 1) * (k + 1) % p) % p) % p < p := Nat.mod_lt _ p0
      refine br_f (nI_ge (by omega) (by omega)) ⟨n0, nm_r (mm _ _ (by omega) (by omega)) ⟨n0, nm_r (mm _ _ l2 l2) ⟨n0, nm_r (mm _ _ l4 l2) ⟨n0, ?_⟩⟩⟩⟩
      rw [mm _ _ ha l4, mm _ _ hb l6]
      by_cases g1 : a * ((k + 1) * (k + 1) % p * ((k + 1) * (k + 1) % p) % p) % p = C
      · refine br_t (by rw [g1]) ⟨n0, ?_⟩
        by_cases g2 : b * ((k + 1) * (k + 1) % p * ((k + 1) * (k + 1) % p) % p * ((k + 1) * (k + 1) % p) % p) % p = D
        · rw [cg_cn_t ⟨g1, g2⟩] at nx
          exact br_t (by rw [g2]) (nm_r (nI_1 _) (nm_r (nI_1 (k + 1)) nx))
        · rw [cg_cn_f (fun t => g2 t.2)] at nx
          exact br_f (fun t => g2 ((nI_eq (by omega) (by omega)).mp t)) (nm_r (nI_1 (k + 1)) nx)
      · rw [cg_cn_f (fun t => g1 t.1)] at nx
        exact br_f (fun t => g1 ((nI_eq (by omega) (by omega)).mp t)) (nm_r (nI_1 (k + 1)) nx)
  have w := lp (p - 1) 0 (by omega)
  have e0 : cg_cn p a b C D 0 = 0 := rfl
  rw [e0, nI_0] at w
  exact ⟨_, w⟩
theorem yw_chg (h : cg_L p a b c ax ay) {C D : Nat} (hC : C < p) (hD : D < p) {post : Int32 → Prop} (hp : post (nI (cg_cn p a b C D (p - 1)))) : wpY_changes post (nI p, nI a, nI b, nI c, ax, ay) (nI C) (nI D) := by
  have q := wk_b h
  have p0 : 0 < p := by omega
  have ha := h.1.2.1
  have hb := h.1.2.2.1
  have mm : ∀ s t, s < p → t < p → ∀ {Q : Int32 → Prop}, Q (nI (s * t % p)) → wpY_rest Q (nI p, nI a, nI b, nI c, ax, ay) (nI s * nI t) := by
    intro s t hs ht Q hQ
    refine yw_rest h (z := (s : Int) * t) (by simp only [zi_n, zi_mul]) (zb_in (zb_m (zb_n (N := 61) (by omega)) (zb_n (N := 61) (by omega))) (by decide)) ?_
    rw [← Int.natCast_mul, ec_m_n]; exact hQ
  have md : ∀ s t E, s < p → t < p → E < p → ∀ {Q : Int32 → Prop}, (∀ r, (r < p ∧ (r = 0 ↔ s * t % p = E)) → Q (nI r)) → wpY_rest Q (nI p, nI a, nI b, nI c, ax, ay) (nI s * nI t - nI E) := by
    intro s t E hs ht hE Q hQ
    refine yw_rest h (z := (s : Int) * t - E) (by simp only [zi_n, zi_mul, zi_sub]) (zb_in (zb_s (zb_m (zb_n (N := 61) (by omega)) (zb_n (N := 61) (by omega))) (zb_n (N := 61) (by omega))) (by decide)) ?_
    refine hQ _ ⟨ec_m_lt p0 _, ?_⟩
    rw [ec_m_z p0, mq_d0, ← Int.natCast_mul, mq_mod, Nat.mod_eq_of_lt hE]
  refine br_f (nI_pos (by omega)) (br_f (nI_ge hC (by omega)) (br_f (nI_pos (by omega)) (br_t (nI_lt hD (by omega)) ?_)))
  have lp : ∀ d k, k + d = p - 1 → wY_changes_31 post (nI C) (nI D) (nI p) (nI a) (nI b) (nI c) ax ay (d + 1) (nI (cg_cn p a b C D k)) (nI (k + 1)) := by
    intro d
    induction d with
    | zero =>
      intro k hk
      refine br_t (nI_le (by omega) (by omega)) ?_
      rw [show k = p - 1 by omega]; exact hp
    | succ d ih =>
      intro k hk
      have nx := ih (k + 1) (by omega)
      have l2 : (k + 1) * (k + 1) % p < p := Nat.mod_lt _ p0
      have l4 : (k + 1) * (k + 1) % p * ((k + 1) * (k + 1) % p) % p < p := Nat.mod_lt _ p0
      have l6 : (k + 1) * (k + 1) % p * ((k + 1) * (k + 1) % p) % p * ((k + 1) * (k + 1) % p) % p < p := Nat.mod_lt _ p0
      refine br_f (nI_ge (by omega) (by omega)) ?_
      refine mm _ _ (by omega) (by omega) ?_
      refine mm _ _ l2 l2 ?_
      refine mm _ _ l4 l2 ?_
      refine md _ _ C ha l4 hC ?_
      intro r1 r1s
      by_cases g1 : a * ((k + 1) * (k + 1) % p * ((k + 1) * (k + 1) % p) % p) % p = C
      · refine br_t (by rw [r1s.2.mpr g1]; exact nI_0) ?_
        refine md _ _ D hb l6 hD ?_
        intro r2 r2s
        by_cases g2 : b * ((k + 1) * (k + 1) % p * ((k + 1) * (k + 1) % p) % p * ((k + 1) * (k + 1) % p) % p) % p = D
        · rw [cg_cn_t ⟨g1, g2⟩] at nx
          exact br_t (by rw [r2s.2.mpr g2]; exact nI_0) (nm_r (nI_1 _) (nm_r (nI_1 (k + 1)) nx))
        · rw [cg_cn_f (fun t => g2 t.2)] at nx
          exact br_f (fun t => g2 (r2s.2.mp ((wk_eq0 (by omega)).mp t))) (nm_r (nI_1 (k + 1)) nx)
      · rw [cg_cn_f (fun t => g1 t.1)] at nx
        exact br_f (fun t => g1 (r1s.2.mp ((wk_eq0 (by omega)).mp t))) (nm_r (nI_1 (k + 1)) nx)
  have w := lp (p - 1) 0 (by omega)
  have e0 : cg_cn p a b C D 0 = 0 := rfl
  rw [e0, nI_0] at w
  exact ⟨_, w⟩
end WKT
end
section
/-! the listing and the choice of a curve on both sides -/
noncomputable def cg_ry (p a b x : Nat) (s : Nat × (Nat → Int32) × (Nat → Int32)) : Nat → Nat × (Nat → Int32) × (Nat → Int32)
  | 0 => s
  | y + 1 => if ec_onb p a b x y = true then ((cg_ry p a b x s y).1 + 1, upd (cg_ry p a b x s y).2.1 (cg_ry p a b x s y).1 (nI x), upd (cg_ry p a b x s y).2.2 (cg_ry p a b x s y).1 (nI y)) else cg_ry p a b x s y
noncomputable def cg_rx (p a b : Nat) (s : Nat × (Nat → Int32) × (Nat → Int32)) : Nat → Nat × (Nat → Int32) × (Nat → Int32)
  | 0 => s
  | x + 1 => cg_ry p a b x (cg_rx p a b s x) p
theorem cg_ry_t {p a b x y : Nat} {s : Nat × (Nat → Int32) × (Nat → Int32)} (o : ec_on p a b x y) : cg_ry p a b x s (y + 1) = ((cg_ry p a b x s y).1 + 1, upd (cg_ry p a b x s y).2.1 (cg_ry p a b x s y).1 (nI x), upd (cg_ry p a b x s y).2.2 (cg_ry p a b x s y).1 (nI y)) := if_pos (ec_onb_t.mpr o)
theorem cg_ry_f {p a b x y : Nat} {s : Nat × (Nat → Int32) × (Nat → Int32)} (o : ¬ ec_on p a b x y) : cg_ry p a b x s (y + 1) = cg_ry p a b x s y := if_neg (fun z => o (ec_onb_t.mp z))
theorem cg_ry_I {p a b x : Nat} {s : Nat × (Nat → Int32) × (Nat → Int32)} (hp : ec_P p) (hx : x < p) (h : cg_I p a b x 0 s.1 s.2.1 s.2.2) : ∀ y, y ≤ p → cg_I p a b x y (cg_ry p a b x s y).1 (cg_ry p a b x s y).2.1 (cg_ry p a b x s y).2.2 := by
  intro y
  induction y with
  | zero => intro _; exact h
  | succ y ih =>
    intro hy
    have i := ih (by omega)
    by_cases o : ec_on p a b x y
    · rw [cg_ry_t o]
      exact cg_I_on hp hx (by omega) o i
    · rw [cg_ry_f o]
      exact cg_I_off o i
theorem cg_rx_I {p a b : Nat} {s : Nat × (Nat → Int32) × (Nat → Int32)} (hp : ec_P p) (h : cg_I p a b 0 0 s.1 s.2.1 s.2.2) : ∀ x, x ≤ p → cg_I p a b x 0 (cg_rx p a b s x).1 (cg_rx p a b s x).2.1 (cg_rx p a b s x).2.2 := by
  intro x
  induction x with
  | zero => intro _; exact h
  | succ x ih =>
    intro hx
    have i := ih (by omega)
    exact cg_I_row hp (cg_ry_I hp (by omega) i p (Nat.le_refl p))
theorem xw_ls_y {p a b x : Nat} (hp : ec_P p) (hx : x < p) (ha : a < p) (hb : b < p) {s : Nat × (Nat → Int32) × (Nat → Int32)} (h : cg_I p a b x 0 s.1 s.2.1 s.2.2) {post : SX → Prop} {J : Int32 → Int32 → (Nat → Int32) → (Nat → Int32) → Prop} (hJ : J (nI (x + 1)) (nI (cg_ry p a b x s p).1) (cg_ry p a b x s p).2.1 (cg_ry p a b x s p).2.2) : ∀ d y, y + d = p → wX_listPoints_17 post J (nI x) (nI p) (nI a) (nI b) (d + 1) (nI y) (nI (cg_ry p a b x s y).1) (cg_ry p a b x s y).2.1 (cg_ry p a b x s y).2.2 := by
  have q := ec_P_b hp
  intro d
  induction d with
  | zero =>
    intro y hy
    refine br_t (nI_le (by omega) (by omega)) (nm_r (nI_1 x) ?_)
    rw [show y = p by omega]; exact hJ
  | succ d ih =>
    intro y hy
    have nx := ih (y + 1) (by omega)
    have i := cg_ry_I hp hx h y (by omega)
    refine br_f (nI_ge (by omega) (by omega)) ?_
    by_cases o : ec_on p a b x y
    · have lc := cg_I_c hp hx (by omega) o i
      have vi : vp_in (nI (cg_ry p a b x s y).1) 123 := vp_in_nI lc (by omega)
      have cl : (nI (cg_ry p a b x s y).1).toNatClampNeg = (cg_ry p a b x s y).1 := nI_clamp (by omega)
      rw [cg_ry_t o] at nx
      refine xw_on_t q (by omega) (by omega) (by omega) (by omega) o ?_
      refine br_f wk_10 (br_f (nI_ge (b := 123) lc (by omega)) ⟨vi, nm_r (by rw [cl]) ⟨vi, nm_r (by rw [cl]) (nm_r (nI_1 _) (nm_r (nI_1 y) ?_))⟩⟩)
      exact nx
    · rw [cg_ry_f o] at nx
      refine xw_on_f q (by omega) (by omega) (by omega) (by omega) o ?_
      exact br_t rfl (nm_r (nI_1 y) nx)
theorem yw_ls_y {p a b x : Nat} (hp : ec_P p) (hx : x < p) (ha : a < p) (hb : b < p) {s : Nat × (Nat → Int32) × (Nat → Int32)} (h : cg_I p a b x 0 s.1 s.2.1 s.2.2) {post : SY → Prop} {J : Int32 → Int32 → (Nat → Int32) → (Nat → Int32) → Prop} (hJ : J (nI (x + 1)) (nI (cg_ry p a b x s p).1) (cg_ry p a b x s p).2.1 (cg_ry p a b x s p).2.2) : ∀ d y, y + d = p → wY_list_17 post J (nI x) (nI p) (nI a) (nI b) (d + 1) (nI y) (nI (cg_ry p a b x s y).1) (cg_ry p a b x s y).2.1 (cg_ry p a b x s y).2.2 := by
  have q := ec_P_b hp
  have p0 : 0 < p := by omega
  intro d
  induction d with
  | zero =>
    intro y hy
    refine br_t (nI_le (by omega) (by omega)) (nm_r (nI_1 x) ?_)
    rw [show y = p by omega]; exact hJ
  | succ d ih =>
    intro y hy
    have nx := ih (y + 1) (by omega)
    have i := cg_ry_I hp hx h y (by omega)
    have k0 : ec_m p ((y : Int) * y - x * x * x - a * x - b) = 0 ↔ ec_on p a b x y := by
      rw [ec_m_z p0, ec_on_q]
      have e : (y : Int) * y - x * x * x - a * x - b = (y : Int) * y - (x * (x * x) + a * x + b) := by grind
      rw [e, mq_d0]
    have l1 : ec_m p ((y : Int) * y - x * x * x - a * x - b) < p := ec_m_lt p0 _
    refine br_f (nI_ge (by omega) (by omega)) ?_
    refine yw_rest0 p0 (by omega) (z := (y : Int) * y - x * x * x - a * x - b) (by simp only [zi_n, zi_mul, zi_sub]) (zb_in (zb_s (zb_s (zb_s (zb_m (zb_n (N := 61) (by omega)) (zb_n (N := 61) (by omega))) (zb_m (zb_m (zb_n (N := 61) (by omega)) (zb_n (N := 61) (by omega))) (zb_n (N := 61) (by omega)))) (zb_m (zb_n (N := 61) (by omega)) (zb_n (N := 61) (by omega)))) (zb_n (N := 61) (by omega))) (by decide)) ?_
    by_cases o : ec_on p a b x y
    · have lc := cg_I_c hp hx (by omega) o i
      have vi : vp_in (nI (cg_ry p a b x s y).1) 140 := vp_in_nI (by omega) (by omega)
      have cl : (nI (cg_ry p a b x s y).1).toNatClampNeg = (cg_ry p a b x s y).1 := nI_clamp (by omega)
      rw [cg_ry_t o] at nx
      refine br_t (by rw [k0.mpr o]; exact nI_0) ⟨vi, nm_r (by rw [cl]) ⟨vi, nm_r (by rw [cl]) (nm_r (nI_1 _) (nm_r (nI_1 y) ?_))⟩⟩
      exact nx
    · rw [cg_ry_f o] at nx
      exact br_f (fun t => o (k0.mp ((wk_eq0 (by omega)).mp t))) (nm_r (nI_1 y) nx)
theorem xw_ls {p a b : Nat} (hn : cg_n p a b) {bx bz : Nat → Int32} {post : SX → Prop} (hq : post (nI p, nI a, nI b, nI (cg_rx p a b (1, bx, bz) p).1, (cg_rx p a b (1, bx, bz) p).2.1, (cg_rx p a b (1, bx, bz) p).2.2)) (f4 : Int32) : wpX_listPoints post (nI p, nI a, nI b, f4, bx, bz) := by
  obtain ⟨hp, ha, hb, hs⟩ := hn
  have q := ec_P_b hp
  have i0 : cg_I p a b 0 0 ((1, bx, bz) : Nat × (Nat → Int32) × (Nat → Int32)).1 ((1, bx, bz) : Nat × (Nat → Int32) × (Nat → Int32)).2.1 ((1, bx, bz) : Nat × (Nat → Int32) × (Nat → Int32)).2.2 := cg_I_0 p a b bx bz
  have lp : ∀ d x, x + d = p → wX_listPoints_7 post (nI p) (nI a) (nI b) (d + 1) (nI x) (nI (cg_rx p a b (1, bx, bz) x).1) (cg_rx p a b (1, bx, bz) x).2.1 (cg_rx p a b (1, bx, bz) x).2.2 := by
    intro d
    induction d with
    | zero =>
      intro x hx
      refine br_t (nI_le (by omega) (by omega)) ?_
      rw [show x = p by omega]; exact hq
    | succ d ih =>
      intro x hx
      refine br_f (nI_ge (by omega) (by omega)) ?_
      have w := xw_ls_y (post := post) hp (show x < p by omega) ha hb (cg_rx_I hp i0 x (by omega)) (ih (x + 1) (by omega)) p 0 (by omega)
      rw [nI_0] at w
      exact ⟨_, w⟩
  have w := lp p 0 (by omega)
  rw [nI_0] at w
  exact ⟨_, w⟩
theorem yw_ls {p a b : Nat} (hn : cg_n p a b) {bx bz : Nat → Int32} {post : SY → Prop} (hq : post (nI p, nI a, nI b, nI (cg_rx p a b (1, bx, bz) p).1, (cg_rx p a b (1, bx, bz) p).2.1, (cg_rx p a b (1, bx, bz) p).2.2)) (f4 : Int32) : wpY_list post (nI p, nI a, nI b, f4, bx, bz) := by
  obtain ⟨hp, ha, hb, hs⟩ := hn
  have q := ec_P_b hp
  have i0 : cg_I p a b 0 0 ((1, bx, bz) : Nat × (Nat → Int32) × (Nat → Int32)).1 ((1, bx, bz) : Nat × (Nat → Int32) × (Nat → Int32)).2.1 ((1, bx, bz) : Nat × (Nat → Int32) × (Nat → Int32)).2.2 := cg_I_0 p a b bx bz
  have lp : ∀ d x, x + d = p → wY_list_7 post (nI p) (nI a) (nI b) (d + 1) (nI x) (nI (cg_rx p a b (1, bx, bz) x).1) (cg_rx p a b (1, bx, bz) x).2.1 (cg_rx p a b (1, bx, bz) x).2.2 := by
    intro d
    induction d with
    | zero =>
      intro x hx
      refine br_t (nI_le (by omega) (by omega)) ?_
      rw [show x = p by omega]; exact hq
    | succ d ih =>
      intro x hx
      refine br_f (nI_ge (by omega) (by omega)) ?_
      have w := yw_ls_y (post := post) hp (show x < p by omega) ha hb (cg_rx_I hp i0 x (by omega)) (ih (x + 1) (by omega)) p 0 (by omega)
      rw [nI_0] at w
      exact ⟨_, w⟩
  have w := lp p 0 (by omega)
  rw [nI_0] at w
  exact ⟨_, w⟩
theorem cg_rx_L {p a b : Nat} (hn : cg_n p a b) (bx bz : Nat → Int32) : cg_L p a b (cg_rx p a b (1, bx, bz) p).1 (cg_rx p a b (1, bx, bz) p).2.1 (cg_rx p a b (1, bx, bz) p).2.2 :=
  cg_I_end hn (cg_rx_I hn.1 (cg_I_0 p a b bx bz) p (Nat.le_refl p))
theorem xw_take {p a b : Nat} (hn : cg_n p a b) {bx bz : Nat → Int32} {post : SX → Prop} (hq : post (nI p, nI a, nI b, nI (cg_rx p a b (1, bx, bz) p).1, (cg_rx p a b (1, bx, bz) p).2.1, (cg_rx p a b (1, bx, bz) p).2.2)) (f1 f2 f3 f4 : Int32) : wpX_take post (f1, f2, f3, f4, bx, bz) (nI p) (nI a) (nI b) := by
  unfold wpX_take
  dsimp only
  refine xw_ls hn ?_ f4
  exact hq
/-! which p are allowed -/
def cg_no (v : Int32) : Prop := ∀ p, ec_P p → v ≠ nI p
theorem cg_no_of {v : Int32} {n : Nat} (e : v = nI n) (h : n < 100) (hn : ¬ ec_P n) : cg_no v := by
  intro p hp z
  have b' := ec_P_b hp
  rw [e, nI_eq (by omega) (by omega)] at z
  rw [z] at hn
  exact hn hp
theorem cg_npr1 {n : Nat} (h : ec_P n) : ∀ t, t < 8 → 2 ≤ t → t * t ≤ n → n % t ≠ 0 := by
  rcases h with rfl | rfl | rfl | rfl | rfl | rfl | rfl | rfl | rfl | rfl | rfl | rfl | rfl | rfl | rfl | rfl <;> decide +kernel
theorem cg_npr2 {n : Nat} (h5 : 5 ≤ n) (h61 : n ≤ 61) (h : ∀ t, t < 8 → 2 ≤ t → t * t ≤ n → n % t ≠ 0) : ec_P n := by
  have h2 : n % 2 ≠ 0 := h 2 (by decide) (by decide) (by omega)
  have h3 : 9 ≤ n → n % 3 ≠ 0 := fun g => h 3 (by decide) (by decide) (by omega)
  have h5' : 25 ≤ n → n % 5 ≠ 0 := fun g => h 5 (by decide) (by decide) (by omega)
  have h7 : 49 ≤ n → n % 7 ≠ 0 := fun g => h 7 (by decide) (by decide) (by omega)
  have w : n = 5 ∨ n = 6 ∨ n = 7 ∨ n = 8 ∨ n = 9 ∨ n = 10 ∨ n = 11 ∨ n = 12 ∨ n = 13 ∨ n = 14 ∨ n = 15 ∨ n = 16 ∨ n = 17 ∨ n = 18 ∨ n = 19 ∨ n = 20 ∨ n = 21 ∨ n = 22 ∨ n = 23 ∨ n = 24 ∨ n = 25 ∨ n = 26 ∨ n = 27 ∨ n = 28 ∨ n = 29 ∨ n = 30 ∨ n = 31 ∨ n = 32 ∨ n = 33 ∨ n = 34 ∨ n = 35 ∨ n = 36 ∨ n = 37 ∨ n = 38 ∨ n = 39 ∨ n = 40 ∨ n = 41 ∨ n = 42 ∨ n = 43 ∨ n = 44 ∨ n = 45 ∨ n = 46 ∨ n = 47 ∨ n = 48 ∨ n = 49 ∨ n = 50 ∨ n = 51 ∨ n = 52 ∨ n = 53 ∨ n = 54 ∨ n = 55 ∨ n = 56 ∨ n = 57 ∨ n = 58 ∨ n = 59 ∨ n = 60 ∨ n = 61 := by omega
  rcases w with rfl | rfl | rfl | rfl | rfl | rfl | rfl | rfl | rfl | rfl | rfl | rfl | rfl | rfl | rfl | rfl | rfl | rfl | rfl | rfl | rfl | rfl | rfl | rfl | rfl | rfl | rfl | rfl | rfl | rfl | rfl | rfl | rfl | rfl | rfl | rfl | rfl | rfl | rfl | rfl | rfl | rfl | rfl | rfl | rfl | rfl | rfl | rfl | rfl | rfl | rfl | rfl | rfl | rfl | rfl | rfl | rfl
  · unfold ec_P; omega
  · exact absurd rfl h2
  · unfold ec_P; omega
  · exact absurd rfl h2
  · exact absurd rfl (h3 (by decide))
  · exact absurd rfl h2
  · unfold ec_P; omega
  · exact absurd rfl h2
  · unfold ec_P; omega
  · exact absurd rfl h2
  · exact absurd rfl (h3 (by decide))
  · exact absurd rfl h2
  · unfold ec_P; omega
  · exact absurd rfl h2
  · unfold ec_P; omega
  · exact absurd rfl h2
  · exact absurd rfl (h3 (by decide))
  · exact absurd rfl h2
  · unfold ec_P; omega
  · exact absurd rfl h2
  · exact absurd rfl (h5' (by decide))
  · exact absurd rfl h2
  · exact absurd rfl (h3 (by decide))
  · exact absurd rfl h2
  · unfold ec_P; omega
  · exact absurd rfl h2
  · unfold ec_P; omega
  · exact absurd rfl h2
  · exact absurd rfl (h3 (by decide))
  · exact absurd rfl h2
  · exact absurd rfl (h5' (by decide))
  · exact absurd rfl h2
  · unfold ec_P; omega
  · exact absurd rfl h2
  · exact absurd rfl (h3 (by decide))
  · exact absurd rfl h2
  · unfold ec_P; omega
  · exact absurd rfl h2
  · unfold ec_P; omega
  · exact absurd rfl h2
  · exact absurd rfl (h3 (by decide))
  · exact absurd rfl h2
  · unfold ec_P; omega
  · exact absurd rfl h2
  · exact absurd rfl (h7 (by decide))
  · exact absurd rfl h2
  · exact absurd rfl (h3 (by decide))
  · exact absurd rfl h2
  · unfold ec_P; omega
  · exact absurd rfl h2
  · exact absurd rfl (h5' (by decide))
  · exact absurd rfl h2
  · exact absurd rfl (h3 (by decide))
  · exact absurd rfl h2
  · unfold ec_P; omega
  · exact absurd rfl h2
  · unfold ec_P; omega
theorem cg_npr (n : Nat) (h61 : n < 62) (h5 : 5 ≤ n) : ec_P n ↔ ∀ t, t < 8 → 2 ≤ t → t * t ≤ n → n % t ≠ 0 := ⟨cg_npr1, cg_npr2 h5 (by omega)⟩
theorem yw_pr_l {n : Nat} (h5 : 5 ≤ n) (h61 : n ≤ 61) {f1 f2 f3 f4 : Int32} {g1 g2 : Nat → Int32} {r : Int32} (hr : (ec_P n ∧ r = 1) ∨ (¬ ec_P n ∧ r = 0)) {post : Int32 → Prop} (hq : post r) : ∀ d k, k + d = 8 → 2 ≤ k → (∀ t, 2 ≤ t → t < k → n % t ≠ 0) → wY_isPrime_15 post (nI n) f1 f2 f3 f4 g1 g2 (d + 1) (nI k) := by
  have key : ec_P n ↔ ∀ t, t < 8 → 2 ≤ t → t * t ≤ n → n % t ≠ 0 := cg_npr n (by omega) h5
  intro d
  have out : ∀ k, k ≤ 8 → n < k * k → (∀ t, 2 ≤ t → t < k → n % t ≠ 0) → r = 1 := by
    intro k k8 hk hn
    rcases hr with ⟨_, e⟩ | ⟨w, _⟩
    · exact e
    · refine absurd (key.mpr (fun t t8 t2 tt => hn t t2 ?_)) w
      rcases Nat.lt_or_ge t k with g | g
      · exact g
      · have := Nat.mul_le_mul g g
        omega
  induction d with
  | zero =>
    intro k hk k2 hn
    have ek : k = 8 := by omega
    rw [ek] at hn ⊢
    refine br_t ?_ ?_
    · rw [wk_mul]; exact nI_lt (by omega) (by omega)
    · rw [← out 8 (Nat.le_refl 8) (by omega) hn]; exact hq
  | succ d ih =>
    intro k hk k2 hn
    have kb : k * k ≤ 8 * 8 := Nat.mul_le_mul (by omega) (by omega)
    by_cases g : n < k * k
    · refine br_t ?_ ?_
      · rw [wk_mul]; exact nI_lt g (by omega)
      · rw [← out k (by omega) g hn]; exact hq
    · refine br_f ?_ ⟨nI_ne0 (by omega) (by omega), ?_⟩
      · rw [wk_mul]; exact nI_nlt (by omega) (by omega)
      · rw [wk_rem (by omega) (by omega)]
        have lm : n % k < k := Nat.mod_lt _ (by omega)
        by_cases z : n % k = 0
        · refine br_t (by rw [z]; exact nI_0) ?_
          rcases hr with ⟨w, _⟩ | ⟨_, e⟩
          · exact absurd z (key.mp w k (by omega) k2 (by omega))
          · rw [← e]; exact hq
        · refine br_f (fun t => z ((wk_eq0 (by omega)).mp t)) (nm_r (nI_1 k) (ih (k + 1) (by omega) (by omega) (fun t t2 tk => ?_)))
          rcases Nat.lt_or_ge t k with w | w
          · exact hn t t2 w
          · rw [show t = k by omega]; exact z
theorem yw_pr {n : Nat} (h5 : 5 ≤ n) (h61 : n ≤ 61) {f1 f2 f3 f4 : Int32} {g1 g2 : Nat → Int32} {r : Int32} (hr : (ec_P n ∧ r = 1) ∨ (¬ ec_P n ∧ r = 0)) {post : Int32 → Prop} (hq : post r) : wpY_isPrime post (f1, f2, f3, f4, g1, g2) (nI n) := by
  refine br_f (nI_nlt (b := 5) h5 (by omega)) (br_t (nI_le (b := 61) h61 (by omega)) ?_)
  exact ⟨_, yw_pr_l h5 h61 hr hq 6 2 (by omega) (by omega) (fun t t2 tk => by omega)⟩
theorem yw_ip_t {p : Nat} (hp : ec_P p) {f1 f2 f3 f4 : Int32} {g1 g2 : Nat → Int32} {post : Int32 → Prop} (hq : post 1) : wpY_isPrime post (f1, f2, f3, f4, g1, g2) (nI p) := by
  have b' := ec_P_b hp
  exact yw_pr b'.1 b'.2 (Or.inl ⟨hp, rfl⟩) hq
theorem yw_ip_f {v : Int32} (hv : cg_no v) {f1 f2 f3 f4 : Int32} {g1 g2 : Nat → Int32} {post : Int32 → Prop} (hq : post 0) : wpY_isPrime post (f1, f2, f3, f4, g1, g2) v := by
  by_cases h1 : v < 5
  · exact br_t h1 hq
  · by_cases h2 : v ≤ 61
    · have k1 : ¬ v.toInt < 5 := fun g => h1 (Int32.lt_iff_toInt_lt.mpr g)
      have k2 : v.toInt ≤ 61 := Int32.le_iff_toInt_le.mp h2
      obtain ⟨n, hn⟩ := Int.eq_ofNat_of_zero_le (show 0 ≤ v.toInt by omega)
      have ev : v = nI n := by rw [zi_n, ← hn]; exact wk_ti v
      rw [ev]
      exact yw_pr (by omega) (by omega) (Or.inr ⟨fun z => hv n z ev, rfl⟩) hq
    · exact br_f h1 (br_f h2 hq)
theorem xw_ap {v : Int32} {f1 f2 f3 f4 : Int32} {g1 g2 : Nat → Int32} {post : Int32 → Prop} (H1 : ∀ p, ec_P p → v = nI p → post 1) (H0 : cg_no v → post 0) : wpX_isAllowedPrime post (f1, f2, f3, f4, g1, g2) v := by
  by_cases l5 : v < 5
  · refine br_t l5 (H0 (fun p hp e => ?_))
    have b' := ec_P_b hp
    rw [e] at l5
    exact nI_nlt (b := 5) b'.1 (by omega) l5
  refine br_f l5 ?_
  by_cases l61 : 61 < v
  · refine br_t l61 (H0 (fun p hp e => ?_))
    have b' := ec_P_b hp
    rw [e] at l61
    exact nI_nlt (a := 61) b'.2 (by omega) l61
  refine br_f l61 ?_
  refine br_c (fun e => H1 5 (by unfold ec_P; omega) e) (fun _ => ?_)
  refine br_c (fun e => H0 (cg_no_of (n := 6) e (by decide) (by unfold ec_P; omega))) (fun _ => ?_)
  refine br_c (fun e => H1 7 (by unfold ec_P; omega) e) (fun _ => ?_)
  refine br_c (fun e => H0 (cg_no_of (n := 8) e (by decide) (by unfold ec_P; omega))) (fun _ => ?_)
  refine br_c (fun e => H0 (cg_no_of (n := 9) e (by decide) (by unfold ec_P; omega))) (fun _ => ?_)
  refine br_c (fun e => H0 (cg_no_of (n := 10) e (by decide) (by unfold ec_P; omega))) (fun _ => ?_)
  refine br_c (fun e => H1 11 (by unfold ec_P; omega) e) (fun _ => ?_)
  refine br_c (fun e => H0 (cg_no_of (n := 12) e (by decide) (by unfold ec_P; omega))) (fun _ => ?_)
  refine br_c (fun e => H1 13 (by unfold ec_P; omega) e) (fun _ => ?_)
  refine br_c (fun e => H0 (cg_no_of (n := 14) e (by decide) (by unfold ec_P; omega))) (fun _ => ?_)
  refine br_c (fun e => H0 (cg_no_of (n := 15) e (by decide) (by unfold ec_P; omega))) (fun _ => ?_)
  refine br_c (fun e => H0 (cg_no_of (n := 16) e (by decide) (by unfold ec_P; omega))) (fun _ => ?_)
  refine br_c (fun e => H1 17 (by unfold ec_P; omega) e) (fun _ => ?_)
  refine br_c (fun e => H0 (cg_no_of (n := 18) e (by decide) (by unfold ec_P; omega))) (fun _ => ?_)
  refine br_c (fun e => H1 19 (by unfold ec_P; omega) e) (fun _ => ?_)
  refine br_c (fun e => H0 (cg_no_of (n := 20) e (by decide) (by unfold ec_P; omega))) (fun _ => ?_)
  refine br_c (fun e => H0 (cg_no_of (n := 21) e (by decide) (by unfold ec_P; omega))) (fun _ => ?_)
  refine br_c (fun e => H0 (cg_no_of (n := 22) e (by decide) (by unfold ec_P; omega))) (fun _ => ?_)
  refine br_c (fun e => H1 23 (by unfold ec_P; omega) e) (fun _ => ?_)
  refine br_c (fun e => H0 (cg_no_of (n := 24) e (by decide) (by unfold ec_P; omega))) (fun _ => ?_)
  refine br_c (fun e => H0 (cg_no_of (n := 25) e (by decide) (by unfold ec_P; omega))) (fun _ => ?_)
  refine br_c (fun e => H0 (cg_no_of (n := 26) e (by decide) (by unfold ec_P; omega))) (fun _ => ?_)
  refine br_c (fun e => H0 (cg_no_of (n := 27) e (by decide) (by unfold ec_P; omega))) (fun _ => ?_)
  refine br_c (fun e => H0 (cg_no_of (n := 28) e (by decide) (by unfold ec_P; omega))) (fun _ => ?_)
  refine br_c (fun e => H1 29 (by unfold ec_P; omega) e) (fun _ => ?_)
  refine br_c (fun e => H0 (cg_no_of (n := 30) e (by decide) (by unfold ec_P; omega))) (fun _ => ?_)
  refine br_c (fun e => H1 31 (by unfold ec_P; omega) e) (fun _ => ?_)
  refine br_c (fun e => H0 (cg_no_of (n := 32) e (by decide) (by unfold ec_P; omega))) (fun _ => ?_)
  refine br_c (fun e => H0 (cg_no_of (n := 33) e (by decide) (by unfold ec_P; omega))) (fun _ => ?_)
  refine br_c (fun e => H0 (cg_no_of (n := 34) e (by decide) (by unfold ec_P; omega))) (fun _ => ?_)
  refine br_c (fun e => H0 (cg_no_of (n := 35) e (by decide) (by unfold ec_P; omega))) (fun _ => ?_)
  refine br_c (fun e => H0 (cg_no_of (n := 36) e (by decide) (by unfold ec_P; omega))) (fun _ => ?_)
  refine br_c (fun e => H1 37 (by unfold ec_P; omega) e) (fun _ => ?_)
  refine br_c (fun e => H0 (cg_no_of (n := 38) e (by decide) (by unfold ec_P; omega))) (fun _ => ?_)
  refine br_c (fun e => H0 (cg_no_of (n := 39) e (by decide) (by unfold ec_P; omega))) (fun _ => ?_)
  refine br_c (fun e => H0 (cg_no_of (n := 40) e (by decide) (by unfold ec_P; omega))) (fun _ => ?_)
  refine br_c (fun e => H1 41 (by unfold ec_P; omega) e) (fun _ => ?_)
  refine br_c (fun e => H0 (cg_no_of (n := 42) e (by decide) (by unfold ec_P; omega))) (fun _ => ?_)
  refine br_c (fun e => H1 43 (by unfold ec_P; omega) e) (fun _ => ?_)
  refine br_c (fun e => H0 (cg_no_of (n := 44) e (by decide) (by unfold ec_P; omega))) (fun _ => ?_)
  refine br_c (fun e => H0 (cg_no_of (n := 45) e (by decide) (by unfold ec_P; omega))) (fun _ => ?_)
  refine br_c (fun e => H0 (cg_no_of (n := 46) e (by decide) (by unfold ec_P; omega))) (fun _ => ?_)
  refine br_c (fun e => H1 47 (by unfold ec_P; omega) e) (fun _ => ?_)
  refine br_c (fun e => H0 (cg_no_of (n := 48) e (by decide) (by unfold ec_P; omega))) (fun _ => ?_)
  refine br_c (fun e => H0 (cg_no_of (n := 49) e (by decide) (by unfold ec_P; omega))) (fun _ => ?_)
  refine br_c (fun e => H0 (cg_no_of (n := 50) e (by decide) (by unfold ec_P; omega))) (fun _ => ?_)
  refine br_c (fun e => H0 (cg_no_of (n := 51) e (by decide) (by unfold ec_P; omega))) (fun _ => ?_)
  refine br_c (fun e => H0 (cg_no_of (n := 52) e (by decide) (by unfold ec_P; omega))) (fun _ => ?_)
  refine br_c (fun e => H1 53 (by unfold ec_P; omega) e) (fun _ => ?_)
  refine br_c (fun e => H0 (cg_no_of (n := 54) e (by decide) (by unfold ec_P; omega))) (fun _ => ?_)
  refine br_c (fun e => H0 (cg_no_of (n := 55) e (by decide) (by unfold ec_P; omega))) (fun _ => ?_)
  refine br_c (fun e => H0 (cg_no_of (n := 56) e (by decide) (by unfold ec_P; omega))) (fun _ => ?_)
  refine br_c (fun e => H0 (cg_no_of (n := 57) e (by decide) (by unfold ec_P; omega))) (fun _ => ?_)
  refine br_c (fun e => H0 (cg_no_of (n := 58) e (by decide) (by unfold ec_P; omega))) (fun _ => ?_)
  refine br_c (fun e => H1 59 (by unfold ec_P; omega) e) (fun _ => ?_)
  refine br_c (fun e => H0 (cg_no_of (n := 60) e (by decide) (by unfold ec_P; omega))) (fun _ => ?_)
  refine br_c (fun e => H1 61 (by unfold ec_P; omega) e) (fun _ => ?_)
  trivial
theorem xw_ap_t {p : Nat} (hp : ec_P p) {f1 f2 f3 f4 : Int32} {g1 g2 : Nat → Int32} {post : Int32 → Prop} (hq : post 1) : wpX_isAllowedPrime post (f1, f2, f3, f4, g1, g2) (nI p) := xw_ap (fun _ _ _ => hq) (fun z => absurd rfl (z p hp))
theorem xw_ap_f {v : Int32} (hv : cg_no v) {f1 f2 f3 f4 : Int32} {g1 g2 : Nat → Int32} {post : Int32 → Prop} (hq : post 0) : wpX_isAllowedPrime post (f1, f2, f3, f4, g1, g2) v := xw_ap (fun p hp e => absurd e (hv p hp)) (fun _ => hq)
theorem xw_cv_bad {p a b c : Nat} {ax ay : Nat → Int32} {v1 v2 v3 : Int32} (hv : cg_no v1 ∨ ∃ q, ec_P q ∧ v1 = nI q ∧ ((v2 < 0 ∨ nI q ≤ v2) ∨ (v3 < 0 ∨ nI q ≤ v3))) {post : Int32 → SX → Prop} (hq : post (-1) (nI p, nI a, nI b, nI c, ax, ay)) : wpX_curve post (nI p, nI a, nI b, nI c, ax, ay) v1 v2 v3 := by
  unfold wpX_curve
  dsimp only
  rcases hv with hv | ⟨q, hp, e1, hv⟩
  · refine xw_ap_f hv ?_
    exact br_t rfl hq
  · have b' := ec_P_b hp
    rw [e1]
    refine xw_ap_t hp ?_
    refine br_f wk_10 ?_
    by_cases g1 : v2 < 0
    · exact br_t g1 hq
    refine br_f g1 ?_
    by_cases g2 : nI q ≤ v2
    · exact br_t g2 hq
    refine br_f g2 ?_
    by_cases g3 : v3 < 0
    · exact br_t g3 hq
    refine br_f g3 ?_
    by_cases g4 : nI q ≤ v3
    · exact br_f (Int32.not_lt.mpr g4) hq
    · rcases hv with (w | w) | (w | w)
      · exact absurd w g1
      · exact absurd w g2
      · exact absurd w g3
      · exact absurd w g4
theorem xw_cv {p a b c : Nat} {ax ay : Nat → Int32} {q m n : Nat} (hp : ec_P q) (hm : m < q) (hn : n < q) {post : Int32 → SX → Prop} (hs : (4 * (m * (m * m)) + 27 * (n * n)) % q = 0 → post (-4) (nI p, nI a, nI b, nI c, ax, ay)) (hg : cg_n q m n → post (nI (cg_rx q m n (1, ax, ay) q).1) (nI q, nI m, nI n, nI (cg_rx q m n (1, ax, ay) q).1, (cg_rx q m n (1, ax, ay) q).2.1, (cg_rx q m n (1, ax, ay) q).2.2)) : wpX_curve post (nI p, nI a, nI b, nI c, ax, ay) (nI q) (nI m) (nI n) := by
  have b' := ec_P_b hp
  have b1 : m * m ≤ 61 * 61 := Nat.mul_le_mul (by omega) (by omega)
  have b2 : m * (m * m) ≤ 61 * (61 * 61) := Nat.mul_le_mul (by omega) b1
  have b3 : n * n ≤ 61 * 61 := Nat.mul_le_mul (by omega) (by omega)
  have e4 : (4 : Int32) = nI 4 := rfl
  have e27 : (27 : Int32) = nI 27 := rfl
  have er : 4 * nI m * nI m * nI m + 27 * nI n * nI n - (4 * nI m * nI m * nI m + 27 * nI n * nI n) / nI q * nI q = nI ((4 * (m * (m * m)) + 27 * (n * n)) % q) := by
    rw [e4, e27, wk_mul, wk_mul, wk_mul, wk_mul, wk_mul, nI_add]
    have e : 4 * m * m * m + 27 * n * n = 4 * (m * (m * m)) + 27 * (n * n) := by simp only [Nat.mul_assoc]
    rw [e, wk_rem (by omega) (by omega)]
  have lm : (4 * (m * (m * m)) + 27 * (n * n)) % q < q := Nat.mod_lt _ (by omega)
  unfold wpX_curve
  dsimp only
  refine xw_ap_t hp ?_
  refine br_f wk_10 ?_
  refine br_f (nI_pos (by omega)) ?_
  refine br_f (nI_ge hm (by omega)) ?_
  refine br_f (nI_pos (by omega)) ?_
  refine br_t (nI_lt hn (by omega)) ?_
  refine ⟨nI_ne0 (by omega) (by omega), ?_⟩
  rw [er]
  by_cases z : (4 * (m * (m * m)) + 27 * (n * n)) % q = 0
  · exact br_t (by rw [z]; exact nI_0) (hs z)
  · refine br_f (fun t => z ((wk_eq0 (by omega)).mp t)) ?_
    have hN : cg_n q m n := ⟨hp, hm, hn, z⟩
    refine xw_take hN ?_ _ _ _ _
    exact hg hN
theorem yw_cv_bad {p a b c : Nat} {ax ay : Nat → Int32} {v1 v2 v3 : Int32} (hv : cg_no v1 ∨ ∃ q, ec_P q ∧ v1 = nI q ∧ ((v2 < 0 ∨ nI q ≤ v2) ∨ (v3 < 0 ∨ nI q ≤ v3))) {post : Int32 → SY → Prop} (hq : post (-1) (nI p, nI a, nI b, nI c, ax, ay)) : wpY_curve post (nI p, nI a, nI b, nI c, ax, ay) v1 v2 v3 := by
  unfold wpY_curve
  dsimp only
  rcases hv with hv | ⟨q, hp, e1, hv⟩
  · refine yw_ip_f hv ?_
    exact br_t rfl hq
  · have b' := ec_P_b hp
    rw [e1]
    refine yw_ip_t hp ?_
    refine br_f wk_10 ?_
    by_cases g1 : v2 < 0
    · exact br_t g1 hq
    refine br_f g1 ?_
    by_cases g2 : nI q ≤ v2
    · exact br_t g2 hq
    refine br_f g2 ?_
    by_cases g3 : v3 < 0
    · exact br_t g3 hq
    refine br_f g3 ?_
    by_cases g4 : nI q ≤ v3
    · exact br_f (Int32.not_lt.mpr g4) hq
    · rcases hv with (w | w) | (w | w)
      · exact absurd w g1
      · exact absurd w g2
      · exact absurd w g3
      · exact absurd w g4
theorem yw_cv {p a b c : Nat} {ax ay : Nat → Int32} {q m n : Nat} (hp : ec_P q) (hm : m < q) (hn : n < q) {post : Int32 → SY → Prop} (hs : (4 * (m * (m * m)) + 27 * (n * n)) % q = 0 → post (-4) (nI p, nI a, nI b, nI c, ax, ay)) (hg : cg_n q m n → post (nI (cg_rx q m n (1, ax, ay) q).1) (nI q, nI m, nI n, nI (cg_rx q m n (1, ax, ay) q).1, (cg_rx q m n (1, ax, ay) q).2.1, (cg_rx q m n (1, ax, ay) q).2.2)) : wpY_curve post (nI p, nI a, nI b, nI c, ax, ay) (nI q) (nI m) (nI n) := by
  have b' := ec_P_b hp
  have b1 : m * m ≤ 61 * 61 := Nat.mul_le_mul (by omega) (by omega)
  have b2 : m * (m * m) ≤ 61 * (61 * 61) := Nat.mul_le_mul (by omega) b1
  have b3 : n * n ≤ 61 * 61 := Nat.mul_le_mul (by omega) (by omega)
  have e4 : (4 : Int32) = nI 4 := rfl
  have e27 : (27 : Int32) = nI 27 := rfl
  have er : 4 * nI m * nI m * nI m + 27 * nI n * nI n - (4 * nI m * nI m * nI m + 27 * nI n * nI n) / nI q * nI q = nI ((4 * (m * (m * m)) + 27 * (n * n)) % q) := by
    rw [e4, e27, wk_mul, wk_mul, wk_mul, wk_mul, wk_mul, nI_add]
    have e : 4 * m * m * m + 27 * n * n = 4 * (m * (m * m)) + 27 * (n * n) := by simp only [Nat.mul_assoc]
    rw [e, wk_rem (by omega) (by omega)]
  have lm : (4 * (m * (m * m)) + 27 * (n * n)) % q < q := Nat.mod_lt _ (by omega)
  unfold wpY_curve
  dsimp only
  refine yw_ip_t hp ?_
  refine br_f wk_10 ?_
  refine br_f (nI_pos (by omega)) ?_
  refine br_f (nI_ge hm (by omega)) ?_
  refine br_f (nI_pos (by omega)) ?_
  refine br_t (nI_lt hn (by omega)) ?_
  refine ⟨nI_ne0 (by omega) (by omega), ?_⟩
  rw [er]
  by_cases z : (4 * (m * (m * m)) + 27 * (n * n)) % q = 0
  · exact br_t (by rw [z]; exact nI_0) (hs z)
  · refine br_f (fun t => z ((wk_eq0 (by omega)).mp t)) ?_
    have hN : cg_n q m n := ⟨hp, hm, hn, z⟩
    refine yw_ls hN ?_ _
    exact hg hN
end
section
/-- both sides hold one curve and one list of its points -/
def i_Rel (k : Nat) (u : SX) (v : SY) : Prop := ∃ p a b c : Nat, ∃ ax ay : Nat → Int32, cg_L p a b c ax ay ∧ u = (nI p, nI a, nI b, nI c, ax, ay) ∧ v = (nI p, nI a, nI b, nI c, ax, ay)
theorem i_up {k : Nat} {u : SX} {v : SY} (h : i_Rel k u v) : i_Rel (k + 4) u v := h
theorem cg_n5 : cg_n 5 1 1 := ⟨Or.inl rfl, by decide, by decide, by decide⟩
theorem i_vc0 : wpX_init (fun u => wpY_init (fun v => i_Rel 0 u v)) := by
  unfold wpX_init
  refine xw_take (p := 5) (a := 1) (b := 1) cg_n5 ?_ 0 0 0 0
  dsimp only
  unfold wpY_init
  refine yw_ls (p := 5) (a := 1) (b := 1) cg_n5 ?_ 0
  dsimp only
  exact ⟨5, 1, 1, _, _, _, cg_rx_L cg_n5 _ _, rfl, rfl⟩
theorem i_vc_curve {k : Nat} {u : SX} {v : SY} (I : i_Rel k u v) (hk : k + 4 ≤ 2048) (v1 : Int32) (v2 : Int32) (v3 : Int32) : wpX_curve (fun r u' => wpY_curve (fun r' v' => r' = r ∧ i_Rel (k + 4) u' v') v v1 v2 v3) u v1 v2 v3 := by
  obtain ⟨p, a, b, c, ax, ay, h, rfl, rfl⟩ := I
  have R : i_Rel (k + 4) (nI p, nI a, nI b, nI c, ax, ay) (nI p, nI a, nI b, nI c, ax, ay) := ⟨p, a, b, c, ax, ay, h, rfl, rfl⟩
  by_cases g : ∃ q, ec_P q ∧ v1 = nI q
  · obtain ⟨q, hp, e1⟩ := g
    have b' := ec_P_b hp
    rcases wk_ix v2 (c := q) (by omega) with g2 | ⟨m, hm, e2⟩
    · exact xw_cv_bad (Or.inr ⟨q, hp, e1, Or.inl g2⟩) (yw_cv_bad (Or.inr ⟨q, hp, e1, Or.inl g2⟩) ⟨rfl, R⟩)
    · rcases wk_ix v3 (c := q) (by omega) with g3 | ⟨n, hn, e3⟩
      · exact xw_cv_bad (Or.inr ⟨q, hp, e1, Or.inr g3⟩) (yw_cv_bad (Or.inr ⟨q, hp, e1, Or.inr g3⟩) ⟨rfl, R⟩)
      · rw [e1, e2, e3]
        refine xw_cv hp hm hn (fun z => ?_) (fun z => ?_)
        · exact yw_cv hp hm hn (fun _ => ⟨rfl, R⟩) (fun w => absurd z w.2.2.2)
        · exact yw_cv hp hm hn (fun w => absurd w z.2.2.2) (fun w => ⟨rfl, q, m, n, _, _, _, cg_rx_L w ax ay, rfl, rfl⟩)
  · have hv : cg_no v1 := fun q hp e => g ⟨q, hp, e⟩
    exact xw_cv_bad (Or.inl hv) (yw_cv_bad (Or.inl hv) ⟨rfl, R⟩)
theorem i_vc_points {k : Nat} {u : SX} {v : SY} (I : i_Rel k u v) (hk : k + 4 ≤ 2048) : wpX_points (fun r => wpY_points (fun r' => r' = r ∧ i_Rel (k + 4) u v) v) u := by
  obtain ⟨p, a, b, c, ax, ay, h, rfl, rfl⟩ := I
  exact ⟨rfl, p, a, b, c, ax, ay, h, rfl, rfl⟩
theorem i_vc_x {k : Nat} {u : SX} {v : SY} (I : i_Rel k u v) (hk : k + 4 ≤ 2048) (v1 : Int32) : wpX_x (fun r => wpY_x (fun r' => r' = r ∧ i_Rel (k + 4) u v) v v1) u v1 := by
  obtain ⟨p, a, b, c, ax, ay, h, rfl, rfl⟩ := I
  have R : i_Rel (k + 4) (nI p, nI a, nI b, nI c, ax, ay) (nI p, nI a, nI b, nI c, ax, ay) := ⟨p, a, b, c, ax, ay, h, rfl, rfl⟩
  have q := wk_b h
  unfold wpX_x wpY_x
  dsimp only
  rcases wk_ix v1 (c := c) (by omega) with g | ⟨i, hi, e⟩
  · refine xw_ip_f g ?_
    refine br_t rfl ?_
    refine yw_np_f g ?_
    exact br_f wk_10 ⟨rfl, R⟩
  · rw [e]
    refine xw_ip_t h hi ?_
    refine br_f wk_10 ?_
    by_cases z : nI i = 0
    · refine br_t z ?_
      refine yw_np_t h hi ?_
      refine br_t rfl ?_
      exact br_t z ⟨rfl, R⟩
    · refine br_f z ⟨vp_in_nI (by omega) (by omega), ?_⟩
      refine yw_np_t h hi ?_
      refine br_t rfl ?_
      exact br_f z ⟨vp_in_nI (by omega) (by omega), rfl, R⟩
theorem i_vc_y {k : Nat} {u : SX} {v : SY} (I : i_Rel k u v) (hk : k + 4 ≤ 2048) (v1 : Int32) : wpX_y (fun r => wpY_y (fun r' => r' = r ∧ i_Rel (k + 4) u v) v v1) u v1 := by
  obtain ⟨p, a, b, c, ax, ay, h, rfl, rfl⟩ := I
  have R : i_Rel (k + 4) (nI p, nI a, nI b, nI c, ax, ay) (nI p, nI a, nI b, nI c, ax, ay) := ⟨p, a, b, c, ax, ay, h, rfl, rfl⟩
  have q := wk_b h
  unfold wpX_y wpY_y
  dsimp only
  rcases wk_ix v1 (c := c) (by omega) with g | ⟨i, hi, e⟩
  · refine xw_ip_f g ?_
    refine br_t rfl ?_
    refine yw_np_f g ?_
    exact br_f wk_10 ⟨rfl, R⟩
  · rw [e]
    refine xw_ip_t h hi ?_
    refine br_f wk_10 ?_
    by_cases z : nI i = 0
    · refine br_t z ?_
      refine yw_np_t h hi ?_
      refine br_t rfl ?_
      exact br_t z ⟨rfl, R⟩
    · refine br_f z ⟨vp_in_nI (by omega) (by omega), ?_⟩
      refine yw_np_t h hi ?_
      refine br_t rfl ?_
      exact br_f z ⟨vp_in_nI (by omega) (by omega), rfl, R⟩
theorem i_vc_find {k : Nat} {u : SX} {v : SY} (I : i_Rel k u v) (hk : k + 4 ≤ 2048) (v1 : Int32) (v2 : Int32) : wpX_find (fun r => wpY_find (fun r' => r' = r ∧ i_Rel (k + 4) u v) v v1 v2) u v1 v2 := by
  obtain ⟨p, a, b, c, ax, ay, h, rfl, rfl⟩ := I
  obtain ⟨r, hr⟩ := cg_fr_e c ax ay v1 v2
  exact xw_find h hr (yw_find h hr ⟨rfl, p, a, b, c, ax, ay, h, rfl, rfl⟩)
section WKX
variable {p a b c : Nat} {ax ay : Nat → Int32}
theorem xw_add_f (h : cg_L p a b c ax ay) {v1 v2 : Int32} (hv : (v1 < 0 ∨ nI c ≤ v1) ∨ (v2 < 0 ∨ nI c ≤ v2)) {post : Int32 → Prop} (hq : post (-1)) : wpX_add post (nI p, nI a, nI b, nI c, ax, ay) v1 v2 := by
  have q := wk_b h
  unfold wpX_add
  dsimp only
  rcases wk_ix v1 (c := c) (by omega) with g | ⟨i, hi, e⟩
  · refine xw_ip_f g ?_
    exact br_t rfl hq
  · rw [e] at hv ⊢
    refine xw_ip_t h hi ?_
    refine br_f wk_10 ?_
    rcases hv with (w | w) | w
    · exact absurd w (nI_pos (by omega))
    · exact absurd w (nI_ge hi (by omega))
    · refine xw_ip_f w ?_
      exact br_t rfl hq
theorem yw_add_f (h : cg_L p a b c ax ay) {v1 v2 : Int32} (hv : (v1 < 0 ∨ nI c ≤ v1) ∨ (v2 < 0 ∨ nI c ≤ v2)) {post : Int32 → Prop} (hq : post (-1)) : wpY_add post (nI p, nI a, nI b, nI c, ax, ay) v1 v2 := by
  have q := wk_b h
  unfold wpY_add
  dsimp only
  rcases wk_ix v1 (c := c) (by omega) with g | ⟨i, hi, e⟩
  · refine yw_np_f g ?_
    exact br_f wk_10 hq
  · rw [e] at hv ⊢
    refine yw_np_t h hi ?_
    refine br_t rfl ?_
    rcases hv with (w | w) | w
    · exact absurd w (nI_pos (by omega))
    · exact absurd w (nI_ge hi (by omega))
    · refine yw_np_f w ?_
      exact br_f wk_10 hq
theorem xw_log_f (h : cg_L p a b c ax ay) {v1 v2 : Int32} (hv : (v1 < 0 ∨ nI c ≤ v1) ∨ (v2 < 0 ∨ nI c ≤ v2)) {post : Int32 → Prop} (hq : post (-1)) : wpX_logarithm post (nI p, nI a, nI b, nI c, ax, ay) v1 v2 := by
  have q := wk_b h
  unfold wpX_logarithm
  dsimp only
  rcases wk_ix v1 (c := c) (by omega) with g | ⟨i, hi, e⟩
  · refine xw_ip_f g ?_
    exact br_t rfl hq
  · rw [e] at hv ⊢
    refine xw_ip_t h hi ?_
    refine br_f wk_10 ?_
    rcases hv with (w | w) | w
    · exact absurd w (nI_pos (by omega))
    · exact absurd w (nI_ge hi (by omega))
    · refine xw_ip_f w ?_
      exact br_t rfl hq
theorem yw_log_f (h : cg_L p a b c ax ay) {v1 v2 : Int32} (hv : (v1 < 0 ∨ nI c ≤ v1) ∨ (v2 < 0 ∨ nI c ≤ v2)) {post : Int32 → Prop} (hq : post (-1)) : wpY_logarithm post (nI p, nI a, nI b, nI c, ax, ay) v1 v2 := by
  have q := wk_b h
  unfold wpY_logarithm
  dsimp only
  rcases wk_ix v1 (c := c) (by omega) with g | ⟨i, hi, e⟩
  · refine yw_np_f g ?_
    exact br_f wk_10 hq
  · rw [e] at hv ⊢
    refine yw_np_t h hi ?_
    refine br_t rfl ?_
    rcases hv with (w | w) | w
    · exact absurd w (nI_pos (by omega))
    · exact absurd w (nI_ge hi (by omega))
    · refine yw_np_f w ?_
      exact br_f wk_10 hq
end WKX
theorem i_vc_add {k : Nat} {u : SX} {v : SY} (I : i_Rel k u v) (hk : k + 4 ≤ 2048) (v1 : Int32) (v2 : Int32) : wpX_add (fun r => wpY_add (fun r' => r' = r ∧ i_Rel (k + 4) u v) v v1 v2) u v1 v2 := by
  obtain ⟨p, a, b, c, ax, ay, h, rfl, rfl⟩ := I
  have R : i_Rel (k + 4) (nI p, nI a, nI b, nI c, ax, ay) (nI p, nI a, nI b, nI c, ax, ay) := ⟨p, a, b, c, ax, ay, h, rfl, rfl⟩
  have q := wk_b h
  rcases wk_ix v1 (c := c) (by omega) with g | ⟨i, hi, e⟩
  · exact xw_add_f h (Or.inl g) (yw_add_f h (Or.inl g) ⟨rfl, R⟩)
  · rcases wk_ix v2 (c := c) (by omega) with g | ⟨j, hj, f⟩
    · exact xw_add_f h (Or.inr g) (yw_add_f h (Or.inr g) ⟨rfl, R⟩)
    · rw [e, f]
      exact xw_add h hi hj (yw_add h hi hj ⟨rfl, R⟩)
theorem i_vc_negate {k : Nat} {u : SX} {v : SY} (I : i_Rel k u v) (hk : k + 4 ≤ 2048) (v1 : Int32) : wpX_negate (fun r => wpY_negate (fun r' => r' = r ∧ i_Rel (k + 4) u v) v v1) u v1 := by
  obtain ⟨p, a, b, c, ax, ay, h, rfl, rfl⟩ := I
  have R : i_Rel (k + 4) (nI p, nI a, nI b, nI c, ax, ay) (nI p, nI a, nI b, nI c, ax, ay) := ⟨p, a, b, c, ax, ay, h, rfl, rfl⟩
  have q := wk_b h
  rcases wk_ix v1 (c := c) (by omega) with g | ⟨i, hi, e⟩
  · unfold wpX_negate wpY_negate
    dsimp only
    refine xw_ip_f g ?_
    refine br_t rfl ?_
    refine yw_np_f g ?_
    exact br_f wk_10 ⟨rfl, R⟩
  · rw [e]
    refine xw_neg h hi ?_
    unfold wpY_negate
    dsimp only
    refine yw_np_t h hi ?_
    refine br_t rfl ?_
    exact yw_neg h hi ⟨rfl, R⟩
theorem i_vc_times {k : Nat} {u : SX} {v : SY} (I : i_Rel k u v) (hk : k + 4 ≤ 2048) (v1 : Int32) (v2 : Int32) : wpX_times (fun r => wpY_times (fun r' => r' = r ∧ i_Rel (k + 4) u v) v v1 v2) u v1 v2 := by
  obtain ⟨p, a, b, c, ax, ay, h, rfl, rfl⟩ := I
  have R : i_Rel (k + 4) (nI p, nI a, nI b, nI c, ax, ay) (nI p, nI a, nI b, nI c, ax, ay) := ⟨p, a, b, c, ax, ay, h, rfl, rfl⟩
  have q := wk_b h
  rcases wk_ix v1 (c := c) (by omega) with g | ⟨i, hi, e⟩
  · unfold wpX_times wpY_times
    dsimp only
    refine xw_ip_f g ?_
    refine br_t rfl ?_
    refine yw_np_f g ?_
    exact br_f wk_10 ⟨rfl, R⟩
  · rw [e]
    by_cases g1 : v2 < -1000000
    · unfold wpX_times wpY_times
      dsimp only
      refine xw_ip_t h hi ?_
      refine br_f wk_10 ?_
      refine br_t g1 ?_
      refine yw_np_t h hi ?_
      refine br_t rfl ?_
      exact br_t g1 ⟨rfl, R⟩
    · by_cases g2 : v2 ≤ 1000000
      · refine xw_times h hi g1 g2 ?_
        unfold wpY_times
        dsimp only
        refine yw_np_t h hi ?_
        refine br_t rfl ?_
        refine br_f g1 ?_
        refine br_t g2 ?_
        exact yw_mul h hi g1 g2 ⟨rfl, R⟩
      · unfold wpX_times wpY_times
        dsimp only
        refine xw_ip_t h hi ?_
        refine br_f wk_10 ?_
        refine br_f g1 ?_
        refine br_f g2 ?_
        refine yw_np_t h hi ?_
        refine br_t rfl ?_
        exact br_f g1 (br_f g2 ⟨rfl, R⟩)
theorem i_vc_order {k : Nat} {u : SX} {v : SY} (I : i_Rel k u v) (hk : k + 4 ≤ 2048) (v1 : Int32) : wpX_order (fun r => wpY_order (fun r' => r' = r ∧ i_Rel (k + 4) u v) v v1) u v1 := by
  obtain ⟨p, a, b, c, ax, ay, h, rfl, rfl⟩ := I
  have R : i_Rel (k + 4) (nI p, nI a, nI b, nI c, ax, ay) (nI p, nI a, nI b, nI c, ax, ay) := ⟨p, a, b, c, ax, ay, h, rfl, rfl⟩
  have q := wk_b h
  rcases wk_ix v1 (c := c) (by omega) with g | ⟨i, hi, e⟩
  · unfold wpX_order wpY_order
    dsimp only
    refine xw_ip_f g ?_
    refine br_t rfl ?_
    refine yw_np_f g ?_
    exact br_f wk_10 ⟨rfl, R⟩
  · rw [e]
    refine xw_ord h hi ?_
    unfold wpY_order
    dsimp only
    refine yw_np_t h hi ?_
    refine br_t rfl ?_
    exact yw_ord h hi ⟨rfl, R⟩
theorem i_vc_exponent {k : Nat} {u : SX} {v : SY} (I : i_Rel k u v) (hk : k + 4 ≤ 2048) : wpX_exponent (fun r => wpY_exponent (fun r' => r' = r ∧ i_Rel (k + 4) u v) v) u := by
  obtain ⟨p, a, b, c, ax, ay, h, rfl, rfl⟩ := I
  exact xw_exp h (yw_exp h ⟨rfl, p, a, b, c, ax, ay, h, rfl, rfl⟩)
theorem i_vc_width {k : Nat} {u : SX} {v : SY} (I : i_Rel k u v) (hk : k + 4 ≤ 2048) : wpX_width (fun r => wpY_width (fun r' => r' = r ∧ i_Rel (k + 4) u v) v) u := by
  obtain ⟨p, a, b, c, ax, ay, h, rfl, rfl⟩ := I
  exact xw_wid h (yw_wid h ⟨rfl, p, a, b, c, ax, ay, h, rfl, rfl⟩)
theorem i_vc_generator {k : Nat} {u : SX} {v : SY} (I : i_Rel k u v) (hk : k + 4 ≤ 2048) : wpX_generator (fun r => wpY_generator (fun r' => r' = r ∧ i_Rel (k + 4) u v) v) u := by
  obtain ⟨p, a, b, c, ax, ay, h, rfl, rfl⟩ := I
  exact xw_gen h (yw_gen h ⟨rfl, p, a, b, c, ax, ay, h, rfl, rfl⟩)
theorem wk_bm {v : Int32} (g : ¬ (¬ v < 1 ∧ v ≤ 1000)) : v < 1 ∨ ¬ v ≤ 1000 := by
  by_cases w : v < 1
  · exact Or.inl w
  · exact Or.inr (fun z => g ⟨w, z⟩)
theorem xw_rts_f {p a b c : Nat} {ax ay : Nat → Int32} (h : cg_L p a b c ax ay) {i : Nat} (hi : i < c) {v : Int32} (hv : v < 1 ∨ ¬ v ≤ 1000) {post : Int32 → Prop} (hq : post (-1)) : wpX_roots post (nI p, nI a, nI b, nI c, ax, ay) (nI i) v := by
  unfold wpX_roots
  dsimp only
  refine xw_ip_t h hi ?_
  refine br_f wk_10 ?_
  by_cases g : v < 1
  · exact br_t g hq
  · rcases hv with w | w
    · exact absurd w g
    · exact br_f g (br_f w hq)
theorem i_vc_torsion {k : Nat} {u : SX} {v : SY} (I : i_Rel k u v) (hk : k + 4 ≤ 2048) (v1 : Int32) : wpX_torsion (fun r => wpY_torsion (fun r' => r' = r ∧ i_Rel (k + 4) u v) v v1) u v1 := by
  obtain ⟨p, a, b, c, ax, ay, h, rfl, rfl⟩ := I
  have R : i_Rel (k + 4) (nI p, nI a, nI b, nI c, ax, ay) (nI p, nI a, nI b, nI c, ax, ay) := ⟨p, a, b, c, ax, ay, h, rfl, rfl⟩
  have q := wk_b h
  unfold wpX_torsion
  dsimp only
  by_cases g : ¬ v1 < 1 ∧ v1 ≤ 1000
  · refine xw_rts h (i := 0) (by omega) g.1 g.2 ?_
    exact yw_tor h g.1 g.2 ⟨rfl, R⟩
  · refine xw_rts_f h (i := 0) (by omega) (wk_bm g) ?_
    unfold wpY_torsion
    dsimp only
    refine yw_nt_f (wk_bm g) ?_
    exact br_f wk_10 ⟨rfl, R⟩
theorem i_vc_ofOrder {k : Nat} {u : SX} {v : SY} (I : i_Rel k u v) (hk : k + 4 ≤ 2048) (v1 : Int32) : wpX_ofOrder (fun r => wpY_ofOrder (fun r' => r' = r ∧ i_Rel (k + 4) u v) v v1) u v1 := by
  obtain ⟨p, a, b, c, ax, ay, h, rfl, rfl⟩ := I
  have R : i_Rel (k + 4) (nI p, nI a, nI b, nI c, ax, ay) (nI p, nI a, nI b, nI c, ax, ay) := ⟨p, a, b, c, ax, ay, h, rfl, rfl⟩
  by_cases g : ¬ v1 < 1 ∧ v1 ≤ 1000
  · obtain ⟨m, m1, m2, ev, _⟩ := wk_m g.1 g.2
    rw [ev]
    exact xw_oo h m1 m2 (yw_oo h m1 m2 ⟨rfl, R⟩)
  · have w := wk_bm g
    have y : wpY_ofOrder (fun r' => r' = -1 ∧ i_Rel (k + 4) (nI p, nI a, nI b, nI c, ax, ay) (nI p, nI a, nI b, nI c, ax, ay)) (nI p, nI a, nI b, nI c, ax, ay) v1 := by
      unfold wpY_ofOrder
      dsimp only
      refine yw_nt_f w ?_
      exact br_f wk_10 ⟨rfl, R⟩
    unfold wpX_ofOrder
    dsimp only
    by_cases g1 : v1 < 1
    · exact br_t g1 y
    · rcases w with w | w
      · exact absurd w g1
      · exact br_f g1 (br_f w y)
theorem i_vc_logarithm {k : Nat} {u : SX} {v : SY} (I : i_Rel k u v) (hk : k + 4 ≤ 2048) (v1 : Int32) (v2 : Int32) : wpX_logarithm (fun r => wpY_logarithm (fun r' => r' = r ∧ i_Rel (k + 4) u v) v v1 v2) u v1 v2 := by
  obtain ⟨p, a, b, c, ax, ay, h, rfl, rfl⟩ := I
  have R : i_Rel (k + 4) (nI p, nI a, nI b, nI c, ax, ay) (nI p, nI a, nI b, nI c, ax, ay) := ⟨p, a, b, c, ax, ay, h, rfl, rfl⟩
  have q := wk_b h
  rcases wk_ix v1 (c := c) (by omega) with g | ⟨i, hi, e⟩
  · exact xw_log_f h (Or.inl g) (yw_log_f h (Or.inl g) ⟨rfl, R⟩)
  · rcases wk_ix v2 (c := c) (by omega) with g | ⟨j, hj, f⟩
    · exact xw_log_f h (Or.inr g) (yw_log_f h (Or.inr g) ⟨rfl, R⟩)
    · rw [e, f]
      obtain ⟨r, hr⟩ := cg_lg_e (cg_S p a c ax ay) i j
      exact xw_log h hi hj hr (yw_log h hi hj hr ⟨rfl, R⟩)
theorem i_vc_roots {k : Nat} {u : SX} {v : SY} (I : i_Rel k u v) (hk : k + 4 ≤ 2048) (v1 : Int32) (v2 : Int32) : wpX_roots (fun r => wpY_roots (fun r' => r' = r ∧ i_Rel (k + 4) u v) v v1 v2) u v1 v2 := by
  obtain ⟨p, a, b, c, ax, ay, h, rfl, rfl⟩ := I
  have R : i_Rel (k + 4) (nI p, nI a, nI b, nI c, ax, ay) (nI p, nI a, nI b, nI c, ax, ay) := ⟨p, a, b, c, ax, ay, h, rfl, rfl⟩
  have q := wk_b h
  rcases wk_ix v1 (c := c) (by omega) with g | ⟨i, hi, e⟩
  · unfold wpX_roots wpY_roots
    dsimp only
    refine xw_ip_f g ?_
    refine br_t rfl ?_
    refine yw_np_f g ?_
    exact br_f wk_10 ⟨rfl, R⟩
  · rw [e]
    by_cases g : ¬ v2 < 1 ∧ v2 ≤ 1000
    · exact xw_rts h hi g.1 g.2 (yw_rts h hi g.1 g.2 ⟨rfl, R⟩)
    · refine xw_rts_f h hi (wk_bm g) ?_
      unfold wpY_roots
      dsimp only
      refine yw_np_t h hi ?_
      refine br_t rfl ?_
      refine yw_nt_f (wk_bm g) ?_
      exact br_f wk_10 ⟨rfl, R⟩
theorem i_vc_twist {k : Nat} {u : SX} {v : SY} (I : i_Rel k u v) (hk : k + 4 ≤ 2048) : wpX_twist (fun r => wpY_twist (fun r' => r' = r ∧ i_Rel (k + 4) u v) v) u := by
  obtain ⟨p, a, b, c, ax, ay, h, rfl, rfl⟩ := I
  obtain ⟨g, hg⟩ := cg_g_e h.1.1
  exact xw_twist h hg (yw_twist h hg ⟨rfl, p, a, b, c, ax, ay, h, rfl, rfl⟩)
theorem i_vc_changes {k : Nat} {u : SX} {v : SY} (I : i_Rel k u v) (hk : k + 4 ≤ 2048) (v1 : Int32) (v2 : Int32) : wpX_changes (fun r => wpY_changes (fun r' => r' = r ∧ i_Rel (k + 4) u v) v v1 v2) u v1 v2 := by
  obtain ⟨p, a, b, c, ax, ay, h, rfl, rfl⟩ := I
  have R : i_Rel (k + 4) (nI p, nI a, nI b, nI c, ax, ay) (nI p, nI a, nI b, nI c, ax, ay) := ⟨p, a, b, c, ax, ay, h, rfl, rfl⟩
  have q := wk_b h
  by_cases g : (v1 < 0 ∨ nI p ≤ v1) ∨ (v2 < 0 ∨ nI p ≤ v2)
  · unfold wpX_changes wpY_changes
    dsimp only
    by_cases g1 : v1 < 0
    · exact br_t g1 (br_t g1 ⟨rfl, R⟩)
    · by_cases g2 : nI p ≤ v1
      · exact br_f g1 (br_t g2 (br_f g1 (br_t g2 ⟨rfl, R⟩)))
      · by_cases g3 : v2 < 0
        · exact br_f g1 (br_f g2 (br_t g3 (br_f g1 (br_f g2 (br_t g3 ⟨rfl, R⟩)))))
        · have g4 : ¬ v2 < nI p := by
            rcases g with (w | w) | (w | w)
            · exact absurd w g1
            · exact absurd w g2
            · exact absurd w g3
            · exact Int32.not_lt.mpr w
          exact br_f g1 (br_f g2 (br_f g3 (br_f g4 (br_f g1 (br_f g2 (br_f g3 (br_f g4 ⟨rfl, R⟩)))))))
  · rcases wk_ix v1 (c := p) (by omega) with w | ⟨C, hC, e⟩
    · exact absurd (Or.inl w) g
    · rcases wk_ix v2 (c := p) (by omega) with w | ⟨D, hD, f⟩
      · exact absurd (Or.inr w) g
      · rw [e, f]
        exact xw_chg h hC hD (yw_chg h hC hD ⟨rfl, R⟩)
end
