/-! the list as it grows: all points before (x, y) stand in it, and no others -/
theorem ec_sq2 {p : Nat} (h : ec_P p) : ∀ t, t < p → gp_cn (fun z => Nat.beq (z * z % p) t) p ≤ 2 := by
  rcases h with rfl | rfl | rfl | rfl | rfl | rfl | rfl | rfl | rfl | rfl | rfl | rfl | rfl | rfl | rfl | rfl <;> decide +kernel
theorem ec_on2 {p a b x : Nat} (h : ec_P p) : gp_cn (fun z => ec_onb p a b x z) p ≤ 2 := by
  have b' := ec_P_b h
  exact ec_sq2 h ((x * (x * x) + a * x + b) % p) (Nat.mod_lt _ (by omega))
theorem gp_cn_mono (f : Nat → Bool) {m n : Nat} (h : m ≤ n) : gp_cn f m ≤ gp_cn f n := by
  induction n with
  | zero => rw [show m = 0 by omega]; exact Nat.le_refl _
  | succ n ih =>
    rcases Nat.lt_or_ge n m with g | g
    · rw [show m = n + 1 by omega]; exact Nat.le_refl _
    · have q := ih g
      have w : gp_cn f n ≤ gp_cn f (n + 1) := Nat.le_add_right _ _
      omega
def cg_I (p a b x y c : Nat) (ax ay : Nat → Int32) : Prop := 1 ≤ c ∧ c ≤ 1 + 2 * x + gp_cn (fun z => ec_onb p a b x z) y ∧ (∀ k, 1 ≤ k → k < c → ∃ x' y', x' < p ∧ y' < p ∧ ec_on p a b x' y' ∧ ax k = nI x' ∧ ay k = nI y' ∧ (x' < x ∨ (x' = x ∧ y' < y))) ∧ (∀ x' y', x' < p → y' < p → ec_on p a b x' y' → (x' < x ∨ (x' = x ∧ y' < y)) → ∃ k, 1 ≤ k ∧ k < c ∧ ax k = nI x' ∧ ay k = nI y') ∧ (∀ k l, 1 ≤ k → k < c → 1 ≤ l → l < c → ax k = ax l → ay k = ay l → k = l)
theorem cg_I_0 (p a b : Nat) (ax ay : Nat → Int32) : cg_I p a b 0 0 1 ax ay :=
  ⟨by omega, by omega, fun k h1 h2 => by omega, fun x' y' h1 h2 h3 h4 => by omega, fun k l h1 h2 h3 h4 h5 h6 => by omega⟩
theorem cg_us {f : Nat → Int32} {k : Nat} {x : Int32} : upd f k x k = x := if_pos rfl
theorem cg_un {f : Nat → Int32} {k j : Nat} {x : Int32} (h : j ≠ k) : upd f k x j = f j := if_neg h
theorem cg_I_c {p a b x y c : Nat} {ax ay : Nat → Int32} (hp : ec_P p) (hx : x < p) (hy : y < p) (ho : ec_on p a b x y) (h : cg_I p a b x y c ax ay) : c < 123 := by
  have b' := ec_P_b hp
  have q1 : gp_cn (fun z => ec_onb p a b x z) (y + 1) = gp_cn (fun z => ec_onb p a b x z) y + 1 := gp_cn_t (ec_onb_t.mpr ho)
  have q2 := gp_cn_mono (fun z => ec_onb p a b x z) (show y + 1 ≤ p by omega)
  have q3 := ec_on2 (a := a) (b := b) (x := x) hp
  have q4 := h.2.1
  omega
theorem cg_I_on {p a b x y c : Nat} {ax ay : Nat → Int32} (hp : ec_P p) (hx : x < p) (hy : y < p) (ho : ec_on p a b x y) (h : cg_I p a b x y c ax ay) : cg_I p a b x (y + 1) (c + 1) (upd ax c (nI x)) (upd ay c (nI y)) := by
  have b' := ec_P_b hp
  obtain ⟨h1, h2, h3, h4, h5⟩ := h
  have q1 : gp_cn (fun z => ec_onb p a b x z) (y + 1) = gp_cn (fun z => ec_onb p a b x z) y + 1 := gp_cn_t (ec_onb_t.mpr ho)
  have new : ∀ k, 1 ≤ k → k < c → ¬ (upd ax c (nI x) k = nI x ∧ upd ay c (nI y) k = nI y) := by
    rintro k k1 k2 ⟨e1, e2⟩
    rw [cg_un (by omega)] at e1 e2
    obtain ⟨x', y', g1, g2, g3, g4, g5, g6⟩ := h3 k k1 k2
    rw [g4, nI_eq (by omega) (by omega)] at e1
    rw [g5, nI_eq (by omega) (by omega)] at e2
    omega
  refine ⟨by omega, by omega, ?_, ?_, ?_⟩
  · intro k k1 k2
    rcases Nat.lt_or_ge k c with g | g
    · obtain ⟨x', y', g1, g2, g3, g4, g5, g6⟩ := h3 k k1 g
      refine ⟨x', y', g1, g2, g3, ?_, ?_, by omega⟩
      · rw [cg_un (by omega)]; exact g4
      · rw [cg_un (by omega)]; exact g5
    · have e : k = c := by omega
      rw [e]
      exact ⟨x, y, hx, hy, ho, cg_us, cg_us, by omega⟩
  · intro x' y' g1 g2 g3 g4
    by_cases e : x' = x ∧ y' = y
    · rw [e.1, e.2]
      exact ⟨c, h1, by omega, cg_us, cg_us⟩
    · obtain ⟨k, k1, k2, e1, e2⟩ := h4 x' y' g1 g2 g3 (by omega)
      refine ⟨k, k1, by omega, ?_, ?_⟩
      · rw [cg_un (by omega)]; exact e1
      · rw [cg_un (by omega)]; exact e2
  · intro k l k1 k2 l1 l2 e1 e2
    rcases Nat.lt_or_ge k c with g | g
    · rcases Nat.lt_or_ge l c with w | w
      · rw [cg_un (by omega), cg_un (by omega)] at e1 e2
        exact h5 k l k1 g l1 w e1 e2
      · have e : l = c := by omega
        rw [e, cg_us] at e1 e2
        exact absurd ⟨e1, e2⟩ (new k k1 g)
    · have e : k = c := by omega
      rcases Nat.lt_or_ge l c with w | w
      · rw [e, cg_us] at e1 e2
        exact absurd ⟨e1.symm, e2.symm⟩ (new l l1 w)
      · omega
theorem cg_I_off {p a b x y c : Nat} {ax ay : Nat → Int32} (ho : ¬ ec_on p a b x y) (h : cg_I p a b x y c ax ay) : cg_I p a b x (y + 1) c ax ay := by
  obtain ⟨h1, h2, h3, h4, h5⟩ := h
  have q1 : gp_cn (fun z => ec_onb p a b x z) (y + 1) = gp_cn (fun z => ec_onb p a b x z) y := gp_cn_f (fun z => ho (ec_onb_t.mp z))
  refine ⟨h1, by omega, ?_, ?_, h5⟩
  · intro k k1 k2
    obtain ⟨x', y', g1, g2, g3, g4, g5, g6⟩ := h3 k k1 k2
    exact ⟨x', y', g1, g2, g3, g4, g5, by omega⟩
  · intro x' y' g1 g2 g3 g4
    by_cases e : x' = x ∧ y' = y
    · rw [e.1, e.2] at g3
      exact absurd g3 ho
    · exact h4 x' y' g1 g2 g3 (by omega)
theorem cg_I_row {p a b x c : Nat} {ax ay : Nat → Int32} (hp : ec_P p) (h : cg_I p a b x p c ax ay) : cg_I p a b (x + 1) 0 c ax ay := by
  obtain ⟨h1, h2, h3, h4, h5⟩ := h
  have q3 := ec_on2 (a := a) (b := b) (x := x) hp
  refine ⟨h1, by omega, ?_, ?_, h5⟩
  · intro k k1 k2
    obtain ⟨x', y', g1, g2, g3, g4, g5, g6⟩ := h3 k k1 k2
    exact ⟨x', y', g1, g2, g3, g4, g5, by omega⟩
  · intro x' y' g1 g2 g3 g4
    exact h4 x' y' g1 g2 g3 (by omega)
theorem cg_I_end {p a b c : Nat} {ax ay : Nat → Int32} (hn : cg_n p a b) (h : cg_I p a b p 0 c ax ay) : cg_L p a b c ax ay := by
  have b' := ec_P_b hn.1
  obtain ⟨h1, h2, h3, h4, h5⟩ := h
  have q : gp_cn (fun z => ec_onb p a b p z) 0 = 0 := rfl
  refine ⟨hn, h1, by omega, ?_, ?_, h5⟩
  · intro k k1 k2
    obtain ⟨x', y', g1, g2, g3, g4, g5, g6⟩ := h3 k k1 k2
    exact ⟨x', y', g1, g2, g3, g4, g5⟩
  · intro x' y' g1 g2 g3
    exact h4 x' y' g1 g2 g3 (by omega)
/-! squares -/
noncomputable def cg_sq (p g : Nat) : Bool := Nat.beq (gp_cn (fun z => Nat.beq (z * z % p) (g % p)) p) 0
theorem gp_cn_0 {f : Nat → Bool} {n : Nat} : gp_cn f n = 0 ↔ ∀ k, k < n → ¬ f k = true := by
  induction n with
  | zero => exact ⟨fun _ k hk => absurd hk (Nat.not_lt_zero k), fun _ => rfl⟩
  | succ n ih =>
    constructor
    · intro h k hk
      have w : gp_cn f n ≤ gp_cn f (n + 1) := Nat.le_add_right _ _
      rcases Nat.lt_or_ge k n with g | g
      · exact ih.mp (by omega) k g
      · rw [show k = n by omega]
        intro z
        rw [gp_cn_t z] at h
        omega
    · intro h
      rw [gp_cn_f (h n (by omega))]
      exact ih.mpr (fun k hk => h k (by omega))
theorem cg_sq_t {p g : Nat} : cg_sq p g = true ↔ ∀ z, z < p → ¬ z * z % p = g % p := by
  constructor
  · intro h z hz e
    exact gp_cn_0.mp (Nat.eq_of_beq_eq_true h) z hz (by rw [e]; exact Nat.beq_refl _)
  · intro h
    have e : gp_cn (fun z => Nat.beq (z * z % p) (g % p)) p = 0 := gp_cn_0.mpr (fun z hz w => h z hz (Nat.eq_of_beq_eq_true w))
    unfold cg_sq
    rw [e]; rfl
theorem cg_ns {p : Nat} (h : ec_P p) : ∃ g, 1 < g ∧ g < p - 1 ∧ cg_sq p g = true := by
  rcases h with rfl | rfl | rfl | rfl | rfl | rfl | rfl | rfl | rfl | rfl | rfl | rfl | rfl | rfl | rfl | rfl
  · exact ⟨2, by decide +kernel⟩
  · exact ⟨3, by decide +kernel⟩
  · exact ⟨2, by decide +kernel⟩
  · exact ⟨2, by decide +kernel⟩
  · exact ⟨3, by decide +kernel⟩
  · exact ⟨2, by decide +kernel⟩
  · exact ⟨5, by decide +kernel⟩
  · exact ⟨2, by decide +kernel⟩
  · exact ⟨3, by decide +kernel⟩
  · exact ⟨2, by decide +kernel⟩
  · exact ⟨3, by decide +kernel⟩
  · exact ⟨2, by decide +kernel⟩
  · exact ⟨5, by decide +kernel⟩
  · exact ⟨2, by decide +kernel⟩
  · exact ⟨2, by decide +kernel⟩
  · exact ⟨2, by decide +kernel⟩
