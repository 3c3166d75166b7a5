/-! numbers of the walks; the small methods of both sides -/
theorem zb_m {a b : Int} {A B : Nat} (h : a.natAbs ≤ A) (g : b.natAbs ≤ B) : (a * b).natAbs ≤ A * B := by
  rw [Int.natAbs_mul]; exact Nat.mul_le_mul h g
theorem zb_a {a b : Int} {A B : Nat} (h : a.natAbs ≤ A) (g : b.natAbs ≤ B) : (a + b).natAbs ≤ A + B := Nat.le_trans (Int.natAbs_add_le a b) (Nat.add_le_add h g)
theorem zb_s {a b : Int} {A B : Nat} (h : a.natAbs ≤ A) (g : b.natAbs ≤ B) : (a - b).natAbs ≤ A + B := Nat.le_trans (Int.natAbs_sub_le a b) (Nat.add_le_add h g)
theorem zb_n {x N : Nat} (h : x < N) : (x : Int).natAbs ≤ N := by omega
theorem zb_in {z : Int} {M : Nat} (h : z.natAbs ≤ M) (hM : M ≤ 1000000000) : zi_in z := by unfold zi_in; omega
theorem wk_sub {a b : Nat} (h : b ≤ a) : nI a - nI b = nI (a - b) := (Int32.ofNat_sub a b h).symm
theorem wk_mul (a b : Nat) : nI a * nI b = nI (a * b) := (Int32.ofNat_mul a b).symm
theorem wk_rem {a d : Nat} (ha : a < 1000000000) (hd : d ≤ 1000) : nI a - nI a / nI d * nI d = nI (a % d) := by
  have e : ((a : Int).tmod (d : Int)) = ((a % d : Nat) : Int) := by
    rw [Int.tmod_eq_emod_of_nonneg (by omega), Int.natCast_emod]
  rw [zi_n a, zi_r1 hd (by unfold zi_in; omega), e, ← zi_n]
theorem wk_eq0 {a : Nat} (h : a < 2 ^ 31) : nI a = 0 ↔ a = 0 := by
  rw [← nI_0, nI_eq h (by omega)]
theorem wk_ix (v : Int32) {c : Nat} (hc : c < 2 ^ 31) : (v < 0 ∨ nI c ≤ v) ∨ ∃ i : Nat, i < c ∧ v = nI i := by
  by_cases h : v < 0
  · exact Or.inl (Or.inl h)
  · obtain ⟨j, hj, rfl⟩ := nI_of h
    by_cases h2 : j < c
    · exact Or.inr ⟨j, h2, rfl⟩
    · exact Or.inl (Or.inr (nI_le (by omega) hj))
theorem wk_n4 {k : Nat} (hk : k < 2 ^ 31) : ¬ nI k = -4 := by
  intro e
  have h := nI_pos (n := k) hk
  rw [e] at h
  exact h (by decide)
theorem wk_10 : ¬ (1 : Int32) = 0 := by decide
section WKB
variable {p a b c : Nat} {ax ay : Nat → Int32} (h : cg_L p a b c ax ay)
theorem wk_b (h : cg_L p a b c ax ay) : 5 ≤ p ∧ p ≤ 61 ∧ 1 ≤ c ∧ c ≤ 123 := by
  have b' := ec_P_b h.1.1
  exact ⟨b'.1, b'.2, h.2.1, h.2.2.1⟩
theorem xw_ip_t (h : cg_L p a b c ax ay) {i : Nat} (hi : i < c) {post : Int32 → Prop} (hp : post 1) : wpX_isPoint post (nI p, nI a, nI b, nI c, ax, ay) (nI i) := by
  have q := wk_b h
  exact br_f (nI_pos (by omega)) (br_f (nI_ge hi (by omega)) hp)
theorem xw_ip_f {v : Int32} (hv : v < 0 ∨ nI c ≤ v) {post : Int32 → Prop} (hp : post 0) : wpX_isPoint post (nI p, nI a, nI b, nI c, ax, ay) v := by
  by_cases g : v < 0
  · exact br_t g hp
  · rcases hv with w | w
    · exact absurd w g
    · exact br_f g (br_t w hp)
theorem yw_np_t (h : cg_L p a b c ax ay) {i : Nat} (hi : i < c) {post : Int32 → Prop} (hp : post 0) : wpY_noPoint post (nI p, nI a, nI b, nI c, ax, ay) (nI i) := by
  have q := wk_b h
  exact br_f (nI_pos (by omega)) (br_t (nI_lt hi (by omega)) hp)
theorem yw_np_f {v : Int32} (hv : v < 0 ∨ nI c ≤ v) {post : Int32 → Prop} (hp : post 1) : wpY_noPoint post (nI p, nI a, nI b, nI c, ax, ay) v := by
  by_cases g : v < 0
  · exact br_t g hp
  · rcases hv with w | w
    · exact absurd w g
    · exact br_f g (br_f (Int32.not_lt.mpr w) hp)
theorem xw_red (h : cg_L p a b c ax ay) {w : Int32} {z : Int} (e : w = zi_ z) (hz : zi_in z) {post : Int32 → Prop} (hp : post (nI (ec_m p z))) : wpX_reduced post (nI p, nI a, nI b, nI c, ax, ay) w := by
  have q := wk_b h
  have p0 : 0 < p := by omega
  have z0 := zi_neg0 (p := p) (a := z) p0 (by omega)
  have er : w - w / nI p * nI p = zi_ (z.tmod p) := by rw [e]; exact zi_r1 (by omega) hz
  refine ⟨nI_ne0 p0 (by omega), nm_r er ?_⟩
  by_cases g : z.tmod p < 0
  · refine br_f (fun w => ?_) ?_
    · exact absurd (z0.mpr g) (Int32.not_lt.mpr w)
    · rw [zi_rdn p0 (by omega) g]; exact hp
  · refine br_t (Int32.not_lt.mp (fun w => g (z0.mp w))) ?_
    rw [zi_rdp p0 g]; exact hp
theorem yw_rest (h : cg_L p a b c ax ay) {w : Int32} {z : Int} (e : w = zi_ z) (hz : zi_in z) {post : Int32 → Prop} (hp : post (nI (ec_m p z))) : wpY_rest post (nI p, nI a, nI b, nI c, ax, ay) w := by
  have q := wk_b h
  have p0 : 0 < p := by omega
  have er := zi_rs (p := p) (a := z) p0 (by omega) hz
  rw [← e] at er
  refine ⟨nI_ne0 p0 (by omega), nI_ne0 p0 (by omega), ?_⟩
  rw [er]; exact hp
/-- what a search answers -/
def cg_fr (c : Nat) (ax ay : Nat → Int32) (x y r : Int32) : Prop := (∃ k, 1 ≤ k ∧ k < c ∧ ax k = x ∧ ay k = y ∧ r = nI k ∧ ∀ l, 1 ≤ l → l < k → ¬ (ax l = x ∧ ay l = y)) ∨ ((∀ k, 1 ≤ k → k < c → ¬ (ax k = x ∧ ay k = y)) ∧ r = -4)
theorem cg_fr_e (c : Nat) (ax ay : Nat → Int32) (x y : Int32) : ∃ r, cg_fr c ax ay x y r := by
  by_cases g : ∃ k, 1 ≤ k ∧ k < c ∧ ax k = x ∧ ay k = y
  · obtain ⟨k, hk, hn⟩ := gp_least (fun k => 1 ≤ k ∧ k < c ∧ ax k = x ∧ ay k = y) g
    refine ⟨nI k, Or.inl ⟨k, hk.1, hk.2.1, hk.2.2.1, hk.2.2.2, rfl, fun l l1 l2 z => ?_⟩⟩
    exact hn l l2 ⟨l1, by omega, z.1, z.2⟩
  · exact ⟨-4, Or.inr ⟨fun k k1 k2 z => g ⟨k, k1, k2, z.1, z.2⟩, rfl⟩⟩
theorem xw_find_l (hc : c ≤ 123) {x y r : Int32} (hr : cg_fr c ax ay x y r) {post : Int32 → Prop} (hp : post r) : ∀ d j, j + d = c → 1 ≤ j → (∀ k, 1 ≤ k → k < j → ¬ (ax k = x ∧ ay k = y)) → wX_find_2 post x y (nI p) (nI a) (nI b) (nI c) ax ay (d + 1) (nI j) := by
  intro d
  induction d with
  | zero =>
    intro j hj j1 hn
    refine br_t (nI_le (by omega) (by omega)) ?_
    rcases hr with ⟨k, k1, k2, ex, ey, _, _⟩ | ⟨_, er⟩
    · exact absurd ⟨ex, ey⟩ (hn k k1 (by omega))
    · rw [← er]; exact hp
  | succ d ih =>
    intro j hj j1 hn
    have ec : (nI j).toNatClampNeg = j := nI_clamp (by omega)
    have hi : vp_in (nI j) 123 := vp_in_nI (by omega) (by omega)
    have nx : ¬ (ax j = x ∧ ay j = y) → wX_find_2 post x y (nI p) (nI a) (nI b) (nI c) ax ay (d + 1) (nI (j + 1)) := by
      intro z
      refine ih (j + 1) (by omega) (by omega) (fun k k1 k2 => ?_)
      rcases Nat.lt_or_ge k j with g | g
      · exact hn k k1 g
      · rw [show k = j by omega]; exact z
    refine br_f (nI_ge (by omega) (by omega)) ⟨hi, ?_⟩
    by_cases e1 : ax j = x
    · refine br_t (by rw [ec]; exact e1) ⟨hi, ?_⟩
      by_cases e2 : ay j = y
      · refine br_t (by rw [ec]; exact e2) ?_
        rcases hr with ⟨k, k1, k2, ex, ey, er, hl⟩ | ⟨hl, _⟩
        · have ek : k = j := by
            rcases Nat.lt_trichotomy k j with g | g | g
            · exact absurd ⟨ex, ey⟩ (hn k k1 g)
            · exact g
            · exact absurd ⟨e1, e2⟩ (hl j j1 g)
          rw [← ek, ← er]; exact hp
        · exact absurd ⟨e1, e2⟩ (hl j j1 (by omega))
      · exact br_f (by rw [ec]; exact e2) (nm_r (nI_1 j) (nx (fun z => e2 z.2)))
    · exact br_f (by rw [ec]; exact e1) (nm_r (nI_1 j) (nx (fun z => e1 z.1)))
theorem xw_find (h : cg_L p a b c ax ay) {x y r : Int32} (hr : cg_fr c ax ay x y r) {post : Int32 → Prop} (hp : post r) : wpX_find post (nI p, nI a, nI b, nI c, ax, ay) x y := by
  have q := wk_b h
  have w := xw_find_l (p := p) (a := a) (b := b) q.2.2.2 hr hp (c - 1) 1 (by omega) (by omega) (fun k k1 k2 => by omega)
  exact ⟨c - 1 + 1, w⟩
theorem yw_find_l (hc : c ≤ 123) {x y r : Int32} (hr : cg_fr c ax ay x y r) {post : Int32 → Prop} (hp : post r) : ∀ d j, j + d = c → 1 ≤ j → (∀ k, 1 ≤ k → k < j → ¬ (ax k = x ∧ ay k = y)) → wY_find_2 post x y (nI p) (nI a) (nI b) (nI c) ax ay (d + 1) (nI j) := by
  intro d
  induction d with
  | zero =>
    intro j hj j1 hn
    refine br_t (nI_le (by omega) (by omega)) ?_
    rcases hr with ⟨k, k1, k2, ex, ey, _, _⟩ | ⟨_, er⟩
    · exact absurd ⟨ex, ey⟩ (hn k k1 (by omega))
    · rw [← er]; exact hp
  | succ d ih =>
    intro j hj j1 hn
    have ec : (nI j).toNatClampNeg = j := nI_clamp (by omega)
    have hi : vp_in (nI j) 140 := vp_in_nI (by omega) (by omega)
    have nx : ¬ (ax j = x ∧ ay j = y) → wY_find_2 post x y (nI p) (nI a) (nI b) (nI c) ax ay (d + 1) (nI (j + 1)) := by
      intro z
      refine ih (j + 1) (by omega) (by omega) (fun k k1 k2 => ?_)
      rcases Nat.lt_or_ge k j with g | g
      · exact hn k k1 g
      · rw [show k = j by omega]; exact z
    refine br_f (nI_ge (by omega) (by omega)) ⟨hi, ?_⟩
    by_cases e1 : ax j = x
    · refine br_t (by rw [ec]; exact e1) ⟨hi, ?_⟩
      by_cases e2 : ay j = y
      · refine br_t (by rw [ec]; exact e2) ?_
        rcases hr with ⟨k, k1, k2, ex, ey, er, hl⟩ | ⟨hl, _⟩
        · have ek : k = j := by
            rcases Nat.lt_trichotomy k j with g | g | g
            · exact absurd ⟨ex, ey⟩ (hn k k1 g)
            · exact g
            · exact absurd ⟨e1, e2⟩ (hl j j1 g)
          rw [← ek, ← er]; exact hp
        · exact absurd ⟨e1, e2⟩ (hl j j1 (by omega))
      · exact br_f (by rw [ec]; exact e2) (nm_r (nI_1 j) (nx (fun z => e2 z.2)))
    · exact br_f (by rw [ec]; exact e1) (nm_r (nI_1 j) (nx (fun z => e1 z.1)))
theorem yw_find (h : cg_L p a b c ax ay) {x y r : Int32} (hr : cg_fr c ax ay x y r) {post : Int32 → Prop} (hp : post r) : wpY_find post (nI p, nI a, nI b, nI c, ax, ay) x y := by
  have q := wk_b h
  have w := yw_find_l (p := p) (a := a) (b := b) q.2.2.2 hr hp (c - 1) 1 (by omega) (by omega) (fun k k1 k2 => by omega)
  exact ⟨c - 1 + 1, w⟩
theorem cg_fr_at (h : cg_L p a b c ax ay) {k : Nat} (k1 : 1 ≤ k) (k2 : k < c) : cg_fr c ax ay (ax k) (ay k) (nI k) := by
  refine Or.inl ⟨k, k1, k2, rfl, rfl, rfl, fun l l1 l2 z => ?_⟩
  have e := h.2.2.2.2.2 l k l1 (by omega) k1 k2 z.1 z.2
  omega
end WKB
