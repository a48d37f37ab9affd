/-! the group of symmetries -/
theorem gr_lin (s k x y a b : Int) : mt_x s k (x + a) (y + b) = mt_x s k x y + mt_x s k a b ∧ mt_y s k (x + a) (y + b) = mt_y s k x y + mt_y s k a b := by
  unfold mt_x mt_y
  constructor <;> grind
theorem gr_sc (s k c x y : Int) : mt_x s k (c * x) (c * y) = c * mt_x s k x y ∧ mt_y s k (c * x) (c * y) = c * mt_y s k x y := by
  unfold mt_x mt_y
  constructor <;> grind
theorem gr_neg (s k x y : Int) : mt_x s k (-x) (-y) = -mt_x s k x y ∧ mt_y s k (-x) (-y) = -mt_y s k x y := by
  unfold mt_x mt_y
  constructor <;> grind
theorem gr_sub (s k x y a b : Int) : mt_x s k (x - a) (y - b) = mt_x s k x y - mt_x s k a b ∧ mt_y s k (x - a) (y - b) = mt_y s k x y - mt_y s k a b := by
  unfold mt_x mt_y
  constructor <;> grind
theorem gr_bas (s k x y : Int) : mt_x s k x y = x * mt_x s k 1 0 + y * mt_x s k 0 1 ∧ mt_y s k x y = x * mt_y s k 1 0 + y * mt_y s k 0 1 := by
  unfold mt_x mt_y
  constructor <;> grind
theorem gr_00 (s k : Int) : mt_x s k 0 0 = 0 ∧ mt_y s k 0 0 = 0 := by
  unfold mt_x mt_y
  constructor <;> grind
theorem gr_lp {s k j : Int} (hs : s = 0 ∨ s = 1) (hk : 0 ≤ k ∧ k < 2 * mt_rd s) (hj : 0 ≤ j ∧ j < 2 * mt_rd s) (x y : Int) : mt_x s (mt_lp s k j) x y = mt_x s k (mt_x s j x y) (mt_y s j x y) ∧ mt_y s (mt_lp s k j) x y = mt_y s k (mt_x s j x y) (mt_y s j x y) := by
  obtain ⟨h1, h2, h3, h4⟩ := (mt_lp_i hs hk hj (mt_lp_bd hs hk hj)).mpr rfl
  rw [(gr_bas s (mt_lp s k j) x y).1, (gr_bas s (mt_lp s k j) x y).2, h1, h2, h3, h4, (gr_bas s j x y).1, (gr_bas s j x y).2]
  rw [(gr_lin s k _ _ _ _).1, (gr_lin s k _ _ _ _).2, (gr_sc s k _ _ _).1, (gr_sc s k _ _ _).2, (gr_sc s k _ _ _).1, (gr_sc s k _ _ _).2]
  exact ⟨rfl, rfl⟩
theorem gr_li0 : ∀ s : Fin 2, ∀ k : Fin 12, (k.val : Int) < 2 * mt_rd (s.val : Int) → mt_lp (s.val : Int) (mt_li (s.val : Int) (k.val : Int)) (k.val : Int) = 0 ∧ mt_li (s.val : Int) (mt_li (s.val : Int) (k.val : Int)) = (k.val : Int) := by decide +kernel
theorem gr_lib {s k : Int} (hs : s = 0 ∨ s = 1) (hk : 0 ≤ k ∧ k < 2 * mt_rd s) : mt_lp s (mt_li s k) k = 0 ∧ mt_li s (mt_li s k) = k ∧ mt_lp s k (mt_li s k) = 0 := by
  have hr := mt_rd_or hs
  have h := gr_li0 ⟨s.toNat, by omega⟩ ⟨k.toNat, by omega⟩
  simp only at h
  rw [show ((s.toNat : Nat) : Int) = s by omega, Int.toNat_of_nonneg hk.1] at h
  have h1 := h hk.2
  exact ⟨h1.1, h1.2, (mt_li_i hs hk (mt_li_bd hs hk)).mpr rfl⟩
theorem gr_li {s k : Int} (hs : s = 0 ∨ s = 1) (hk : 0 ≤ k ∧ k < 2 * mt_rd s) (x y : Int) : (mt_x s k (mt_x s (mt_li s k) x y) (mt_y s (mt_li s k) x y) = x ∧ mt_y s k (mt_x s (mt_li s k) x y) (mt_y s (mt_li s k) x y) = y) ∧ mt_x s (mt_li s k) (mt_x s k x y) (mt_y s k x y) = x ∧ mt_y s (mt_li s k) (mt_x s k x y) (mt_y s k x y) = y := by
  obtain ⟨h1, -, h3⟩ := gr_lib hs hk
  have a := gr_lp hs hk (mt_li_bd hs hk) x y
  have b := gr_lp hs (mt_li_bd hs hk) hk x y
  rw [h3, (mt_x0 s x y).1, (mt_x0 s x y).2] at a
  rw [h1, (mt_x0 s x y).1, (mt_x0 s x y).2] at b
  exact ⟨⟨a.1.symm, a.2.symm⟩, b.1.symm, b.2.symm⟩
/-- the colour of any point of the plane -/
def gr_C (col : Nat → Int) (n x y : Int) : Int := col (mt_pt n (x % n) (y % n)).toNat
theorem gr_C_mod {col : Nat → Int} {n x y x' y' : Int} (hx : x % n = x' % n) (hy : y % n = y' % n) : gr_C col n x y = gr_C col n x' y' := by
  unfold gr_C
  rw [hx, hy]
theorem gr_em (s k n u v x y q r : Int) : (mt_x s k (x + n * q) (y + n * r) + u) % n = (mt_x s k x y + u) % n ∧ (mt_y s k (x + n * q) (y + n * r) + v) % n = (mt_y s k x y + v) % n := by
  rw [(gr_lin s k _ _ _ _).1, (gr_lin s k _ _ _ _).2, (gr_sc s k _ _ _).1, (gr_sc s k _ _ _).2, Int.add_right_comm, Int.add_mul_emod_self_left, Int.add_right_comm, Int.add_mul_emod_self_left]
  exact ⟨rfl, rfl⟩
theorem gr_emod (s k n u v x y : Int) : (mt_x s k (x % n) (y % n) + u) % n = (mt_x s k x y + u) % n ∧ (mt_y s k (x % n) (y % n) + v) % n = (mt_y s k x y + v) % n := by
  have h := gr_em s k n u v (x % n) (y % n) (x / n) (y / n)
  rw [Int.emod_add_mul_ediv, Int.emod_add_mul_ediv] at h
  exact ⟨h.1.symm, h.2.symm⟩
theorem gr_sym {col : Nat → Int} {s n k u v : Int} (hn : 1 ≤ n) : mt_sym col s n k u v ↔ ∀ x y : Int, gr_C col n x y = gr_C col n (mt_x s k x y + u) (mt_y s k x y + v) := by
  constructor
  · intro h x y
    have hx := mt_mod hn x
    have hy := mt_mod hn y
    have h1 := h (x % n) (y % n) hx.1 hx.2 hy.1 hy.2
    unfold mt_tg at h1
    rw [(gr_emod s k n u v x y).1, (gr_emod s k n u v x y).2] at h1
    exact h1
  · intro h x y h1 h2 h3 h4
    have h5 := h x y
    unfold gr_C at h5
    rw [Int.emod_eq_of_lt h1 h2, Int.emod_eq_of_lt h3 h4] at h5
    exact h5
theorem gr_sym_mod {col : Nat → Int} {s n k u v u' v' : Int} (hn : 1 ≤ n) (hu : u % n = u' % n) (hv : v % n = v' % n) : mt_sym col s n k u v ↔ mt_sym col s n k u' v' := by
  have e : ∀ a b c : Int, b % n = c % n → (a + b) % n = (a + c) % n := fun a b c h => by rw [Int.add_emod, h, ← Int.add_emod]
  rw [gr_sym hn, gr_sym hn]
  constructor
  · intro h x y
    rw [h x y]
    exact gr_C_mod (e _ _ _ hu) (e _ _ _ hv)
  · intro h x y
    rw [h x y]
    exact gr_C_mod (e _ _ _ hu.symm) (e _ _ _ hv.symm)
/-- moves that make a group, and hold the shifts by n -/
def gr_G (s n : Int) (S : Int → Int → Int → Prop) : Prop := S 0 0 0 ∧ (∀ k j u v x y : Int, (0 ≤ k ∧ k < 2 * mt_rd s) → (0 ≤ j ∧ j < 2 * mt_rd s) → S k u v → S j x y → S (mt_lp s k j) (mt_x s k x y + u) (mt_y s k x y + v)) ∧ (∀ k u v : Int, (0 ≤ k ∧ k < 2 * mt_rd s) → S k u v → S (mt_li s k) (-mt_x s (mt_li s k) u v) (-mt_y s (mt_li s k) u v)) ∧ ∀ k u v a b : Int, S k u v → S k (u + n * a) (v + n * b)
theorem gr_sym_G (col : Nat → Int) {s n : Int} (hs : s = 0 ∨ s = 1) (hn : 1 ≤ n) : gr_G s n (mt_sym col s n) := by
  refine ⟨mt_sym_id _ _ _, fun k j u v x y hk hj h1 h2 => ?_, fun k u v hk h => ?_, fun k u v a b h => ?_⟩
  · rw [gr_sym hn] at *
    intro p q
    rw [h2 p q, h1 (mt_x s j p q + x) (mt_y s j p q + y), (gr_lp hs hk hj p q).1, (gr_lp hs hk hj p q).2, (gr_lin s k _ _ _ _).1, (gr_lin s k _ _ _ _).2, Int.add_assoc, Int.add_assoc]
  · rw [gr_sym hn] at *
    intro p q
    have h1 := h (mt_x s (mt_li s k) (p - u) (q - v)) (mt_y s (mt_li s k) (p - u) (q - v))
    rw [(gr_li hs hk _ _).1.1, (gr_li hs hk _ _).1.2, Int.sub_add_cancel, Int.sub_add_cancel, (gr_sub s (mt_li s k) p q u v).1, (gr_sub s (mt_li s k) p q u v).2] at h1
    rw [← h1]
    rfl
  · exact (gr_sym_mod hn (by rw [Int.add_mul_emod_self_left]) (by rw [Int.add_mul_emod_self_left])).mp h
