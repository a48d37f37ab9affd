/-! shifts -/
theorem gr_min {P : Nat → Prop} {m : Nat} (h : P m) : ∃ z, z ≤ m ∧ P z ∧ ∀ j, j < z → ¬ P j := by
  induction m using Nat.strongRecOn with
  | ind m ih =>
    by_cases hc : ∃ j, j < m ∧ P j
    · obtain ⟨j, h1, h2⟩ := hc
      obtain ⟨z, a, b, c⟩ := ih j h1 h2
      exact ⟨z, by omega, b, c⟩
    · exact ⟨m, Nat.le_refl _, h, fun j h1 h2 => hc ⟨j, h1, h2⟩⟩
/-- a set of whole numbers closed under differences -/
def gr_H (H : Int → Prop) : Prop := H 0 ∧ ∀ u v, H u → H v → H (u - v)
theorem gr_H_neg {H : Int → Prop} (hH : gr_H H) {u : Int} (h : H u) : H (-u) := by
  have := hH.2 0 u hH.1 h
  rwa [Int.zero_sub] at this
theorem gr_H_add {H : Int → Prop} (hH : gr_H H) {u v : Int} (h : H u) (h' : H v) : H (u + v) := by
  have := hH.2 u (-v) h (gr_H_neg hH h')
  rwa [Int.sub_neg] at this
theorem gr_H_mul {H : Int → Prop} (hH : gr_H H) {u : Int} (h : H u) (z : Int) : H (z * u) := by
  have hN : ∀ m : Nat, H ((m : Int) * u) := by
    intro m
    induction m with
    | zero => rw [show ((0 : Nat) : Int) * u = 0 from Int.zero_mul u]; exact hH.1
    | succ m ih =>
      rw [show ((m + 1 : Nat) : Int) * u = (m : Int) * u + u by rw [Int.natCast_add, Int.add_mul]; simp]
      exact gr_H_add hH ih h
  rcases (show 0 ≤ z ∨ 0 ≤ -z by omega) with h1 | h1
  · have := hN z.toNat
    rwa [Int.toNat_of_nonneg h1] at this
  · have := gr_H_neg hH (hN (-z).toNat)
    rwa [Int.toNat_of_nonneg h1, Int.neg_mul, Int.neg_neg] at this
theorem gr_H_dvd {H : Int → Prop} (hH : gr_H H) {z : Int} (hz : 1 ≤ z) (h1 : H z) (h2 : ∀ j : Int, 1 ≤ j → j < z → ¬ H j) (u : Int) : H u ↔ z ∣ u := by
  constructor
  · intro h
    have h3 := hH.2 u (u / z * z) h (gr_H_mul hH h1 _)
    have h4 : u - u / z * z = u % z := by have := Int.emod_add_mul_ediv u z; rw [Int.mul_comm] at this; omega
    rw [h4] at h3
    have h5 := mt_mod hz u
    rcases (show u % z = 0 ∨ 1 ≤ u % z by omega) with h6 | h6
    · exact Int.dvd_of_emod_eq_zero h6
    · exact absurd h3 (h2 _ h6 h5.2)
  · rintro ⟨q, rfl⟩
    rw [Int.mul_comm]
    exact gr_H_mul hH h1 q
theorem gr_H_div {H : Int → Prop} (hH : gr_H H) {z n : Int} (hn : H n) (h2 : ∀ j : Int, 1 ≤ j → j < z → n % j = 0 → ¬ H j) : ∀ j : Int, 1 ≤ j → j < z → ¬ H j := by
  intro j hj1 hj2 hj3
  obtain ⟨m, m1, m2, m3⟩ := gr_min (P := fun t : Nat => 1 ≤ t ∧ H (t : Int)) (m := j.toNat) ⟨by omega, by rw [show ((j.toNat : Nat) : Int) = j by omega]; exact hj3⟩
  have h4 := gr_H_dvd hH (z := (m : Int)) (by omega) m2.2 (fun t t1 t2 t3 => m3 t.toNat (by omega) ⟨by omega, by rw [show ((t.toNat : Nat) : Int) = t by omega]; exact t3⟩) n
  have h5 := Int.emod_eq_zero_of_dvd (h4.mp hn)
  exact h2 (m : Int) (by omega) (by omega) h5 m2.2
theorem gr_lp0 {s k : Int} (hs : s = 0 ∨ s = 1) (hk : 0 ≤ k ∧ k < 2 * mt_rd s) : mt_lp s 0 k = k ∧ mt_lp s k 0 = k ∧ mt_li s 0 = 0 := by
  have hr := mt_rd_or hs
  have h0 : (0 : Int) ≤ 0 ∧ (0 : Int) < 2 * mt_rd s := by omega
  refine ⟨?_, ?_, ?_⟩
  · refine ((mt_lp_i hs h0 hk hk).mp ?_).symm
    rw [(mt_x0 s _ _).1, (mt_x0 s _ _).2, (mt_x0 s _ _).1, (mt_x0 s _ _).2]
    exact ⟨rfl, rfl, rfl, rfl⟩
  · refine ((mt_lp_i hs hk h0 hk).mp ?_).symm
    rw [(mt_x0 s 1 0).1, (mt_x0 s 1 0).2, (mt_x0 s 0 1).1, (mt_x0 s 0 1).2]
    exact ⟨rfl, rfl, rfl, rfl⟩
  · unfold mt_li
    rw [if_pos (Or.inr rfl)]
section
variable {s n : Int} {S : Int → Int → Int → Prop}
theorem gr_0k (hs : s = 0 ∨ s = 1) : (0 : Int) ≤ 0 ∧ (0 : Int) < 2 * mt_rd s := by
  have hr := mt_rd_or hs
  omega
/-- a shift before a move -/
theorem gr_sh (hs : s = 0 ∨ s = 1) (hG : gr_G s n S) {k u v x y : Int} (hk : 0 ≤ k ∧ k < 2 * mt_rd s) (h : S 0 x y) (h' : S k u v) : S k (u + x) (v + y) := by
  have h1 := hG.2.1 0 k x y u v (gr_0k hs) hk h h'
  rwa [(gr_lp0 hs hk).1, (mt_x0 s _ _).1, (mt_x0 s _ _).2] at h1
theorem gr_sneg (hs : s = 0 ∨ s = 1) (hG : gr_G s n S) {u v : Int} (h : S 0 u v) : S 0 (-u) (-v) := by
  have h1 := hG.2.2.1 0 u v (gr_0k hs) h
  rwa [(gr_lp0 hs (gr_0k hs)).2.2, (mt_x0 s _ _).1, (mt_x0 s _ _).2] at h1
theorem gr_ssub (hs : s = 0 ∨ s = 1) (hG : gr_G s n S) {u v x y : Int} (h : S 0 u v) (h' : S 0 x y) : S 0 (u - x) (v - y) := gr_sh hs hG (gr_0k hs) (gr_sneg hs hG h') h
/-- two moves of one k differ by a shift -/
theorem gr_two (hs : s = 0 ∨ s = 1) (hG : gr_G s n S) {k u v x y : Int} (hk : 0 ≤ k ∧ k < 2 * mt_rd s) (h : S k x y) : S k u v ↔ S 0 (u - x) (v - y) := by
  constructor
  · intro h'
    have h1 := hG.2.2.1 k x y hk h
    have h2 := hG.2.1 k (mt_li s k) u v _ _ hk (mt_li_bd hs hk) h' h1
    rw [(gr_lib hs hk).2.2, (gr_neg s k _ _).1, (gr_neg s k _ _).2, (gr_li hs hk x y).1.1, (gr_li hs hk x y).1.2, show -x + u = u - x by omega, show -y + v = v - y by omega] at h2
    exact h2
  · intro h'
    have h1 := gr_sh hs hG hk h' h
    rwa [show x + (u - x) = u by omega, show y + (v - y) = v by omega] at h1
theorem gr_per0 (hG : gr_G s n S) (a b : Int) : S 0 (n * a) (n * b) := by
  have := hG.2.2.2 0 0 0 a b hG.1
  rwa [Int.zero_add, Int.zero_add] at this
theorem gr_Ha (hs : s = 0 ∨ s = 1) (hG : gr_G s n S) : gr_H (fun u => S 0 u 0) := ⟨hG.1, fun u v h1 h2 => by have := gr_ssub hs hG h1 h2; rwa [Int.sub_zero] at this⟩
theorem gr_Hc (hs : s = 0 ∨ s = 1) (hG : gr_G s n S) : gr_H (fun v => ∃ b, S 0 b v) := ⟨⟨0, hG.1⟩, fun u v ⟨b, h1⟩ ⟨c, h2⟩ => ⟨b - c, gr_ssub hs hG h1 h2⟩⟩
/-- all shifts are sums of (a, 0), (b, c) -/
def gr_L (S : Int → Int → Int → Prop) (n a b c : Int) : Prop := (1 ≤ a ∧ a ≤ n) ∧ (0 ≤ b ∧ b < a) ∧ (1 ≤ c ∧ c ≤ n) ∧ n % a = 0 ∧ n % c = 0 ∧ (∀ u v : Int, S 0 u v ↔ mt_in a b c 0 0 u v) ∧ S 0 b c
theorem gr_smul (hs : s = 0 ∨ s = 1) (hG : gr_G s n S) {u v : Int} (h : S 0 u v) (z : Int) : S 0 (z * u) (z * v) := by
  have hN : ∀ m : Nat, S 0 ((m : Int) * u) ((m : Int) * v) := by
    intro m
    induction m with
    | zero => rw [show ((0 : Nat) : Int) * u = 0 from Int.zero_mul u, show ((0 : Nat) : Int) * v = 0 from Int.zero_mul v]; exact hG.1
    | succ m ih =>
      have h1 := gr_sh hs hG (gr_0k hs) h ih
      rwa [show ((m + 1 : Nat) : Int) * u = (m : Int) * u + u by rw [Int.natCast_add, Int.add_mul]; simp, show ((m + 1 : Nat) : Int) * v = (m : Int) * v + v by rw [Int.natCast_add, Int.add_mul]; simp]
  rcases (show 0 ≤ z ∨ 0 ≤ -z by omega) with h1 | h1
  · have := hN z.toNat
    rwa [Int.toNat_of_nonneg h1] at this
  · have := gr_sneg hs hG (hN (-z).toNat)
    rwa [Int.toNat_of_nonneg h1, Int.neg_mul, Int.neg_neg, Int.neg_mul, Int.neg_neg] at this
theorem gr_L_of (hs : s = 0 ∨ s = 1) (hn : 1 ≤ n) (hG : gr_G s n S) {a b c : Int} (ha : 1 ≤ a ∧ a ≤ n) (ha1 : S 0 a 0) (ha2 : ∀ j : Int, 1 ≤ j → j < a → n % j = 0 → ¬ S 0 j 0) (hb : 0 ≤ b ∧ b < a) (hc : 1 ≤ c ∧ c ≤ n) (hc1 : S 0 b c) (hc2 : ∀ j : Int, 1 ≤ j → j < c → n % j = 0 → ∀ t : Int, 0 ≤ t → t < a → ¬ S 0 t j) : gr_L S n a b c := by
  have hn0 : S 0 n 0 := by have := gr_per0 hG 1 0; rwa [Int.mul_one, Int.mul_zero] at this
  have h0n : S 0 0 n := by have := gr_per0 hG 0 1; rwa [Int.mul_one, Int.mul_zero] at this
  have hA := gr_H_dvd (gr_Ha hs hG) ha.1 ha1 (gr_H_div (gr_Ha hs hG) hn0 ha2)
  have hc3 : ∀ j : Int, 1 ≤ j → j < c → n % j = 0 → ¬ ∃ b, S 0 b j := by
    rintro j j1 j2 j3 ⟨t, ht⟩
    have h1 := gr_ssub hs hG ht (gr_smul hs hG ha1 (t / a))
    rw [Int.mul_zero, Int.sub_zero, show t - t / a * a = t % a by have := Int.emod_add_mul_ediv t a; rw [Int.mul_comm] at this; omega] at h1
    have h2 := mt_mod ha.1 t
    exact hc2 j j1 j2 j3 _ h2.1 h2.2 h1
  have hC := gr_H_dvd (gr_Hc hs hG) hc.1 ⟨b, hc1⟩ (gr_H_div (gr_Hc hs hG) ⟨0, h0n⟩ hc3)
  refine ⟨ha, hb, hc, Int.emod_eq_zero_of_dvd ((hA n).mp hn0), Int.emod_eq_zero_of_dvd ((hC n).mp ⟨0, h0n⟩), fun u v => ?_, hc1⟩
  unfold mt_in
  rw [Int.sub_zero, Int.sub_zero]
  constructor
  · intro h
    have h1 := (hC v).mp ⟨u, h⟩
    refine ⟨h1, (hA _).mp ?_⟩
    have h2 := gr_ssub hs hG h (gr_smul hs hG hc1 (v / c))
    rwa [show v - v / c * c = 0 by rw [Int.ediv_mul_cancel h1]; omega] at h2
  · rintro ⟨h1, h2⟩
    have h3 := gr_sh hs hG (gr_0k hs) (gr_smul hs hG hc1 (v / c)) ((hA _).mpr h2)
    rwa [Int.zero_add, Int.ediv_mul_cancel h1, show u - v / c * b + v / c * b = u by omega] at h3
theorem gr_L_a {a b c : Int} (hL : gr_L S n a b c) (u : Int) : S 0 u 0 ↔ a ∣ u := by
  rw [hL.2.2.2.2.2.1 u 0]
  unfold mt_in
  rw [Int.sub_zero, Int.sub_zero, Int.zero_ediv, Int.zero_mul, Int.sub_zero]
  exact ⟨fun h => h.2, fun h => ⟨Int.dvd_zero _, h⟩⟩
theorem gr_L_c {a b c : Int} (hL : gr_L S n a b c) (v : Int) : (∃ u, S 0 u v) ↔ c ∣ v := by
  constructor
  · rintro ⟨u, h⟩
    have := ((hL.2.2.2.2.2.1 u v).mp h).1
    rwa [Int.sub_zero] at this
  · intro h
    refine ⟨v / c * b, (hL.2.2.2.2.2.1 _ v).mpr ?_⟩
    unfold mt_in
    rw [Int.sub_zero, Int.sub_zero, Int.sub_self]
    exact ⟨h, Int.dvd_zero _⟩
theorem gr_L_b {a b c : Int} (hL : gr_L S n a b c) (u : Int) : S 0 u c ↔ a ∣ (u - b) := by
  rw [hL.2.2.2.2.2.1 u c]
  unfold mt_in
  have hc := hL.2.2.1.1
  rw [Int.sub_zero, Int.sub_zero, Int.ediv_self (by omega), Int.one_mul]
  exact ⟨fun h => h.2, fun h => ⟨Int.dvd_refl _, h⟩⟩
theorem gr_dvd_eq {a x y : Int} (hx : 0 ≤ x ∧ x < a) (hy : 0 ≤ y ∧ y < a) (h : a ∣ (x - y)) : x = y := by
  have h1 := Int.emod_emod_of_dvd
  have h2 : x % a = y % a := Int.emod_eq_emod_iff_emod_sub_eq_zero.mpr (Int.emod_eq_zero_of_dvd h)
  rwa [Int.emod_eq_of_lt hx.1 hx.2, Int.emod_eq_of_lt hy.1 hy.2] at h2
end
/-- what the class holds says all shifts -/
theorem gr_cls {col : Nat → Int} {s n a b c : Int} (hs : s = 0 ∨ s = 1) (hn : 1 ≤ n) (hA : sy_A col s n a) (hB : sy_BC col s n a b c) : gr_L (mt_sym col s n) n a b c := by
  have hG := gr_sym_G col hs hn
  have hn0 : mt_sym col s n 0 n 0 := by have := gr_per0 hG 1 0; rwa [Int.mul_one, Int.mul_zero] at this
  have h0n : mt_sym col s n 0 0 n := by have := gr_per0 hG 0 1; rwa [Int.mul_one, Int.mul_zero] at this
  refine gr_L_of hs hn hG hA.1 ?_ hA.2.2 hB.2.1 hB.1 ?_ hB.2.2.2
  · rcases hA.2.1 with h | h
    · rw [h]; exact hn0
    · exact h.2
  · rcases hB.2.2.1 with h | h
    · rw [h.1, h.2]; exact h0n
    · exact h.2.1
/-- base: both find the same -/
theorem gr_refA {col : Nat → Int} {s n a b c z : Int} (hn : 1 ≤ n) (hL : gr_L (mt_sym col s n) n a b c) (h : ri_A col s n z) : z = a := by
  obtain ⟨h1, h2, h3⟩ := h
  have e : ∀ j : Int, mt_sym col s n 0 (j % n) (0 % n) ↔ a ∣ j := fun j => by rw [gr_sym_mod hn (u' := j) (v' := 0) (Int.emod_emod _ _) (Int.emod_emod _ _)]; exact gr_L_a hL j
  have ha := hL.1
  have h4 := (e z).mp h2
  have h5 := Int.le_of_dvd (by omega) h4
  rcases (show z = a ∨ a < z by omega) with h6 | h6
  · exact h6
  · exact absurd ((e a).mpr (Int.dvd_refl _)) (h3 a ha.1 h6)
theorem gr_refC {col : Nat → Int} {s n a b c z : Int} (hn : 1 ≤ n) (hL : gr_L (mt_sym col s n) n a b c) (h : ri_Cc col s n z) : z = c := by
  obtain ⟨h1, h2, h3⟩ := h
  have e : ∀ j : Int, ri_rx col s n j n.toNat ↔ c ∣ j := by
    intro j
    rw [← gr_L_c hL j]
    constructor
    · rintro ⟨t, _, ht⟩
      exact ⟨t, (gr_sym_mod hn (Int.emod_emod _ _) (Int.emod_emod _ _)).mp ht⟩
    · rintro ⟨t, ht⟩
      have h5 := mt_mod hn t
      refine ⟨(t % n).toNat, by omega, ?_⟩
      rw [show (((t % n).toNat : Nat) : Int) = t % n by omega]
      exact (gr_sym_mod hn (by rw [Int.emod_emod, Int.emod_emod]) (by rw [Int.emod_emod])).mpr ht
  have hc := hL.2.2.1
  have h4 := (e z).mp h2
  have h5 := Int.le_of_dvd (by omega) h4
  rcases (show z = c ∨ c < z by omega) with h6 | h6
  · exact h6
  · exact absurd ((e c).mpr (Int.dvd_refl _)) (h3 c hc.1 h6)
theorem gr_refB {col : Nat → Int} {s n a b c z : Int} (hn : 1 ≤ n) (hL : gr_L (mt_sym col s n) n a b c) (h : ri_Bb col s n c z) : z = b := by
  obtain ⟨h1, h2, h3⟩ := h
  have e : ∀ j : Int, mt_sym col s n 0 (j % n) (c % n) ↔ a ∣ (j - b) := fun j => by rw [gr_sym_mod hn (u' := j) (v' := c) (Int.emod_emod _ _) (Int.emod_emod _ _)]; exact gr_L_b hL j
  have hb := hL.2.1
  have h4 := (e z).mp h2
  rcases (show z < a ∨ a ≤ z by omega) with h6 | h6
  · exact gr_dvd_eq ⟨h1.1, h6⟩ hb h4
  · refine absurd ((e (z - a)).mpr ?_) (h3 (z - a) (by omega) (by omega))
    rw [show z - a - b = z - b - a by omega]
    exact Int.dvd_sub h4 (Int.dvd_refl _)
