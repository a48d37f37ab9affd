/-! what the class holds, and the group -/
theorem gr_md (x a : Int) : x + -(x / a * a) = x % a := by
  have := Int.emod_add_mul_ediv x a
  rw [Int.mul_comm] at this
  omega
theorem gr_cg {a b : Nat → Int} {s n k u v : Int} (hn : 1 ≤ n ∧ n ≤ 12) (h : ∀ p : Nat, (p : Int) < n * n → a p = b p) : mt_sym a s n k u v ↔ mt_sym b s n k u v := by
  have e : ∀ x y : Int, 0 ≤ x → x < n → 0 ≤ y → y < n → a (mt_pt n x y).toNat = b (mt_pt n x y).toNat ∧ a (mt_tg s n k u v x y).toNat = b (mt_tg s n k u v x y).toNat := by
    intro x y h1 h2 h3 h4
    have p1 := mt_pt_bd hn.1 hn.2 ⟨h1, h2⟩ ⟨h3, h4⟩
    have p2 := mt_tg_bd (s := s) (k := k) (u := u) (v := v) (x := x) (y := y) hn.1 hn.2
    exact ⟨h _ (by omega), h _ (by omega)⟩
  constructor
  · intro hh x y h1 h2 h3 h4
    rw [← (e x y h1 h2 h3 h4).1, ← (e x y h1 h2 h3 h4).2]
    exact hh x y h1 h2 h3 h4
  · intro hh x y h1 h2 h3 h4
    rw [(e x y h1 h2 h3 h4).1, (e x y h1 h2 h3 h4).2]
    exact hh x y h1 h2 h3 h4
section
variable {s n : Int} {S : Int → Int → Int → Prop}
theorem gr_red (hs : s = 0 ∨ s = 1) (hG : gr_G s n S) {a b c : Int} (hL : gr_L S n a b c) {k u v : Int} (hk : 0 ≤ k ∧ k < 2 * mt_rd s) (h : S k u v) : S k ((u - v / c * b) % a) (v % c) := by
  have h1 := gr_sneg hs hG (gr_smul hs hG hL.2.2.2.2.2.2 (v / c))
  have h2 := gr_sh hs hG hk h1 h
  rw [show v + -(v / c * c) = v % c by have := Int.emod_add_mul_ediv v c; rw [Int.mul_comm] at this; omega, show u + -(v / c * b) = u - v / c * b by omega] at h2
  have h3 := gr_sneg hs hG (gr_smul hs hG ((gr_L_a hL a).mpr (Int.dvd_refl _)) ((u - v / c * b) / a))
  have h4 := gr_sh hs hG hk h3 h2
  rw [Int.mul_zero, Int.neg_zero, Int.add_zero, gr_md] at h4
  exact h4
theorem gr_box (hs : s = 0 ∨ s = 1) (hG : gr_G s n S) {a b c : Int} (hL : gr_L S n a b c) {k u v x y : Int} (hk : 0 ≤ k ∧ k < 2 * mt_rd s) (h : S k u v) (h' : S k x y) (hu : 0 ≤ u ∧ u < a) (hv : 0 ≤ v ∧ v < c) (hx : 0 ≤ x ∧ x < a) (hy : 0 ≤ y ∧ y < c) : u = x ∧ v = y := by
  have h1 := (gr_two hs hG hk h').mp h
  have h2 := (hL.2.2.2.2.2.1 _ _).mp h1
  unfold mt_in at h2
  rw [Int.sub_zero, Int.sub_zero] at h2
  have h3 := gr_dvd_eq hv hy h2.1
  refine ⟨?_, h3⟩
  have h4 := h2.2
  rw [h3, Int.sub_self, Int.zero_ediv, Int.zero_mul, Int.sub_zero] at h4
  exact gr_dvd_eq hu hx h4
/-- what the class holds of a group -/
def gr_D (h : pg_H) (s n : Int) (S : Int → Int → Int → Prop) : Prop := gr_G s n S ∧ gr_L S n (h 10 4) (h 10 5) (h 10 6) ∧ (∀ k u v : Int, (0 ≤ k ∧ k < 2 * mt_rd s) → (sy_P h k u v ↔ S k u v)) ∧ (∀ k : Int, (0 ≤ k ∧ k < 2 * mt_rd s) → (h 11 k.toNat ≠ -1 ↔ ∃ u v, S k u v)) ∧ h 10 7 = pg_cn (fun k => h 11 k ≠ -1) (2 * mt_rd s).toNat
theorem gr_D_of {h : pg_H} (hs : s = 0 ∨ s = 1) (hn : 1 ≤ n) (hD : sy_D h s n) : gr_D h s n (mt_sym (h 7) s n) := by
  obtain ⟨hA, hB, hK, h7⟩ := hD
  have hG := gr_sym_G (h 7) hs hn
  have hL := gr_cls hs hn hA hB
  refine ⟨hG, hL, fun k u v hk => ?_, fun k hk => ?_, h7⟩
  · have hk1 := hK k.toNat (by omega)
    unfold sy_K at hk1
    rw [show ((k.toNat : Nat) : Int) = k by omega] at hk1
    unfold sy_P
    rcases hk1 with ⟨k1, k2⟩ | ⟨k1, k2, k3⟩
    · refine ⟨fun h => absurd k1 h.1, fun h => ?_⟩
      have h1 := gr_red hs hG hL hk h
      exact absurd h1 (k2 _ _ (Int.emod_nonneg _ (by have := hL.1.1; omega)) (Int.emod_lt_of_pos _ (by have := hL.1.1; omega)) (Int.emod_nonneg _ (by have := hL.2.2.1.1; omega)) (Int.emod_lt_of_pos _ (by have := hL.2.2.1.1; omega)))
    · rw [gr_two hs hG hk k3, hL.2.2.2.2.2.1]
      unfold mt_in
      rw [Int.sub_zero, Int.sub_zero]
      exact ⟨fun h => h.2, fun h => ⟨by omega, h⟩⟩
  · have hk1 := hK k.toNat (by omega)
    unfold sy_K at hk1
    rw [show ((k.toNat : Nat) : Int) = k by omega] at hk1
    rcases hk1 with ⟨k1, k2⟩ | ⟨k1, k2, k3⟩
    · refine ⟨fun h => absurd k1 h, ?_⟩
      rintro ⟨u, v, h⟩
      have h1 := gr_red hs hG hL hk h
      exact absurd h1 (k2 _ _ (Int.emod_nonneg _ (by have := hL.1.1; omega)) (Int.emod_lt_of_pos _ (by have := hL.1.1; omega)) (Int.emod_nonneg _ (by have := hL.2.2.1.1; omega)) (Int.emod_lt_of_pos _ (by have := hL.2.2.1.1; omega)))
    · exact ⟨fun _ => ⟨_, _, k3⟩, fun _ => by omega⟩
theorem gr_D_cg {h : pg_H} {S' : Int → Int → Int → Prop} (hD : gr_D h s n S) (he : ∀ k u v, S k u v ↔ S' k u v) : gr_D h s n S' := by
  have e : S = S' := by
    funext k u v
    exact propext (he k u v)
  rw [← e]
  exact hD
/-- counting what the shifts keep, over all and over the cell -/
theorem gr_fold2 {a b c : Int} (hL : gr_L S n a b c) {Q : Int → Int → Prop} (hQ : ∀ u v x y, S 0 x y → (Q (u + x) (v + y) ↔ Q u v)) : pg_cn (fun t => Q ((t : Int) / n) ((t : Int) % n)) (n * n).toNat = n * n / (a * c) * pg_cn (fun m => Q ((m : Int) / c) ((m : Int) % c)) (a * c).toNat := by
  obtain ⟨ha, hb, hc, hna, hnc, -, hS⟩ := id hL
  obtain ⟨A, hA⟩ := Int.dvd_of_emod_eq_zero hna
  obtain ⟨C, hC⟩ := Int.dvd_of_emod_eq_zero hnc
  have hA0 : 0 < A := by
    rcases (show 0 < A ∨ A ≤ 0 by omega) with h | h
    · exact h
    · have := Int.mul_nonpos_of_nonneg_of_nonpos (show 0 ≤ a by omega) h; omega
  have hC0 : 0 < C := by
    rcases (show 0 < C ∨ C ≤ 0 by omega) with h | h
    · exact h
    · have := Int.mul_nonpos_of_nonneg_of_nonpos (show 0 ≤ c by omega) h; omega
  obtain ⟨a', rfl⟩ : ∃ a' : Nat, a = a' := ⟨a.toNat, by omega⟩
  obtain ⟨c', rfl⟩ : ∃ c' : Nat, c = c' := ⟨c.toNat, by omega⟩
  obtain ⟨A', rfl⟩ : ∃ A' : Nat, A = A' := ⟨A.toNat, by omega⟩
  obtain ⟨C', rfl⟩ : ∃ C' : Nat, C = C' := ⟨C.toNat, by omega⟩
  obtain ⟨N, rfl⟩ : ∃ N : Nat, n = N := ⟨n.toNat, by omega⟩
  have hA1 : N = A' * a' := by rw [Nat.mul_comm]; exact Int.ofNat.inj (by rw [← Int.natCast_mul] at hA; exact hA)
  have hC1 : N = C' * c' := by rw [Nat.mul_comm]; exact Int.ofNat.inj (by rw [← Int.natCast_mul] at hC; exact hC)
  have hf := gr_fold (N := N) (a := a') (c := c') (A := A') (C := C') (b := b) (by omega) (by omega) hA1 hC1 (Q := Q) (fun p q => by
    have := hQ p q (a' : Int) 0 ((gr_L_a hL _).mpr (Int.dvd_refl _))
    rwa [Int.add_zero] at this) (fun p q => hQ p q b c' hS)
  have e1 : pg_cn (fun t : Nat => Q ((t : Int) / (N : Int)) ((t : Int) % (N : Int))) (N * N) = pg_cn (fun i => Q ((i % N : Nat) : Int) ((i / N : Nat) : Int)) (N * N) := by
    rw [← pg_cn_swap (fun x y => Q (x : Int) (y : Int)) N N]
    exact pg_cn_iff (fun m _ => by rw [Int.natCast_ediv, Int.natCast_emod])
  have e2 : pg_cn (fun t : Nat => Q ((t : Int) / (c' : Int)) ((t : Int) % (c' : Int))) (a' * c') = pg_cn (fun i => Q ((i % a' : Nat) : Int) ((i / a' : Nat) : Int)) (c' * a') := by
    rw [← pg_cn_swap (fun x y => Q (x : Int) (y : Int)) a' c']
    exact pg_cn_iff (fun m _ => by rw [Int.natCast_ediv, Int.natCast_emod])
  rw [show ((N : Int) * (N : Int)).toNat = N * N by rw [← Int.natCast_mul]; rfl, show ((a' : Int) * (c' : Int)).toNat = a' * c' by rw [← Int.natCast_mul]; rfl, e1, e2, hf]
  have e3 : (N : Int) * N / ((a' : Int) * c') = (C' : Int) * A' := by
    rw [show (N : Int) * N = ((C' : Int) * A') * ((a' : Int) * c') by rw [← Int.natCast_mul, ← Int.natCast_mul, ← Int.natCast_mul, ← Int.natCast_mul]; congr 1; rw [show N * N = (A' * a') * (C' * c') by rw [← hA1, ← hC1]]; grind]
    exact Int.mul_ediv_cancel _ (by have : (0 : Int) < (a' : Int) * c' := Int.mul_pos (by omega) (by omega); omega)
  rw [e3, Int.mul_assoc]
end
