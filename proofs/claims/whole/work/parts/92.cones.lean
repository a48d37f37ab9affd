/-! cones, corners, most turns: both the same -/
section
variable {s n : Int} {S : Int → Int → Int → Prop}
theorem gr_fold6 {a b c : Int} (hL : gr_L S n a b c) {Q : Int → Int → Prop} (hQ : ∀ u v x y, S 0 x y → (Q (u + 6 * x) (v + 6 * y) ↔ Q u v)) : pg_cn (fun i => Q ((i : Int) % (6 * n)) ((i : Int) / (6 * n))) (6 * n * (6 * n)).toNat = n * n / (a * c) * pg_cn (fun m => Q ((m : Int) % (6 * a)) ((m : Int) / (6 * a))) (6 * a * (6 * c)).toNat := by
  obtain ⟨ha, hb, hc, hna, hnc, -, hS⟩ := id hL
  obtain ⟨A, hA⟩ := Int.dvd_of_emod_eq_zero hna
  obtain ⟨C, hC⟩ := Int.dvd_of_emod_eq_zero hnc
  have hA0 : 0 < A := by
    rcases (show 0 < A ∨ A ≤ 0 by omega) with h | h
    · exact h
    · have := Int.mul_nonpos_of_nonneg_of_nonpos (show 0 ≤ a by omega) h; omega
  have hC0 : 0 < C := by
    rcases (show 0 < C ∨ C ≤ 0 by omega) with h | h
    · exact h
    · have := Int.mul_nonpos_of_nonneg_of_nonpos (show 0 ≤ c by omega) h; omega
  obtain ⟨a', rfl⟩ : ∃ a' : Nat, a = a' := ⟨a.toNat, by omega⟩
  obtain ⟨c', rfl⟩ : ∃ c' : Nat, c = c' := ⟨c.toNat, by omega⟩
  obtain ⟨A', rfl⟩ : ∃ A' : Nat, A = A' := ⟨A.toNat, by omega⟩
  obtain ⟨C', rfl⟩ : ∃ C' : Nat, C = C' := ⟨C.toNat, by omega⟩
  obtain ⟨N, rfl⟩ : ∃ N : Nat, n = N := ⟨n.toNat, by omega⟩
  have hA1 : N = A' * a' := by rw [Nat.mul_comm]; exact Int.ofNat.inj (by rw [← Int.natCast_mul] at hA; exact hA)
  have hC1 : N = C' * c' := by rw [Nat.mul_comm]; exact Int.ofNat.inj (by rw [← Int.natCast_mul] at hC; exact hC)
  have hf := gr_fold (N := 6 * N) (a := 6 * a') (c := 6 * c') (A := A') (C := C') (b := 6 * b) (by omega) (by omega) (by rw [hA1, Nat.mul_left_comm]) (by rw [hC1, Nat.mul_left_comm]) (Q := Q) (fun p q => by
    have := hQ p q (a' : Int) 0 ((gr_L_a hL _).mpr (Int.dvd_refl _))
    rwa [Int.mul_zero, Int.add_zero] at this) (fun p q => hQ p q b c' hS)
  have e1 : pg_cn (fun i : Nat => Q ((i : Int) % (6 * (N : Int))) ((i : Int) / (6 * (N : Int)))) (6 * N * (6 * N)) = pg_cn (fun i => Q ((i % (6 * N) : Nat) : Int) ((i / (6 * N) : Nat) : Int)) (6 * N * (6 * N)) := pg_cn_iff (fun m _ => by rw [Int.natCast_ediv, Int.natCast_emod]; rfl)
  have e2 : pg_cn (fun i : Nat => Q ((i : Int) % (6 * (a' : Int))) ((i : Int) / (6 * (a' : Int)))) (6 * c' * (6 * a')) = pg_cn (fun i => Q ((i % (6 * a') : Nat) : Int) ((i / (6 * a') : Nat) : Int)) (6 * c' * (6 * a')) := pg_cn_iff (fun m _ => by rw [Int.natCast_ediv, Int.natCast_emod]; rfl)
  rw [show (6 * (N : Int) * (6 * (N : Int))).toNat = 6 * N * (6 * N) by rw [show (6 : Int) * (N : Int) = ((6 * N : Nat) : Int) from rfl, ← Int.natCast_mul]; rfl, show (6 * (a' : Int) * (6 * (c' : Int))).toNat = 6 * c' * (6 * a') by rw [show (6 : Int) * (a' : Int) = ((6 * a' : Nat) : Int) from rfl, show (6 : Int) * (c' : Int) = ((6 * c' : Nat) : Int) from rfl, ← Int.natCast_mul, Nat.mul_comm]; rfl, e1, e2, hf]
  have e3 : (N : Int) * N / ((a' : Int) * c') = (C' : Int) * A' := by
    rw [show (N : Int) * N = ((C' : Int) * A') * ((a' : Int) * c') by rw [← Int.natCast_mul, ← Int.natCast_mul, ← Int.natCast_mul, ← Int.natCast_mul]; congr 1; rw [show N * N = (A' * a') * (C' * c') by rw [← hA1, ← hC1]]; grind]
    exact Int.mul_ediv_cancel _ (by have : (0 : Int) < (a' : Int) * c' := Int.mul_pos (by omega) (by omega); omega)
  rw [e3, Int.mul_assoc]
end
section
variable {h : pg_H} {col : Nat → Int} {s n : Int}
theorem gr_tuR (hs : s = 0 ∨ s = 1) (hn : 1 ≤ n ∧ n ≤ 12) {i j : Nat} (hi : i < (6 * n * (6 * n)).toNat) (hj : j < (6 * n * (6 * n)).toNat) (hR : mt_pR col s n i j) : mt_tu col s n j = mt_tu col s n i ∧ mt_mi col s n j = mt_mi col s n i := by
  have hG := gr_sym_G col hs hn.1
  obtain ⟨m, m1, m2, m3⟩ := hR
  have hk := mt_kof hn.1 (show 0 ≤ (m : Int) ∧ (m : Int) < 2 * mt_rd s * (n * n) by omega)
  have h1 := (gr_pm_iff hn (show (i : Int) < 6 * n * (6 * n) by omega) (m : Int) (j : Int) ⟨by omega, by omega⟩).mp m3
  rw [gr_tu hs hn (show (i : Int) < 6 * n * (6 * n) by omega), gr_mi hs hn (show (i : Int) < 6 * n * (6 * n) by omega), gr_tu hs hn (show (j : Int) < 6 * n * (6 * n) by omega), gr_mi hs hn (show (j : Int) < 6 * n * (6 * n) by omega), ← h1.1, ← h1.2]
  show gr_t _ s _ _ = gr_t _ s _ _ ∧ gr_m _ s _ _ = gr_m _ s _ _
  generalize (i : Int) % (6 * n) = P at *
  generalize (i : Int) / (6 * n) = Q at *
  have h2 := gr_t_eq hs hG (P := P) (Q := Q) hk m2
  have e1 := Int.emod_add_mul_ediv (mt_x s ((m : Int) / (n * n)) P Q + 6 * ((m : Int) / n % n)) (6 * n)
  have e2 := Int.emod_add_mul_ediv (mt_y s ((m : Int) / (n * n)) P Q + 6 * ((m : Int) % n)) (6 * n)
  generalize (mt_x s ((m : Int) / (n * n)) P Q + 6 * ((m : Int) / n % n)) / (6 * n) = a at *
  generalize (mt_y s ((m : Int) / (n * n)) P Q + 6 * ((m : Int) % n)) / (6 * n) = b at *
  have h3 := gr_t_sh hs hG (P := (mt_x s ((m : Int) / (n * n)) P Q + 6 * ((m : Int) / n % n)) % (6 * n)) (Q := (mt_y s ((m : Int) / (n * n)) P Q + 6 * ((m : Int) % n)) % (6 * n)) (gr_per0 hG a b)
  rw [← Int.mul_assoc, ← Int.mul_assoc, e1, e2] at h3
  rw [← h3.1, ← h3.2]
  exact h2
theorem gr_sgt (hD : gr_D h s n (mt_sym col s n)) (hs : s = 0 ∨ s = 1) (hW : sg_W h) (m : Nat) : sg_t h s m = gr_t (mt_sym col s n) s ((m : Int) % (6 * h 10 4)) ((m : Int) / (6 * h 10 4)) ∧ sg_m h s m = gr_m (mt_sym col s n) s ((m : Int) % (6 * h 10 4)) ((m : Int) / (6 * h 10 4)) := by
  have hr := mt_rd_or hs
  unfold sg_t sg_m gr_t gr_m
  rw [hW.1]
  exact ⟨pg_cn_iff (fun k hk => gr_F_fx hD (by omega)), pg_cn_iff (fun k hk => gr_F_fx hD (by omega))⟩
/-- how many linear parts: one at least -/
theorem gr_l (hs : s = 0 ∨ s = 1) (hD : gr_D h s n (mt_sym col s n)) : 1 ≤ h 10 7 ∧ sg_l h = h 10 7 := by
  have hr := mt_rd_or hs
  have h1 : 0 < h 10 7 := by
    rw [hD.2.2.2.2]
    exact pg_cn_pos.mpr ⟨0, by omega, (hD.2.2.2.1 0 (gr_0k hs)).mpr ⟨0, 0, hD.1.1⟩⟩
  refine ⟨by omega, ?_⟩
  unfold sg_l
  split <;> omega
theorem gr_cc0 (hs : s = 0 ∨ s = 1) (hn : 1 ≤ n ∧ n ≤ 12) (hD : gr_D h s n (mt_sym col s n)) (hW : sg_W h) (F : Int → Int → Prop) (c : Int) (hc : ∀ t m : Int, F t m → (m = 0 ∨ m = t) → t + m = c) : pg_cn (fun j => F (sg_t h s j) (sg_m h s j)) (h 15 5 * h 15 6).toNat * c = pg_cn (fun i => mt_rp col s n i ∧ F (mt_tu col s n i) (mt_mi col s n i)) (6 * n * (6 * n)).toNat * h 10 7 := by
  have hG := hD.1
  have h1 := gr_osn (col := col) hs hn (F := fun i => F (mt_tu col s n i) (mt_mi col s n i)) (c := c) (fun i j hi hj hR hF => by
    have := gr_tuR hs hn hi hj hR
    show F (mt_tu col s n j) (mt_mi col s n j)
    rw [this.1, this.2]
    exact hF) (fun i hi hF => hc _ _ hF (by
      have e1 := gr_tu (col := col) hs hn (show (i : Int) < 6 * n * (6 * n) by omega)
      have e2 := gr_mi (col := col) hs hn (show (i : Int) < 6 * n * (6 * n) by omega)
      have e3 : 0 ≤ mt_mi col s n i := (pg_cn_bd _ _).1
      rcases (show mt_mi col s n i = 0 ∨ 0 < mt_mi col s n i by omega) with h0 | h0
      · exact Or.inl h0
      · right
        rw [e1, e2]
        rw [e2] at h0
        exact gr_mt hs hG h0))
  have h2 : pg_cn (fun i => F (mt_tu col s n i) (mt_mi col s n i)) (6 * n * (6 * n)).toNat = pg_cn (fun i : Nat => F (gr_t (mt_sym col s n) s ((i : Int) % (6 * n)) ((i : Int) / (6 * n))) (gr_m (mt_sym col s n) s ((i : Int) % (6 * n)) ((i : Int) / (6 * n)))) (6 * n * (6 * n)).toNat := pg_cn_iff (fun i hi => by
    rw [gr_tu (col := col) hs hn (show (i : Int) < 6 * n * (6 * n) by omega), gr_mi (col := col) hs hn (show (i : Int) < 6 * n * (6 * n) by omega)]
    rfl)
  have h3 := gr_fold6 hD.2.1 (Q := fun P Q => F (gr_t (mt_sym col s n) s P Q) (gr_m (mt_sym col s n) s P Q)) (fun u v x y hxy => by
    have := gr_t_sh hs hG (P := u) (Q := v) hxy
    rw [this.1, this.2])
  have h4 : pg_cn (fun j => F (sg_t h s j) (sg_m h s j)) (h 15 5 * h 15 6).toNat = pg_cn (fun m : Nat => F (gr_t (mt_sym col s n) s ((m : Int) % (6 * h 10 4)) ((m : Int) / (6 * h 10 4))) (gr_m (mt_sym col s n) s ((m : Int) % (6 * h 10 4)) ((m : Int) / (6 * h 10 4)))) (6 * h 10 4 * (6 * h 10 6)).toNat := by
    rw [hW.1, hW.2]
    exact pg_cn_iff (fun j _ => by rw [(gr_sgt hD hs hW j).1, (gr_sgt hD hs hW j).2])
  rw [h2, h3, ← h4, gr_many hs hn.1 hD] at h1
  have hsh := gr_sh_pos hD.2.1
  have e5 : sy_sh h n = n * n / (h 10 4 * h 10 6) := rfl
  rw [e5] at h1
  generalize n * n / (h 10 4 * h 10 6) = z at *
  generalize pg_cn (fun j => F (sg_t h s j) (sg_m h s j)) (h 15 5 * h 15 6).toNat = x at *
  generalize pg_cn (fun i => mt_rp col s n i ∧ F (mt_tu col s n i) (mt_mi col s n i)) (6 * n * (6 * n)).toNat = y at *
  refine Int.eq_of_mul_eq_mul_left (show z ≠ 0 by omega) ?_
  rw [← Int.mul_assoc, h1]
  grind
theorem gr_cones (hs : s = 0 ∨ s = 1) (hn : 1 ≤ n ∧ n ≤ 12) (hD : gr_D h s n (mt_sym col s n)) (hS : sg_D h s) {r : Nat} (hr : r < 7) : h 16 r = mt_cc col s n r 0 ∧ h 17 r = mt_cc col s n r 1 := by
  obtain ⟨hW, -, h1, -, -⟩ := hS
  obtain ⟨c1, c2⟩ := h1 r hr
  obtain ⟨l1, l2⟩ := gr_l hs hD
  have mp : ∀ i, 0 ≤ mt_mi col s n i := fun i => (pg_cn_bd _ _).1
  have a := gr_cc0 hs hn hD hW (fun t m => t = r ∧ m = 0) r (fun t m hF _ => by omega)
  have b := gr_cc0 hs hn hD hW (fun t m => t = r ∧ m ≠ 0) (2 * r) (fun t m hF ho => by omega)
  have e1 : pg_cn (fun i => mt_rp col s n i ∧ (mt_tu col s n i = r ∧ mt_mi col s n i = 0)) (6 * n * (6 * n)).toNat = mt_cc col s n r 0 := pg_cn_iff (fun i _ => by
    have := mp i
    constructor
    · rintro ⟨q1, q2, q3⟩; exact ⟨q1, q2, by omega⟩
    · rintro ⟨q1, q2, q3⟩; exact ⟨q1, q2, by omega⟩)
  have e2 : pg_cn (fun i => mt_rp col s n i ∧ (mt_tu col s n i = r ∧ mt_mi col s n i ≠ 0)) (6 * n * (6 * n)).toNat = mt_cc col s n r 1 := pg_cn_iff (fun i _ => by
    have := mp i
    constructor
    · rintro ⟨q1, q2, q3⟩; exact ⟨q1, q2, by omega⟩
    · rintro ⟨q1, q2, q3⟩; exact ⟨q1, q2, by omega⟩)
  rw [e1] at a
  rw [e2] at b
  have f1 : sg_cn h s r (h 15 5 * h 15 6).toNat * r = mt_cc col s n r 0 * h 10 7 := a
  have f2 : sg_co h s r (h 15 5 * h 15 6).toNat * (2 * r) = mt_cc col s n r 1 * h 10 7 := b
  rw [c1, c2, l2, f1, Int.mul_assoc, f2, Int.mul_ediv_cancel _ (by omega), Int.mul_ediv_cancel _ (by omega)]
  exact ⟨rfl, rfl⟩
/-- every place has a place of the cell beside it, by a shift -/
theorem gr_cell (hs : s = 0 ∨ s = 1) (hD : gr_D h s n (mt_sym col s n)) (P Q : Int) : ∃ m : Nat, m < (6 * h 10 4 * (6 * h 10 6)).toNat ∧ ∃ x y : Int, mt_sym col s n 0 x y ∧ P = (m : Int) % (6 * h 10 4) + 6 * x ∧ Q = (m : Int) / (6 * h 10 4) + 6 * y := by
  obtain ⟨hG, hL, -⟩ := hD
  obtain ⟨ha, hb, hc, -, -, -, hS⟩ := id hL
  generalize h 10 4 = a at *
  generalize h 10 5 = b at *
  generalize h 10 6 = c at *
  have e1 := Int.emod_add_mul_ediv Q (6 * c)
  have q1 := mt_mod (n := 6 * c) (by omega) Q
  generalize Q / (6 * c) = t at *
  generalize Q % (6 * c) = V at *
  have e2 := Int.emod_add_mul_ediv (P - 6 * (t * b)) (6 * a)
  have q2 := mt_mod (n := 6 * a) (by omega) (P - 6 * (t * b))
  generalize (P - 6 * (t * b)) / (6 * a) = r at *
  generalize (P - 6 * (t * b)) % (6 * a) = U at *
  have hd := mt_dm (u := V) (n := 6 * a) (by omega) q2
  have hm : 0 ≤ V * (6 * a) := Int.mul_nonneg q1.1 (by omega)
  have hm2 := Int.mul_le_mul_of_nonneg_right (show V ≤ 6 * c - 1 by omega) (show 0 ≤ 6 * a by omega)
  rw [Int.sub_mul, Int.one_mul, Int.mul_comm (6 * c)] at hm2
  have hsh := gr_sh hs hG (gr_0k hs) (gr_smul hs hG ((gr_L_a hL a).mpr (Int.dvd_refl _)) r) (gr_smul hs hG hS t)
  rw [Int.mul_zero, Int.add_zero] at hsh
  refine ⟨(V * (6 * a) + U).toNat, by omega, t * b + r * a, t * c, hsh, ?_, ?_⟩
  · rw [show (((V * (6 * a) + U).toNat : Nat) : Int) = V * (6 * a) + U by omega, hd.2]
    rw [Int.mul_assoc, Int.mul_comm a r] at e2
    omega
  · rw [show (((V * (6 * a) + U).toNat : Nat) : Int) = V * (6 * a) + U by omega, hd.1]
    rw [Int.mul_assoc, Int.mul_comm c t] at e1
    omega
/-- most turns -/
theorem gr_mxx {f : Nat → Int} {g : Nat → Int} {e : Int} (h0 : g 0 = e) (hs : ∀ m, g (m + 1) = if g m < f m then f m else g m) (M : Nat) : (∀ m, m < M → f m ≤ g M) ∧ e ≤ g M ∧ (g M = e ∨ ∃ m, m < M ∧ g M = f m) := by
  induction M with
  | zero => exact ⟨fun m hm => by omega, by omega, Or.inl h0⟩
  | succ M ih =>
    rw [hs M]
    obtain ⟨i1, i2, i3⟩ := ih
    split
    · refine ⟨fun m hm => ?_, by omega, Or.inr ⟨M, by omega, rfl⟩⟩
      rcases (show m < M ∨ m = M by omega) with h | rfl
      · have := i1 m h; omega
      · exact Int.le_refl _
    · refine ⟨fun m hm => ?_, i2, ?_⟩
      · rcases (show m < M ∨ m = M by omega) with h | rfl
        · exact i1 m h
        · omega
      · rcases i3 with h | ⟨m, h1, h2⟩
        · exact Or.inl h
        · exact Or.inr ⟨m, by omega, h2⟩
theorem gr_t1 {S : Int → Int → Int → Prop} (hs : s = 0 ∨ s = 1) (hG : gr_G s n S) (P Q : Int) : 1 ≤ gr_t S s P Q := by
  have hr := mt_rd_or hs
  have : 0 < gr_t S s P Q := pg_cn_pos.mpr ⟨0, by omega, 0, 0, hG.1, by rw [show ((0 : Nat) : Int) = 0 from rfl, (mt_x0 s _ _).1]; omega, by rw [show ((0 : Nat) : Int) = 0 from rfl, (mt_x0 s _ _).2]; omega⟩
  omega
/-- places of the torus: those of the plane -/
theorem gr_torus (hn : 1 ≤ n ∧ n ≤ 12) (P Q : Int) : ∃ i : Nat, i < (6 * n * (6 * n)).toNat ∧ (i : Int) % (6 * n) = P % (6 * n) ∧ (i : Int) / (6 * n) = Q % (6 * n) := by
  have q1 := mt_mod (n := 6 * n) (by omega) P
  have q2 := mt_mod (n := 6 * n) (by omega) Q
  have hd := mt_dm (u := Q % (6 * n)) (n := 6 * n) (by omega) q1
  have hm : 0 ≤ Q % (6 * n) * (6 * n) := Int.mul_nonneg q2.1 (by omega)
  have hm2 := Int.mul_le_mul_of_nonneg_right (show Q % (6 * n) ≤ 6 * n - 1 by omega) (show 0 ≤ 6 * n by omega)
  rw [Int.sub_mul, Int.one_mul] at hm2
  refine ⟨(Q % (6 * n) * (6 * n) + P % (6 * n)).toNat, by omega, ?_, ?_⟩
  · rw [show (((Q % (6 * n) * (6 * n) + P % (6 * n)).toNat : Nat) : Int) = Q % (6 * n) * (6 * n) + P % (6 * n) by omega, hd.2]
  · rw [show (((Q % (6 * n) * (6 * n) + P % (6 * n)).toNat : Nat) : Int) = Q % (6 * n) * (6 * n) + P % (6 * n) by omega, hd.1]
theorem gr_t_mod {S : Int → Int → Int → Prop} (hs : s = 0 ∨ s = 1) (hG : gr_G s n S) (P Q : Int) : gr_t S s (P % (6 * n)) (Q % (6 * n)) = gr_t S s P Q ∧ gr_m S s (P % (6 * n)) (Q % (6 * n)) = gr_m S s P Q := by
  have e1 := Int.emod_add_mul_ediv P (6 * n)
  have e2 := Int.emod_add_mul_ediv Q (6 * n)
  have h3 := gr_t_sh hs hG (P := P % (6 * n)) (Q := Q % (6 * n)) (gr_per0 hG (P / (6 * n)) (Q / (6 * n)))
  rw [← Int.mul_assoc, ← Int.mul_assoc, e1, e2] at h3
  exact ⟨h3.1.symm, h3.2.symm⟩
theorem gr_most (hs : s = 0 ∨ s = 1) (hn : 1 ≤ n ∧ n ≤ 12) (hD : gr_D h s n (mt_sym col s n)) (hS : sg_D h s) : h 15 10 = mt_mx col s n (6 * n * (6 * n)).toNat := by
  obtain ⟨hW, ⟨-, h2⟩, -⟩ := hS
  have hG := hD.1
  have h66 := mt_66 hn.1 hn.2
  rw [h2, hW.1, hW.2]
  obtain ⟨a1, a2, a3⟩ := gr_mxx (f := sg_t h s) (g := sg_mx h s) (e := 1) rfl (fun m => rfl) (6 * h 10 4 * (6 * h 10 6)).toNat
  obtain ⟨b1, b2, b3⟩ := gr_mxx (f := mt_tu col s n) (g := mt_mx col s n) (e := 0) rfl (fun m => rfl) (6 * n * (6 * n)).toNat
  have hf : ∀ i : Nat, i < (6 * n * (6 * n)).toNat → mt_tu col s n i = gr_t (mt_sym col s n) s ((i : Int) % (6 * n)) ((i : Int) / (6 * n)) := fun i hi => gr_tu hs hn (by omega)
  refine Int.le_antisymm ?_ ?_
  · rcases a3 with h0 | ⟨m, m1, m2⟩
    · rw [h0]
      have h5 := b1 0 (by omega)
      rw [hf 0 (by omega)] at h5
      have := gr_t1 hs hG (((0 : Nat) : Int) % (6 * n)) (((0 : Nat) : Int) / (6 * n))
      omega
    · rw [m2, (gr_sgt hD hs hW m).1]
      obtain ⟨i, i1, i2, i3⟩ := gr_torus hn ((m : Int) % (6 * h 10 4)) ((m : Int) / (6 * h 10 4))
      rw [← (gr_t_mod hs hG _ _).1, ← i2, ← i3, ← hf i i1]
      exact b1 i i1
  · rcases b3 with h0 | ⟨i, i1, i2⟩
    · omega
    · rw [i2, hf i i1]
      obtain ⟨m, m1, x, y, m2, m3, m4⟩ := gr_cell hs hD ((i : Int) % (6 * n)) ((i : Int) / (6 * n))
      rw [m3, m4, (gr_t_sh hs hG m2).1, ← (gr_sgt hD hs hW m).1]
      exact a1 m m1
end
