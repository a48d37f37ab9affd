/-! points: orbits -/
section
variable {col : Nat → Int} {s n : Int}
theorem gr_sm_pr (hs : s = 0 ∨ s = 1) (hn : 1 ≤ n ∧ n ≤ 12) {a b : Nat} (ha : a < (2 * mt_rd s * (n * n)).toNat) (hb : b < (2 * mt_rd s * (n * n)).toNat) (h1 : mt_sm col s n a) (h2 : mt_sm col s n b) : mt_sm col s n (mt_pr s n a b).toNat ∧ (mt_pr s n a b).toNat < (2 * mt_rd s * (n * n)).toNat ∧ (((mt_pr s n a b).toNat : Nat) : Int) = mt_pr s n a b := by
  have ha1 : 0 ≤ (a : Int) ∧ (a : Int) < 2 * mt_rd s * (n * n) := by omega
  have hb1 : 0 ≤ (b : Int) ∧ (b : Int) < 2 * mt_rd s * (n * n) := by omega
  have hp := mt_pr_bd hs hn ha1 hb1
  have e : (((mt_pr s n a b).toNat : Nat) : Int) = mt_pr s n a b := by omega
  refine ⟨?_, by omega, e⟩
  unfold mt_sm
  rw [e, (gr_pr_k hn _ _).1, (gr_pr_k hn _ _).2.1, (gr_pr_k hn _ _).2.2]
  have h3 := (gr_sym_G col hs hn.1).2.1 _ _ _ _ _ _ (mt_kof hn.1 ha1) (mt_kof hn.1 hb1) h1 h2
  exact (gr_sym_mod hn.1 (Int.emod_emod _ _) (Int.emod_emod _ _)).mpr h3
theorem gr_sm_iv (hs : s = 0 ∨ s = 1) (hn : 1 ≤ n ∧ n ≤ 12) {a : Nat} (ha : a < (2 * mt_rd s * (n * n)).toNat) (h1 : mt_sm col s n a) : mt_sm col s n (mt_iv s n a).toNat ∧ (mt_iv s n a).toNat < (2 * mt_rd s * (n * n)).toNat ∧ (((mt_iv s n a).toNat : Nat) : Int) = mt_iv s n a := by
  have ha1 : 0 ≤ (a : Int) ∧ (a : Int) < 2 * mt_rd s * (n * n) := by omega
  have hp := gr_iv_bd hs hn ha1
  have e : (((mt_iv s n a).toNat : Nat) : Int) = mt_iv s n a := by omega
  refine ⟨?_, by omega, e⟩
  unfold mt_sm
  rw [e, (gr_iv_k hn _).1, (gr_iv_k hn _).2.1, (gr_iv_k hn _).2.2]
  have h3 := (gr_sym_G col hs hn.1).2.2.1 _ _ _ (mt_kof hn.1 ha1) h1
  exact (gr_sym_mod hn.1 (Int.emod_emod _ _) (Int.emod_emod _ _)).mpr h3
/-- one move behind another, on a torus of side N -/
theorem gr_tg2 {N : Int} (hN : 1 ≤ N) (k u v j x y p : Int) : mt_tg s N k u v ((mt_tg s N j x y (p % N) (p / N)) % N) ((mt_tg s N j x y (p % N) (p / N)) / N) = mt_pt N ((mt_x s k (mt_x s j (p % N) (p / N) + x) (mt_y s j (p % N) (p / N) + y) + u) % N) ((mt_y s k (mt_x s j (p % N) (p / N) + x) (mt_y s j (p % N) (p / N) + y) + v) % N) := by
  have h1 := mt_mod hN (mt_x s j (p % N) (p / N) + x)
  have h2 := mt_dm (u := (mt_y s j (p % N) (p / N) + y) % N) hN h1
  have e1 : mt_tg s N j x y (p % N) (p / N) = (mt_y s j (p % N) (p / N) + y) % N * N + (mt_x s j (p % N) (p / N) + x) % N := rfl
  rw [e1, h2.1, h2.2]
  unfold mt_tg
  rw [(gr_emod s k N u v _ _).1, (gr_emod s k N u v _ _).2]
/-- a symmetry takes point p to point q -/
def gr_O (col : Nat → Int) (s n : Int) (p q : Nat) : Prop := ∃ m : Nat, m < (2 * mt_rd s * (n * n)).toNat ∧ mt_sm col s n m ∧ mt_tm s n ((p : Int) % n) ((p : Int) / n) m = q
theorem gr_O_rf (hs : s = 0 ∨ s = 1) (hn : 1 ≤ n ∧ n ≤ 12) {p : Nat} (hp : (p : Int) < n * n) : gr_O col s n p p := by
  have hN := mt_2rn hs hn
  refine ⟨0, by omega, mt_sm_0 _ _ _, ?_⟩
  have hx := mt_mod hn.1 (p : Int)
  have hy := mt_row_bd hn.1 (p := (p : Int)) ⟨by omega, hp⟩
  unfold mt_tm mt_tg
  rw [show ((0 : Nat) : Int) = 0 from rfl, Int.zero_ediv, Int.zero_ediv, Int.zero_emod, (mt_x0 s _ _).1, (mt_x0 s _ _).2, Int.add_zero, Int.add_zero, Int.emod_eq_of_lt hx.1 hx.2, Int.emod_eq_of_lt hy.1 hy.2]
  exact mt_pt_of hn.1
theorem gr_O_sy (hs : s = 0 ∨ s = 1) (hn : 1 ≤ n ∧ n ≤ 12) {p q : Nat} (hp : (p : Int) < n * n) (h : gr_O col s n p q) : gr_O col s n q p := by
  obtain ⟨m, m1, m2, m3⟩ := h
  obtain ⟨i1, i2, i3⟩ := gr_sm_iv hs hn m1 m2
  refine ⟨(mt_iv s n m).toNat, i2, i1, ?_⟩
  have hk := mt_kof hn.1 (show 0 ≤ (m : Int) ∧ (m : Int) < 2 * mt_rd s * (n * n) by omega)
  have h1 := (gr_tgi (u := (m : Int) / n % n) (v := (m : Int) % n) hs hn hk (p : Int) ⟨by omega, hp⟩).1
  have m3' : mt_tg s n ((m : Int) / (n * n)) ((m : Int) / n % n) ((m : Int) % n) ((p : Int) % n) ((p : Int) / n) = q := m3
  rw [m3'] at h1
  unfold mt_tm
  rw [i3, (gr_iv_k hn _).1, (gr_iv_k hn _).2.1, (gr_iv_k hn _).2.2]
  rw [← h1]
  unfold mt_tg
  rw [Int.add_emod_emod, Int.add_emod_emod]
theorem gr_O_tr (hs : s = 0 ∨ s = 1) (hn : 1 ≤ n ∧ n ≤ 12) {p q r : Nat} (h : gr_O col s n p q) (h' : gr_O col s n q r) : gr_O col s n p r := by
  obtain ⟨b, b1, b2, b3⟩ := h
  obtain ⟨a, a1, a2, a3⟩ := h'
  obtain ⟨i1, i2, i3⟩ := gr_sm_pr hs hn a1 b1 a2 b2
  refine ⟨(mt_pr s n a b).toNat, i2, i1, ?_⟩
  have hka := mt_kof hn.1 (show 0 ≤ (a : Int) ∧ (a : Int) < 2 * mt_rd s * (n * n) by omega)
  have hkb := mt_kof hn.1 (show 0 ≤ (b : Int) ∧ (b : Int) < 2 * mt_rd s * (n * n) by omega)
  have h1 := gr_tg2 (s := s) hn.1 ((a : Int) / (n * n)) ((a : Int) / n % n) ((a : Int) % n) ((b : Int) / (n * n)) ((b : Int) / n % n) ((b : Int) % n) (p : Int)
  have b3' : mt_tg s n ((b : Int) / (n * n)) ((b : Int) / n % n) ((b : Int) % n) ((p : Int) % n) ((p : Int) / n) = q := b3
  have a3' : mt_tg s n ((a : Int) / (n * n)) ((a : Int) / n % n) ((a : Int) % n) ((q : Int) % n) ((q : Int) / n) = r := a3
  rw [b3', a3'] at h1
  rw [h1]
  unfold mt_tm mt_tg
  rw [i3, (gr_pr_k hn _ _).1, (gr_pr_k hn _ _).2.1, (gr_pr_k hn _ _).2.2, (gr_lp hs hka hkb _ _).1, (gr_lp hs hka hkb _ _).2, Int.add_emod_emod, Int.add_emod_emod, (gr_lin s _ _ _ _ _).1, (gr_lin s _ _ _ _ _).2, Int.add_assoc, Int.add_assoc]
/-- for an equivalence, the first of a class -/
theorem gr_F {T : Nat → Nat → Prop} {M : Nat} (hsy : ∀ p q, p < M → q < M → T p q → T q p) (htr : ∀ p q r, p < M → q < M → r < M → T p q → T q r → T p r) : ∀ (j q : Nat), j ≤ M → q < M → (po_F T j q = -1 ∧ ∀ p, p < j → ¬ T p q) ∨ ∃ p, p < j ∧ T p q ∧ po_F T j q = p ∧ ∀ r, r < p → ¬ T r q := by
  intro j
  induction j with
  | zero => intro q hj hq; exact Or.inl ⟨rfl, fun p hp => by omega⟩
  | succ j ih =>
    intro q hj hq
    simp only [po_F]
    rcases Classical.em (po_F T j j = -1 ∧ T j q) with h | h
    · rw [pg_if_t h]
      refine Or.inr ⟨j, by omega, h.2, rfl, fun r hr h1 => ?_⟩
      rcases ih j (by omega) (by omega) with h2 | ⟨p, p1, p2, p3, p4⟩
      · exact h2.2 r hr (htr r q j (by omega) hq (by omega) h1 (hsy j q (by omega) hq h.2))
      · omega
    · rw [pg_if_f h]
      rcases ih q (by omega) hq with h2 | ⟨p, p1, p2, p3, p4⟩
      · refine Or.inl ⟨h2.1, fun p hp h3 => ?_⟩
        rcases (show p < j ∨ p = j by omega) with h4 | rfl
        · exact h2.2 p h4 h3
        · rcases ih p (by omega) (by omega) with h5 | ⟨r, r1, r2, r3, r4⟩
          · exact h ⟨h5.1, h3⟩
          · exact h2.2 r r1 (htr r p q (by omega) (by omega) hq r2 h3)
      · exact Or.inr ⟨p, by omega, p2, p3, p4⟩
end
section
variable {h : pg_H} {col : Nat → Int} {s n : Int}
/-- the class goes from point to point as the group does -/
theorem gr_po (hs : s = 0 ∨ s = 1) (hn : 1 ≤ n ∧ n ≤ 12) (hD : gr_D h s n (mt_sym col s n)) (p q : Nat) : po_Tn h s n p q ↔ gr_O col s n p q := by
  obtain ⟨hG, hL, hP, hE, -⟩ := id hD
  obtain ⟨ha, hb, hc, hna, hnc, hin, -⟩ := id hL
  have hP2 : ∀ k u v : Int, (0 ≤ k ∧ k < 2 * mt_rd s) → h 11 k.toNat ≠ -1 → (mt_sym col s n k u v ↔ mt_in (h 10 4) (h 10 5) (h 10 6) (h 11 k.toNat) (h 12 k.toNat) u v) := fun k u v hk h1 => by
    rw [← hP k u v hk]
    exact ⟨fun h => h.2, fun h => ⟨h1, h⟩⟩
  unfold po_Tn po_T
  generalize h 10 4 = A at *
  generalize h 10 5 = B at *
  generalize h 10 6 = C at *
  have eA : A * (n / A) = n := Int.mul_ediv_cancel' (Int.dvd_of_emod_eq_zero hna)
  have eC : C * (n / C) = n := Int.mul_ediv_cancel' (Int.dvd_of_emod_eq_zero hnc)
  constructor
  · rintro ⟨k, hk, hk1, a, b, h1, h2, hq⟩
    have hS : mt_sym col s n k (h 11 k.toNat + a * A + b * B) (h 12 k.toNat + b * C) := by
      rw [hP2 k _ _ hk hk1]
      unfold mt_in
      rw [show h 12 k.toNat + b * C - h 12 k.toNat = b * C by omega, Int.mul_ediv_cancel _ (by omega), show h 11 k.toNat + a * A + b * B - h 11 k.toNat - b * B = a * A by omega]
      exact ⟨Int.dvd_mul_left _ _, Int.dvd_mul_left _ _⟩
    have hcd := mt_cd_k (n := n) (k := k) (u := h 11 k.toNat + a * A + b * B) (v := h 12 k.toNat + b * C) hn
    have hcb := mt_cdb (s := s) (u := h 11 k.toNat + a * A + b * B) (v := h 12 k.toNat + b * C) hn hk
    refine ⟨(mt_cd n k (h 11 k.toNat + a * A + b * B) (h 12 k.toNat + b * C)).toNat, by omega, ?_, ?_⟩
    · unfold mt_sm
      rw [show (((mt_cd n k (h 11 k.toNat + a * A + b * B) (h 12 k.toNat + b * C)).toNat : Nat) : Int) = mt_cd n k (h 11 k.toNat + a * A + b * B) (h 12 k.toNat + b * C) by omega, hcd.1, hcd.2.1, hcd.2.2]
      exact (gr_sym_mod hn.1 (Int.emod_emod _ _) (Int.emod_emod _ _)).mpr hS
    · unfold mt_tm mt_tg
      rw [show (((mt_cd n k (h 11 k.toNat + a * A + b * B) (h 12 k.toNat + b * C)).toNat : Nat) : Int) = mt_cd n k (h 11 k.toNat + a * A + b * B) (h 12 k.toNat + b * C) by omega, hcd.1, hcd.2.1, hcd.2.2, hq, Int.add_emod_emod, Int.add_emod_emod]
      congr 2 <;> omega
  · rintro ⟨m, m1, m2, m3⟩
    have hm : 0 ≤ (m : Int) ∧ (m : Int) < 2 * mt_rd s * (n * n) := by omega
    have hk := mt_kof hn.1 hm
    unfold mt_sm at m2
    unfold mt_tm at m3
    generalize (m : Int) / (n * n) = k at *
    generalize (m : Int) / n % n = u at *
    generalize (m : Int) % n = v at *
    have hk1 : h 11 k.toNat ≠ -1 := (hE k hk).mpr ⟨u, v, m2⟩
    have h1 := (hP2 k u v hk hk1).mp m2
    unfold mt_in at h1
    obtain ⟨b', hb'⟩ := h1.1
    have hdb : (v - h 12 k.toNat) / C = b' := by rw [hb']; exact Int.mul_ediv_cancel_left _ (by omega)
    rw [hdb] at h1
    obtain ⟨a', ha'⟩ := h1.2
    -- n / C steps (B, C) are a shift by (n / C * B, n), so A divides n / C * B
    have hper : mt_sym col s n 0 0 n := by have := gr_per0 hG 0 1; rwa [Int.mul_one, Int.mul_zero] at this
    have hpi := (hin 0 n).mp hper
    unfold mt_in at hpi
    rw [Int.sub_zero, Int.sub_zero, Int.zero_sub] at hpi
    obtain ⟨d, hd⟩ := (Int.dvd_neg.mp hpi.2)
    have hCp : 1 ≤ n / C := by
      rcases (show 1 ≤ n / C ∨ n / C ≤ 0 by omega) with h0 | h0
      · exact h0
      · have := Int.mul_nonpos_of_nonneg_of_nonpos (show 0 ≤ C by omega) h0; omega
    have hAp : 1 ≤ n / A := by
      rcases (show 1 ≤ n / A ∨ n / A ≤ 0 by omega) with h0 | h0
      · exact h0
      · have := Int.mul_nonpos_of_nonneg_of_nonpos (show 0 ≤ A by omega) h0; omega
    have eb := Int.emod_add_mul_ediv b' (n / C)
    have ea := Int.emod_add_mul_ediv (a' + d * (b' / (n / C))) (n / A)
    refine ⟨k, hk, hk1, (a' + d * (b' / (n / C))) % (n / A), b' % (n / C), mt_mod hAp _, mt_mod hCp _, ?_⟩
    rw [← m3]
    unfold mt_tg
    generalize b' / (n / C) = t at *
    generalize b' % (n / C) = b at *
    generalize (a' + d * t) / (n / A) = r at *
    generalize (a' + d * t) % (n / A) = a at *
    have ev : v = h 12 k.toNat + b * C + n * t := by
      rw [← eb, Int.mul_add, ← Int.mul_assoc, eC] at hb'
      rw [Int.mul_comm C b] at hb'
      omega
    have eu : u = h 11 k.toNat + a * A + b * B + n * r := by
      have e1 : b' * B = b * B + A * (d * t) := by
        rw [← eb, Int.add_mul, Int.mul_right_comm, hd, Int.mul_assoc]
      have e2 : A * (a' + d * t) = A * a + n * r := by
        rw [← ea, Int.mul_add, ← Int.mul_assoc, eA]
      rw [Int.mul_add] at e2
      rw [e1] at ha'
      rw [Int.mul_comm A a] at e2
      omega
    rw [ev, eu]
    congr 1
    · rw [← Int.add_assoc, Int.add_mul_emod_self_left]; congr 1; omega
    · rw [← Int.add_assoc, Int.add_mul_emod_self_left]; congr 1; omega
/-- the least point: both the same -/
theorem gr_lo (hs : s = 0 ∨ s = 1) (hn : 1 ≤ n ∧ n ≤ 12) (hD : gr_D h s n (mt_sym col s n)) {q : Nat} (hq : (q : Int) < n * n) : po_F (po_Tn h s n) (n * n).toNat q = mt_lo col s n ((q : Int) % n) ((q : Int) / n) ∧ (po_F (po_Tn h s n) q q = -1 ↔ mt_lo col s n ((q : Int) % n) ((q : Int) / n) = q) := by
  have hnn := mt_nn hn.1 hn.2
  have hN := mt_2rn hs hn
  have eT : po_Tn h s n = gr_O col s n := by
    funext p q
    exact propext (gr_po hs hn hD p q)
  rw [eT]
  have hsy : ∀ p q : Nat, p < (n * n).toNat → q < (n * n).toNat → gr_O col s n p q → gr_O col s n q p := fun p q hp _ h => gr_O_sy hs hn (by omega) h
  have htr : ∀ p q r : Nat, p < (n * n).toNat → q < (n * n).toNat → r < (n * n).toNat → gr_O col s n p q → gr_O col s n q r → gr_O col s n p r := fun p q r _ _ _ h h' => gr_O_tr hs hn h h'
  obtain ⟨l1, l2, l3⟩ := ri_mn_le (mt_sm col s n) (mt_tm s n ((q : Int) % n) ((q : Int) / n)) (2 * mt_rd s * (n * n)).toNat
  have hrf := gr_O_rf (col := col) hs hn hq
  have hlo : ∃ p : Nat, (p : Int) < n * n ∧ mt_lo col s n ((q : Int) % n) ((q : Int) / n) = p ∧ gr_O col s n q p ∧ ∀ r : Nat, r < p → ¬ gr_O col s n q r := by
    obtain ⟨m, m1, m2, m3⟩ := hrf
    rcases l3 with h0 | ⟨z, z1, z2, z3⟩
    · exfalso
      have := l2 m m1 m2
      omega
    · have hb := mt_tg_bd (s := s) (k := (z : Int) / (n * n)) (u := (z : Int) / n % n) (v := (z : Int) % n) (x := (q : Int) % n) (y := (q : Int) / n) hn.1 hn.2
      have e : mt_tm s n ((q : Int) % n) ((q : Int) / n) z = mt_tg s n ((z : Int) / (n * n)) ((z : Int) / n % n) ((z : Int) % n) ((q : Int) % n) ((q : Int) / n) := rfl
      refine ⟨(mt_tm s n ((q : Int) % n) ((q : Int) / n) z).toNat, by omega, by unfold mt_lo; omega, ⟨z, z1, z2, by omega⟩, fun r hr h1 => ?_⟩
      obtain ⟨m', a1, a2, a3⟩ := h1
      have := l2 m' a1 a2
      omega
  obtain ⟨p, p1, p2, p3, p4⟩ := hlo
  have p5 := gr_O_sy hs hn hq p3
  constructor
  · rcases gr_F hsy htr (n * n).toNat q (Nat.le_refl _) (by omega) with h1 | ⟨r, r1, r2, r3, r4⟩
    · exact absurd p5 (h1.2 p (by omega))
    · rw [r3, p2]
      rcases Nat.lt_trichotomy r p with h2 | h2 | h2
      · exact absurd (gr_O_sy hs hn (by omega) r2) (p4 r h2)
      · rw [h2]
      · exact absurd p5 (r4 p h2)
  · rw [p2]
    rcases gr_F hsy htr q q (by omega) (by omega) with h1 | ⟨r, r1, r2, r3, r4⟩
    · refine ⟨fun _ => ?_, fun _ => h1.1⟩
      rcases Nat.lt_trichotomy p q with h2 | h2 | h2
      · exact absurd p5 (h1.2 p h2)
      · rw [h2]
      · exact absurd hrf (p4 q h2)
    · refine ⟨fun h2 => by omega, fun h2 => ?_⟩
      exact absurd (gr_O_sy hs hn (by omega) r2) (p4 r (by omega))
end
