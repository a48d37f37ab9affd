/-! kinds: mirrors alone, with glides between them or without -/
section
variable {h : pg_H} {col : Nat → Int} {s n : Int}
theorem gr_hg (hs : s = 0 ∨ s = 1) (hn : 1 ≤ n ∧ n ≤ 12) : mt_hg col s n ↔ ∃ k u v : Int, (mt_rd s ≤ k ∧ k < 2 * mt_rd s) ∧ mt_sym col s n k u v ∧ ¬ gr_fx (mt_sym col s n) s k (3 * u) (3 * v) := by
  have hr := mt_rd_or hs
  have hG := gr_sym_G col hs hn.1
  have hgl : ∀ M w : Int, (mt_rd s ≤ M / (n * n) ∧ M / (n * n) < 2 * mt_rd s) → (mt_gl col s n M w ↔ ¬ gr_fx (mt_sym col s n) s (M / (n * n)) (3 * (M / n % n + n * (w % 2))) (3 * (M % n + n * (w / 2)))) := by
    intro M w hk
    have hk0 : 0 ≤ M / (n * n) ∧ M / (n * n) < 2 * mt_rd s := by omega
    unfold mt_gl
    have q1 := mt_mod (n := 6 * n) (by omega) (3 * (M / n % n + n * (w % 2)))
    have q2 := mt_mod (n := 6 * n) (by omega) (3 * (M % n + n * (w / 2)))
    have hd := mt_dm (u := 3 * (M % n + n * (w / 2)) % (6 * n)) (n := 6 * n) (by omega) q1
    have hm : 0 ≤ 3 * (M % n + n * (w / 2)) % (6 * n) * (6 * n) := Int.mul_nonneg q2.1 (by omega)
    have hm2 := Int.mul_le_mul_of_nonneg_right (show 3 * (M % n + n * (w / 2)) % (6 * n) ≤ 6 * n - 1 by omega) (show 0 ≤ 6 * n by omega)
    rw [Int.sub_mul, Int.one_mul] at hm2
    rw [Int.mul_comm (6 * n) (3 * (M % n + n * (w / 2)) % (6 * n))]
    have e : (((3 * (M % n + n * (w / 2)) % (6 * n) * (6 * n) + 3 * (M / n % n + n * (w % 2)) % (6 * n)).toNat : Nat) : Int) = 3 * (M % n + n * (w / 2)) % (6 * n) * (6 * n) + 3 * (M / n % n + n * (w % 2)) % (6 * n) := by omega
    rw [gr_fk hs hn (by omega) (by omega), e, hd.1, hd.2, show (((M / (n * n)).toNat : Nat) : Int) = M / (n * n) by omega, gr_fx_mod hs hG hk0]
  constructor
  · rintro ⟨m, m1, m2, m3, w, w1, w2⟩
    have hk := mt_kof hn.1 (show 0 ≤ (m : Int) ∧ (m : Int) < 2 * mt_rd s * (n * n) by omega)
    have h1 := (hgl m w ⟨m3, hk.2⟩).mp w2
    exact ⟨_, _, _, ⟨m3, hk.2⟩, hG.2.2.2 _ _ _ (w % 2) (w / 2) m2, h1⟩
  · rintro ⟨k, u, v, hk, h1, h2⟩
    have hk0 : 0 ≤ k ∧ k < 2 * mt_rd s := by omega
    have hcd := mt_cd_k (n := n) (k := k) (u := u) (v := v) hn
    have hcb := mt_cdb (s := s) (u := u) (v := v) hn hk0
    have e : (((mt_cd n k u v).toNat : Nat) : Int) = mt_cd n k u v := by omega
    refine ⟨(mt_cd n k u v).toNat, by omega, ?_, by rw [e, hcd.1]; exact hk.1, u / n % 2 + 2 * (v / n % 2), by omega, ?_⟩
    · unfold mt_sm
      rw [e, hcd.1, hcd.2.1, hcd.2.2]
      exact (gr_sym_mod hn.1 (Int.emod_emod _ _) (Int.emod_emod _ _)).mpr h1
    · rw [e, hgl _ _ (by rw [hcd.1]; exact hk), hcd.1, hcd.2.1, hcd.2.2]
      intro h3
      apply h2
      rw [show (u / n % 2 + 2 * (v / n % 2)) % 2 = u / n % 2 by omega, show (u / n % 2 + 2 * (v / n % 2)) / 2 = v / n % 2 by omega] at h3
      have h4 := (gr_fx_sh hs hG (k := k) (P := 3 * (u % n + n * (u / n % 2))) (Q := 3 * (v % n + n * (v / n % 2))) hk0 (gr_per0 hG (u / n / 2) (v / n / 2))).mpr h3
      have e1 : 3 * (u % n + n * (u / n % 2)) + 6 * (n * (u / n / 2)) = 3 * u := by
        have a1 := Int.emod_add_mul_ediv u n
        have a2 := Int.emod_add_mul_ediv (u / n) 2
        generalize u / n % 2 = x at *
        generalize u / n / 2 = y at *
        rw [← a2, Int.mul_add, Int.mul_left_comm] at a1
        omega
      have e2 : 3 * (v % n + n * (v / n % 2)) + 6 * (n * (v / n / 2)) = 3 * v := by
        have a1 := Int.emod_add_mul_ediv v n
        have a2 := Int.emod_add_mul_ediv (v / n) 2
        generalize v / n % 2 = x at *
        generalize v / n / 2 = y at *
        rw [← a2, Int.mul_add, Int.mul_left_comm] at a1
        omega
      rw [e1, e2] at h4
      exact h4
/-- every mirrored place hangs together with a place where the class counts -/
theorem gr_Erep (hs : s = 0 ∨ s = 1) (hn : 1 ≤ n ∧ n ≤ 12) (hD : gr_D h s n (mt_sym col s n)) (hW : sg_W h) {P Q : Int} (h1 : 0 < gr_m (mt_sym col s n) s P Q) : ∃ m : Nat, m < (h 15 5 * h 15 6).toNat ∧ gr_rC h s m ∧ gr_Cn (mt_sym col s n) s ((m : Int) % h 15 5) ((m : Int) / h 15 5) P Q := by
  have ha := hD.2.1.1
  have hc := hD.2.1.2.2.1
  have hB : h 15 5 * h 15 6 ≤ 5184 := by
    rw [hW.1, hW.2]
    exact Int.le_trans (Int.mul_le_mul (show 6 * h 10 4 ≤ 72 by omega) (show 6 * h 10 6 ≤ 72 by omega) (by omega) (by omega)) (by decide)
  have hBe : h 15 5 * h 15 6 = 6 * h 10 4 * (6 * h 10 6) := by rw [hW.1, hW.2]
  have hB0 := Int.mul_pos (show 0 < 6 * h 10 4 by omega) (show 0 < 6 * h 10 6 by omega)
  obtain ⟨m0, m1, x, y, m2, m3, m4⟩ := gr_cell hs hD P Q
  have hC0 : gr_Cn (mt_sym col s n) s ((m0 : Int) % h 15 5) ((m0 : Int) / h 15 5) P Q := by
    rw [hW.1, m3, m4]
    exact gr_Cn_sh hs m2
  rw [m3, m4, (gr_t_sh hs hD.1 m2).2] at h1
  have hne : sg_m h s m0 ≠ 0 := by
    rw [(gr_sgt hD hs hW m0).2]
    omega
  obtain ⟨-, -, -, e4, e5⟩ := gr_E_in hs hD hW hB (h 15 5 * h 15 6).toNat (by omega)
  obtain ⟨m, n1, n2, n3⟩ := e4 _ (e5 m0 (by omega) hne)
  exact ⟨m, n1, n2, gr_Cn_tr n3 hC0⟩
theorem gr_Ele (hs : s = 0 ∨ s = 1) (hn : 1 ≤ n ∧ n ≤ 12) (hD : gr_D h s n (mt_sym col s n)) (hS : sg_D h s) {P1 Q1 : Int} (hall : ∀ P Q : Int, 0 < gr_m (mt_sym col s n) s P Q → gr_Cn (mt_sym col s n) s P1 Q1 P Q) : h 15 7 ≤ 1 := by
  have h0 := (gr_E0 hs hn hD hS).1
  obtain ⟨hW, -⟩ := hS
  have ha := hD.2.1.1
  have hc := hD.2.1.2.2.1
  have hB : h 15 5 * h 15 6 ≤ 5184 := by
    rw [hW.1, hW.2]
    exact Int.le_trans (Int.mul_le_mul (show 6 * h 10 4 ≤ 72 by omega) (show 6 * h 10 6 ≤ 72 by omega) (by omega) (by omega)) (by decide)
  have hmir : ∀ m : Nat, gr_rC h s m → 0 < gr_m (mt_sym col s n) s ((m : Int) % h 15 5) ((m : Int) / h 15 5) := fun m hm => by
    have h1 := hm.1
    rw [(gr_sgt hD hs hW m).2] at h1
    rw [hW.1]
    have : 0 ≤ gr_m (mt_sym col s n) s ((m : Int) % (6 * h 10 4)) ((m : Int) / (6 * h 10 4)) := (pg_cn_bd _ _).1
    omega
  rw [h0, pg_cn_u1 (fun a b ha hb p q => gr_rC_u hs hn.1 hD hW hB (by omega) (by omega) p q (gr_Cn_tr (gr_Cn_sy (hall _ _ (hmir a p))) (hall _ _ (hmir b q))))]
  rcases pg_b_01 (∃ m, m < (h 15 5 * h 15 6).toNat ∧ gr_rC h s m) with e | e <;> omega
theorem gr_E2 (hs : s = 0 ∨ s = 1) (hn : 1 ≤ n ∧ n ≤ 12) (hD : gr_D h s n (mt_sym col s n)) (hS : sg_D h s) {P1 Q1 P2 Q2 : Int} (m1 : 0 < gr_m (mt_sym col s n) s P1 Q1) (m2 : 0 < gr_m (mt_sym col s n) s P2 Q2) (hno : ¬ gr_Cn (mt_sym col s n) s P1 Q1 P2 Q2) (hall : ∀ P Q : Int, 0 < gr_m (mt_sym col s n) s P Q → gr_Cn (mt_sym col s n) s P1 Q1 P Q ∨ gr_Cn (mt_sym col s n) s P2 Q2 P Q) : h 15 7 = 2 := by
  have h0 := (gr_E0 hs hn hD hS).1
  obtain ⟨hW, -⟩ := hS
  have ha := hD.2.1.1
  have hc := hD.2.1.2.2.1
  have hB : h 15 5 * h 15 6 ≤ 5184 := by
    rw [hW.1, hW.2]
    exact Int.le_trans (Int.mul_le_mul (show 6 * h 10 4 ≤ 72 by omega) (show 6 * h 10 6 ≤ 72 by omega) (by omega) (by omega)) (by decide)
  have hmir : ∀ m : Nat, gr_rC h s m → 0 < gr_m (mt_sym col s n) s ((m : Int) % h 15 5) ((m : Int) / h 15 5) := fun m hm => by
    have h1 := hm.1
    rw [(gr_sgt hD hs hW m).2] at h1
    rw [hW.1]
    have : 0 ≤ gr_m (mt_sym col s n) s ((m : Int) % (6 * h 10 4)) ((m : Int) / (6 * h 10 4)) := (pg_cn_bd _ _).1
    omega
  have hg : ∀ m : Nat, ∃ z : Nat, (z = 0 ∧ gr_Cn (mt_sym col s n) s P1 Q1 ((m : Int) % h 15 5) ((m : Int) / h 15 5)) ∨ (z = 1 ∧ ¬ gr_Cn (mt_sym col s n) s P1 Q1 ((m : Int) % h 15 5) ((m : Int) / h 15 5)) := fun m => by
    rcases Classical.em (gr_Cn (mt_sym col s n) s P1 Q1 ((m : Int) % h 15 5) ((m : Int) / h 15 5)) with h1 | h1
    · exact ⟨0, Or.inl ⟨rfl, h1⟩⟩
    · exact ⟨1, Or.inr ⟨rfl, h1⟩⟩
  have hsp := fun m => Classical.choose_spec (hg m)
  have h2 : pg_cn (fun _ => True) 2 = 2 := pg_cn_all (fun j _ => trivial)
  rw [h0, ← h2]
  refine Int.le_antisymm ?_ ?_
  · refine pg_cn_inj (f := fun m => Classical.choose (hg m)) (fun m hm hp => ⟨by have := hsp m; show Classical.choose (hg m) < 2; omega, trivial⟩) (fun a b ha hb p q e => ?_)
    have e1 : Classical.choose (hg a) = Classical.choose (hg b) := e
    have s1 := hsp a
    have s2 := hsp b
    rw [← e1] at s2
    refine gr_rC_u hs hn.1 hD hW hB (by omega) (by omega) p q ?_
    rcases s1 with ⟨z1, c1⟩ | ⟨z1, c1⟩
    · rcases s2 with ⟨z2, c2⟩ | ⟨z2, c2⟩
      · exact gr_Cn_tr (gr_Cn_sy c1) c2
      · omega
    · rcases s2 with ⟨z2, c2⟩ | ⟨z2, c2⟩
      · omega
      · rcases hall _ _ (hmir a p) with d1 | d1
        · exact absurd d1 c1
        · rcases hall _ _ (hmir b q) with d2 | d2
          · exact absurd d2 c2
          · exact gr_Cn_tr (gr_Cn_sy d1) d2
  · refine pg_cn_sur (f := fun m => Classical.choose (hg m)) (fun i hi _ => ?_)
    rcases (show i = 0 ∨ i = 1 by omega) with rfl | rfl
    · obtain ⟨m, a1, a2, a3⟩ := gr_Erep hs hn hD hW m1
      refine ⟨m, a1, a2, ?_⟩
      rcases hsp m with ⟨z1, c1⟩ | ⟨z1, c1⟩
      · exact z1
      · exact absurd (gr_Cn_sy a3) c1
    · obtain ⟨m, a1, a2, a3⟩ := gr_Erep hs hn hD hW m2
      refine ⟨m, a1, a2, ?_⟩
      rcases hsp m with ⟨z1, c1⟩ | ⟨z1, c1⟩
      · exact absurd (gr_Cn_tr c1 a3) hno
      · exact z1
/-- mirrors alone: two edges without glides, one with -/
theorem gr_pmcm (hs : s = 0 ∨ s = 1) (hn : 1 ≤ n ∧ n ≤ 12) (hD : gr_D h s n (mt_sym col s n)) (hS : sg_D h s) (hmx : ∀ P Q : Int, gr_t (mt_sym col s n) s P Q ≤ 1) {P0 Q0 : Int} (hm0 : 0 < gr_m (mt_sym col s n) s P0 Q0) : (mt_hg col s n → h 15 7 ≤ 1) ∧ (¬ mt_hg col s n → h 15 7 = 2) := by
  have hr := mt_rd_or hs
  have hG := hD.1
  obtain ⟨k0, hk0, hf0⟩ := pg_cn_pos.mp hm0
  generalize hkk : mt_rd s + (k0 : Int) = k at *
  have hk : mt_rd s ≤ k ∧ k < 2 * mt_rd s := by omega
  have hkb : 0 ≤ k ∧ k < 2 * mt_rd s := by omega
  obtain ⟨u0, v0, hS0, hx0, hy0⟩ := hf0
  obtain ⟨e1, e2⟩ := gr_mir_of hx0 hy0 (gr_inv2 hs hk)
  obtain ⟨gx, gy, g1, ⟨g2, g3⟩, g4, g5⟩ := gr_lines hs hn.1 hG hk hS0 e1 e2
  -- all mirrors have this k; their lines
  have hmir : ∀ P Q : Int, 0 < gr_m (mt_sym col s n) s P Q → ∃ u v e : Int, mt_sym col s n k u v ∧ (mt_x s k P Q + 6 * u = P ∧ mt_y s k P Q + 6 * v = Q) ∧ u = u0 + e * gx ∧ v = v0 + e * gy := by
    intro P Q hp
    obtain ⟨j0, hj0, u, v, q1, q2, q3⟩ := pg_cn_pos.mp hp
    have hj := gr_onek hs hG hmx hk (show mt_rd s ≤ mt_rd s + (j0 : Int) ∧ mt_rd s + (j0 : Int) < 2 * mt_rd s by omega) hS0 q1
    rw [hj] at q1 q2 q3
    obtain ⟨d1, d2⟩ := gr_mir_of q2 q3 (gr_inv2 hs hk)
    have hd := (gr_two hs hG hkb hS0).mp q1
    have hl := gr_sub s k u v u0 v0
    obtain ⟨e, h1, h2⟩ := g5 _ _ hd (by omega) (by omega)
    exact ⟨u, v, e, q1, ⟨q2, q3⟩, by omega, by omega⟩
  have hline1 : mt_x s k (3 * u0) (3 * v0) + 6 * u0 = 3 * u0 ∧ mt_y s k (3 * u0) (3 * v0) + 6 * v0 = 3 * v0 := by
    rw [(gr_sc s k 3 _ _).1, (gr_sc s k 3 _ _).2, e1, e2]
    omega
  -- a place whose line is (1 - M) l away from the first
  have hgo : ∀ P Q x y u v : Int, mt_sym col s n 0 x y → (mt_x s k P Q + 6 * u = P ∧ mt_y s k P Q + 6 * v = Q) → (u = u0 + (x - mt_x s k x y) ∧ v = v0 + (y - mt_y s k x y)) → gr_Cn (mt_sym col s n) s (3 * u0) (3 * v0) P Q := by
    intro P Q x y u v hxy hp huv
    have h1 := gr_sneg hs hG hxy
    have h2 := gr_Cn_sh hs (P := P) (Q := Q) h1
    refine gr_Cn_tr ?_ (gr_Cn_sy h2)
    have h3 := gr_lin s k P Q (6 * -x) (6 * -y)
    rw [(gr_sc s k 6 _ _).1, (gr_sc s k 6 _ _).2, (gr_neg s k x y).1, (gr_neg s k x y).2] at h3
    exact gr_line hs hk hS0 hline1.1 hline1.2 (by omega) (by omega)
  constructor
  · intro hgl
    obtain ⟨j, u, v, hj, q1, q2⟩ := (gr_hg hs hn).mp hgl
    have hjk := gr_onek hs hG hmx hk hj hS0 q1
    subst hjk
    -- (1 - M) l is an odd number of steps g
    have hl := (gr_two hs hG hkb hS0).mp q1
    have hlM := gr_sh_lin hs hG hkb hS0 hl
    have hnu := gr_ssub hs hG hl hlM
    have hM2 := gr_inv2 hs hk (u - u0) (v - v0)
    have hsb := gr_sub s j (u - u0) (v - v0) (mt_x s j (u - u0) (v - v0)) (mt_y s j (u - u0) (v - v0))
    obtain ⟨e, h1, h2⟩ := g5 _ _ hnu (by omega) (by omega)
    have hodd : e % 2 = 1 := by
      rcases (show e % 2 = 0 ∨ e % 2 = 1 by omega) with h3 | h3
      · exfalso
        apply q2
        obtain ⟨f, hf⟩ : ∃ f : Int, e = 2 * f := ⟨e / 2, by omega⟩
        have hsf := gr_smul hs hG g1 f
        have hSf := gr_sh hs hG hkb hsf hS0
        rw [hf, Int.mul_assoc] at h1 h2
        have hl2 := gr_sub s j u v u0 v0
        refine ⟨_, _, hSf, ?_, ?_⟩
        · rw [(gr_sc s j 3 _ _).1]; omega
        · rw [(gr_sc s j 3 _ _).2]; omega
      · exact h3
    obtain ⟨f, hf⟩ : ∃ f : Int, e = 2 * f + 1 := ⟨e / 2, by omega⟩
    -- g itself is (1 - M) of a shift
    have hl1 := gr_ssub hs hG hl (gr_smul hs hG g1 f)
    refine gr_Ele hs hn hD hS (P1 := 3 * u0) (Q1 := 3 * v0) (fun P Q hp => ?_)
    obtain ⟨a, b, c, p1, p2, p3, p4⟩ := hmir P Q hp
    have hl2 := gr_smul hs hG hl1 c
    refine hgo P Q _ _ a b hl2 p2 ?_
    have z1 := gr_sc s j c (u - u0 - f * gx) (v - v0 - f * gy)
    have z2 := gr_sub s j (u - u0) (v - v0) (f * gx) (f * gy)
    have z3 := gr_sc s j f gx gy
    rw [g2, g3] at z3
    rw [z3.1, z3.2] at z2
    rw [z2.1, z2.2] at z1
    rw [z1.1, z1.2]
    rw [hf, Int.add_mul, Int.one_mul, Int.mul_assoc] at h1 h2
    constructor
    · rw [p3, ← Int.mul_sub, show u - u0 - f * gx - (mt_x s j (u - u0) (v - v0) - f * -gx) = gx by rw [Int.mul_neg]; omega]
    · rw [p4, ← Int.mul_sub, show v - v0 - f * gy - (mt_y s j (u - u0) (v - v0) - f * -gy) = gy by rw [Int.mul_neg]; omega]
  · intro hngl
    have hall : ∀ u v : Int, mt_sym col s n k u v → gr_fx (mt_sym col s n) s k (3 * u) (3 * v) := fun u v q1 => by
      rcases Classical.em (gr_fx (mt_sym col s n) s k (3 * u) (3 * v)) with h1 | h1
      · exact h1
      · exact absurd ((gr_hg hs hn).mpr ⟨k, u, v, hk, q1, h1⟩) hngl
    -- (1 - M) l is twice a shift
    have h2L : ∀ x y : Int, mt_sym col s n 0 x y → ∃ p q : Int, mt_sym col s n 0 p q ∧ x - mt_x s k x y = 2 * p ∧ y - mt_y s k x y = 2 * q := by
      intro x y hxy
      have h1 := gr_sh hs hG hkb hxy hS0
      obtain ⟨a, b, q1, q2, q3⟩ := hall _ _ h1
      have hd := (gr_two hs hG hkb hS0).mp q1
      rw [(gr_sc s k 3 _ _).1, (gr_lin s k _ _ _ _).1, e1] at q2
      rw [(gr_sc s k 3 _ _).2, (gr_lin s k _ _ _ _).2, e2] at q3
      exact ⟨_, _, hd, by omega, by omega⟩
    have hline2 : mt_x s k (3 * (u0 + gx)) (3 * (v0 + gy)) + 6 * (u0 + gx) = 3 * (u0 + gx) ∧ mt_y s k (3 * (u0 + gx)) (3 * (v0 + gy)) + 6 * (v0 + gy) = 3 * (v0 + gy) := by
      rw [(gr_sc s k 3 _ _).1, (gr_sc s k 3 _ _).2, (gr_lin s k _ _ _ _).1, (gr_lin s k _ _ _ _).2, e1, e2, g2, g3]
      omega
    have hS2 := gr_sh hs hG hkb g1 hS0
    -- the lines that lie evenly
    have hI : gr_Iv (mt_sym col s n) s (fun P Q => ∃ x y : Int, mt_sym col s n 0 x y ∧ mt_x s k P Q + 6 * (u0 + 2 * x) = P ∧ mt_y s k P Q + 6 * (v0 + 2 * y) = Q) := by
      have hsh : ∀ P Q a b : Int, mt_sym col s n 0 a b → (∃ x y : Int, mt_sym col s n 0 x y ∧ mt_x s k P Q + 6 * (u0 + 2 * x) = P ∧ mt_y s k P Q + 6 * (v0 + 2 * y) = Q) → ∃ x y : Int, mt_sym col s n 0 x y ∧ mt_x s k (P + 6 * a) (Q + 6 * b) + 6 * (u0 + 2 * x) = P + 6 * a ∧ mt_y s k (P + 6 * a) (Q + 6 * b) + 6 * (v0 + 2 * y) = Q + 6 * b := by
        rintro P Q a b hab ⟨x, y, q1, q2, q3⟩
        obtain ⟨p, q, p1, p2, p3⟩ := h2L a b hab
        refine ⟨_, _, gr_sh hs hG (gr_0k hs) p1 q1, ?_, ?_⟩
        · rw [(gr_lin s k _ _ _ _).1, (gr_sc s k 6 _ _).1]; omega
        · rw [(gr_lin s k _ _ _ _).2, (gr_sc s k 6 _ _).2]; omega
      refine ⟨fun j a b P Q hj hab => ?_, fun j P Q hj hf => ?_⟩
      · rcases (show j < mt_rd s ∨ mt_rd s ≤ j by omega) with hlt | hge
        · -- a shift
          have hj0 : j = 0 := by
            rcases (show j = 0 ∨ 0 < j by omega) with h1 | h1
            · exact h1
            · obtain ⟨⟨P', Q', h2⟩, -⟩ := gr_rot hs hG ⟨h1, hlt⟩ hab
              have := hmx P' Q'
              omega
          subst hj0
          rw [(mt_x0 s _ _).1, (mt_x0 s _ _).2]
          refine ⟨fun hq => ?_, hsh P Q a b hab⟩
          have h3 := hsh _ _ _ _ (gr_sneg hs hG hab) hq
          rw [show P + 6 * a + 6 * -a = P by omega, show Q + 6 * b + 6 * -b = Q by omega] at h3
          exact h3
        · have hjk := gr_onek hs hG hmx hk ⟨hge, hj.2⟩ hS0 hab
          subst hjk
          constructor
          · rintro ⟨x, y, q1, q2, q3⟩
            -- P is P' less a shift
            have hM2 := gr_inv2 hs hk P Q
            have hgl2 := (gr_glide hs hG hk hab).1
            have hdd := (gr_two hs hG hkb hS0).mp hab
            have hz := gr_ssub hs hG (gr_sh hs hG (gr_0k hs) (gr_smul hs hG q1 2) hgl2) hdd
            have h3 := hsh _ _ _ _ (gr_sneg hs hG hz) ⟨x, y, q1, q2, q3⟩
            have hq := gr_lin s j (mt_x s j P Q) (mt_y s j P Q) (6 * a) (6 * b)
            rw [(gr_sc s j 6 _ _).1, (gr_sc s j 6 _ _).2] at hq
            rw [show mt_x s j P Q + 6 * a + 6 * -(a + mt_x s j a b + 2 * x - (a - u0)) = P by omega, show mt_y s j P Q + 6 * b + 6 * -(b + mt_y s j a b + 2 * y - (b - v0)) = Q by omega] at h3
            exact h3
          · rintro ⟨x, y, q1, q2, q3⟩
            have hdd := (gr_two hs hG hkb hS0).mp hab
            have hz := gr_ssub hs hG hdd (gr_smul hs hG q1 2)
            have h3 := hsh _ _ _ _ hz ⟨x, y, q1, q2, q3⟩
            rw [show P + 6 * (a - u0 - 2 * x) = mt_x s j P Q + 6 * a by omega, show Q + 6 * (b - v0 - 2 * y) = mt_y s j P Q + 6 * b by omega] at h3
            exact h3
      · obtain ⟨a, b, hab, -, -⟩ := hf
        have hjk := gr_onek hs hG hmx hk hj hS0 hab
        subst hjk
        have hax := (gr_ax hs hj).1
        constructor
        · rintro ⟨x, y, q1, q2, q3⟩
          refine ⟨x, y, q1, ?_, ?_⟩
          · rw [(gr_lin s j _ _ _ _).1, hax.1] at q2; omega
          · rw [(gr_lin s j _ _ _ _).2, hax.2] at q3; omega
        · rintro ⟨x, y, q1, q2, q3⟩
          refine ⟨x, y, q1, ?_, ?_⟩
          · rw [(gr_lin s j _ _ _ _).1, hax.1]; omega
          · rw [(gr_lin s j _ _ _ _).2, hax.2]; omega
    refine gr_E2 hs hn hD hS (P1 := 3 * u0) (Q1 := 3 * v0) (P2 := 3 * (u0 + gx)) (Q2 := 3 * (v0 + gy)) (gr_fx_m hs hk ⟨u0, v0, hS0, hline1.1, hline1.2⟩) (gr_fx_m hs hk ⟨_, _, hS2, hline2.1, hline2.2⟩) (fun hC => ?_) (fun P Q hp => ?_)
    · obtain ⟨x, y, q1, q2, q3⟩ := (hC _ hI).mp ⟨0, 0, hG.1, by rw [Int.mul_zero, Int.add_zero]; exact hline1.1, by rw [Int.mul_zero, Int.add_zero]; exact hline1.2⟩
      exact g4 ⟨x, y, q1, by omega, by omega⟩
    · obtain ⟨a, b, e, p1, p2, p3, p4⟩ := hmir P Q hp
      rcases (show e % 2 = 0 ∨ e % 2 = 1 by omega) with he | he
      · left
        obtain ⟨f, hf⟩ : ∃ f : Int, e = 2 * f := ⟨e / 2, by omega⟩
        have z3 := gr_sc s k f gx gy
        rw [g2, g3, Int.mul_neg, Int.mul_neg] at z3
        rw [hf, Int.mul_assoc] at p3 p4
        exact hgo P Q (f * gx) (f * gy) a b (gr_smul hs hG g1 f) p2 ⟨by rw [z3.1]; omega, by rw [z3.2]; omega⟩
      · right
        obtain ⟨f, hf⟩ : ∃ f : Int, e = 2 * f + 1 := ⟨e / 2, by omega⟩
        have z3 := gr_sc s k f gx gy
        rw [g2, g3, Int.mul_neg, Int.mul_neg] at z3
        rw [hf, Int.add_mul, Int.one_mul, Int.mul_assoc] at p3 p4
        have hsf := gr_smul hs hG g1 f
        have h2 := gr_Cn_sh hs (P := P) (Q := Q) (gr_sneg hs hG hsf)
        refine gr_Cn_tr ?_ (gr_Cn_sy h2)
        have h3 := gr_lin s k P Q (6 * -(f * gx)) (6 * -(f * gy))
        rw [(gr_sc s k 6 _ _).1, (gr_sc s k 6 _ _).2, (gr_neg s k _ _).1, (gr_neg s k _ _).2, z3.1, z3.2] at h3
        exact gr_line hs hk hS2 hline2.1 hline2.2 (by omega) (by omega)
end
